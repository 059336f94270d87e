/-! ===== calls one by one: changes ===== -/
section OPS4
variable {I J : Mem} {g : GS}
abbrev FM6 : FP := fun k _ s => k = 27 ∨ (k = 26 ∧ s ≠ 7 ∧ s ≠ 6)
theorem f67 : ∀ k i s : Nat, FM6 k i s → FM7 k i s := fun k i s z => by unfold FM6 at z; unfold FM7; omega
theorem f6_w : ∀ k i s : Nat, FW k i s → FM6 k i s := fun k i s z => by unfold FW at z; unfold FM6; omega
theorem f6_ms : ∀ k i s : Nat, FMS k i s → FM6 k i s := fun k i s z => by
  rcases z with z | z | z
  · exact f6_w k i s z
  · unfold FMP at z; unfold FM6; omega
  · unfold FL at z; unfold FM6; omega
theorem t_hold (h : GW J g) : Tr (f_M_holds J) (fun _ K => GW K g ∧ Fm FM6 J K) := by
  unfold f_M_holds
  refine tr_call (t_mlays (k := 0) (b := 0) (k' := 2) (b' := 0) (I := J) (by decide) (by decide) (by decide) (by decide) (by decide) (by decide) (by decide)) ?_
  rintro _ K ⟨-, f⟩
  exact tr_ret ⟨h.fm f (fun s _ z => absurd z.2.1 (by decide)), f.mono (fun a b c z => Or.inl z.1)⟩
theorem t_remb {k : Nat} (hk : k < 3) (h6 : J 26 0 6 = 0) : Tr (f_M_remembers k J) (fun _ K => Fm FM7 J K) := by
  unfold f_M_remembers
  rw [if_pos (by omega), h6, if_neg (by decide)]
  unfold f_M_remembers_j50
  rw [h6, show (16860 : Int) * 0 = ((0 : Nat) : Int) from rfl]
  refine tr_call (t_mlays (k := k) (b := 0) (k' := 3) (b' := 0) (I := J) (by omega) (by decide) (by unfold mLen; rw [if_pos hk]; exact Nat.le_refl _) (by decide) (by unfold mLen; rw [if_pos hk]; decide) (by decide) (by omega)) ?_
  rintro _ K ⟨-, f⟩
  try dsimp only [ltI]
  exact tr_ret ((f.mono (fun a b c z => Or.inl z.1)).trans (Fm.sI (by decide) (by omega) (by omega) (Or.inr (Or.inr ⟨rfl, by decide⟩))))
theorem t_rec (h6 : J 26 0 6 = 0) (x : Int) : Tr (f_M_recorded x J) (fun y K => y = x ∧ Fm FM7 J K) := by
  unfold f_M_recorded
  by_cases q : w32 x < 0
  · rw [if_pos q]
    exact tr_ret ⟨rfl, Fm.refl _ _⟩
  · rw [if_neg q]
    refine tr_call (t_remb (k := 2) (by decide) h6) ?_
    rintro _ K f
    exact tr_ret ⟨rfl, f⟩
theorem m_mut {now : Mem → Option (Int × Mem)} {x : Int} (hI : FS I) (cp : CP I J) (hn : ∀ K : Mem, GW K gF → Tr (now K) (fun y L => y = x ∧ Fm FM6 K L)) : Tr (bnd (f_M_holds (sI J 26 0 7 0)) fun _ J9 => bnd (now J9) fun x13 J12 => bnd (f_M_recorded x13 J12) fun x16 J15 => some (x16, J15)) (fun y K => w32 y = w32 x ∧ Fm FM7 (sI J 26 0 7 0) K) := by
  have e6 : (sI J 26 0 7 0) 26 0 6 = 0 := by rw [sI_ne (by decide), cp.1 26 0 6 (by decide) (by decide), hI.at (by decide) (by decide)]; rfl
  refine tr_call (t_hold ((hI.2.2.1.cp cp).t0 (v := 0))) ?_
  rintro _ K1 ⟨gw, f1⟩
  refine tr_call (hn K1 gw) ?_
  rintro y K2 ⟨rfl, f2⟩
  have f12 := f1.trans f2
  refine tr_call (t_rec (by rw [f12.at (by decide) (by decide)]; exact e6) _) ?_
  rintro y2 K3 ⟨rfl, f3⟩
  exact tr_ret ⟨rfl, (f12.mono f67).trans f3⟩
theorem FS.rem (hI : FS I) : Tr (f_His_remember 0 I) (fun _ J => GC J 0 gF ∧ GC J 2 gF ∧ PTi J ∧ Fm (FX 0 2) I J) := by
  have e3 : I 9 0 3 = 0 := (hI.at (by decide) (by decide)).trans rfl
  unfold f_His_remember
  rw [if_pos (by decide), e3, if_pos (by decide)]
  refine tr_call (t_gtakeFrom (t := 2) (a := 0) (hI.g (by decide) (by decide)) hI.1 (by decide)) ?_
  rintro _ J ⟨gc2, f⟩
  have gc0 : GC J 0 gF := hI.1.fm f (fun k i s z q => by unfold FG at z q; omega)
  have pt : PTi J := hI.2.1.fgu (f.mono (fun _ _ _ => Or.inl))
  have e3' : J 9 0 3 = 0 := (f.at (by decide) (by unfold FG; omega)).trans e3
  have f9 : ∀ v w : Int, Fm (fun k _ _ => k = 9) J (sI (sI J 9 0 3 v) 9 0 4 w) := fun v w => (Fm.sI (by decide) (by omega) (by omega) rfl).trans (Fm.sI (by decide) (by omega) (by omega) rfl)
  rw [e3', if_pos (by decide)]
  unfold f_His_remember_j35
  try dsimp only [ltI]
  obtain ⟨c, kf, pl, hp⟩ := pt
  exact tr_ret ⟨gc0.fm (f9 _ _) (fun k i s z q => by unfold FG at z; omega), gc2.fm (f9 _ _) (fun k i s z q => by unfold FG at z; omega), ⟨c, kf, pl, hp.fm (f9 _ _) (fun i s => ⟨fun z => absurd z (by decide), fun z => absurd z (by decide)⟩)⟩, (f.mono fx_h).trans ((f9 _ _).mono (fun a b c z => Or.inr (Or.inr (by omega))))⟩
theorem ok_27 (hI : FS I) (a1 : Int) (h1 : w32 a1 = a1) : OKW (f_L_step a1) (f_M_step a1) I := by
  by_cases hr : 1 ≤ a1 ∧ a1 < 51
  · obtain ⟨n, rfl, hn⟩ : ∃ n : Nat, a1 = (n : Int) ∧ n < 51 := ⟨a1.toNat, by omega, by omega⟩
    refine ok_W (fp := f_PR_step (n : Int)) (u := w32 ((stepsG n gF).1 : Int)) ?_ (fun J cp => m7_end ?_)
    · unfold f_PR_step
      rw [h1, if_neg (by omega), if_neg (by omega)]
      refine tr_call hI.rem ?_
      rintro _ J1 ⟨gc0, gc2, pt, f1⟩
      refine tr_call (t_makeSteps gc0 WF_gF pt (by omega)) ?_
      rintro x J2 ⟨rfl, gc, -, -, f2⟩
      exact tr_ret ⟨⟨_, rfl, rfl⟩, CP_x hI (f1.trans (f2.mono fx_s)) gc (gc2.fm f2 (fun k i s z q => by unfold FG at z; unfold FST FG FPA at q; omega))⟩
    · unfold f_M_step
      try dsimp only [ltI]
      rw [chk_in (sI_self _ _ _ _ _) (by rw [h1, w32c 1 (by decide), w32c 50 (by decide)]; omega)]
      exact m_mut (now := f_M_stepsMany (n : Int)) hI cp (fun K gw => tr_mono (t_mstepsMany gw WF_gF (by omega)) (fun _ _ z => ⟨z.1, z.2.2.mono f6_ms⟩))
  · refine ok_X (fp := f_PR_step a1) (E := xIA) (J := thrw I) (k := 1) ?_ CP_thr (if_pos rfl) (by decide) ?_
    · unfold f_PR_step
      rw [h1]
      by_cases q : a1 < 1
      · rw [if_pos q]
      · rw [if_neg q, if_pos (by omega)]
    · unfold f_M_step
      exact t_out MPo_s (chk_out (sI_self _ _ _ _ _) (Or.inl rfl) (by rw [h1, w32c 1 (by decide), w32c 50 (by decide)]; omega))
theorem ok_28 (hI : FS I) : ∃ (r1 r2 : Int) (J K : Mem), f_PR_inline I = some (r1, J) ∧ f_M_inline J = some (r2, K) ∧ w32 r1 = w32 r2 ∧ dC I K ≤ 210600 ∧ dS I K ≤ 631700 := by
  refine ok_I (u := w32 ((inlG 40 gF).1 : Int)) ?_ (fun J cp => m7_I ?_)
  · unfold f_PR_inline
    refine tr_call hI.rem ?_
    rintro _ J1 ⟨gc0, gc2, pt, f1⟩
    refine tr_call (t_inlineAll gc0 WF_gF) ?_
    rintro x J2 ⟨rfl, gc, -, f2⟩
    exact tr_ret ⟨rfl, CP_x hI (f1.trans (f2.mono fx_u)) gc (gc2.fm f2 (fun k i s z q => by unfold FG at z; unfold FGU FG at q; omega))⟩
  · unfold f_M_inline
    try dsimp only [ltI]
    exact m_mut (now := f_M_inlines) hI cp (fun K gw => tr_mono (t_minlines gw WF_gF) (fun _ _ z => ⟨z.1, z.2.2.mono f6_w⟩))
theorem ok_29 (hI : FS I) (a1 a2 : Int) (h1 : w32 a1 = a1) (h2 : w32 a2 = a2) : OKW (f_L_make a1 a2) (f_M_make a1 a2) I := by
  by_cases hr : (0 ≤ a1 ∧ a1 < 66) ∧ 0 ≤ a2 ∧ a2 < 66
  · obtain ⟨p, hp, e1, e2⟩ := nat_pair hr
    refine ok_W (fp := f_PR_make a1 a2) (u := w32 (mkC gF a1 a2)) ?_ (fun J cp => m7_end ?_)
    · have key : Tr (f_PR_refusalOfMake a1 a2 I) (fun x J => x = mkC gF a1 a2 ∧ w32 x < 0 ∧ CP I J) := by
        unfold f_PR_refusalOfMake
        by_cases q1 : a1 < 26
        · rw [g_hasSymbol hI.1 hr.1, bI_pos (fun z => by omega), bnd_some, if_neg (by decide)]
          by_cases q2 : a2 < 26
          · rw [g_hasSymbol hI.1 hr.2, bI_pos (fun z => by omega), bnd_some, if_neg (by decide)]
            refine tr_call hI.read ?_
            rintro _ J1 ⟨pd, cp⟩
            rw [p_pairOf hr.1 hr.2, bnd_some, e1, p_countOf pd.1 hp, bnd_some, cz_F rfl, if_pos (by decide)]
            refine tr_ret ⟨?_, by decide, cp⟩
            rw [mkC_pos ⟨fun z => by omega, fun z => by omega⟩, cz_F rfl, if_pos rfl]
          · rw [g_hasSymbol hI.1 hr.2, bI_neg (fun z => z (by omega) (gF_Rs _)), bnd_some, if_pos (by decide)]
            refine tr_ret ⟨?_, by decide, CP_same⟩
            rw [mkC_neg (fun z => z.2 (by omega) (gF_Rs _))]
        · rw [g_hasSymbol hI.1 hr.1, bI_neg (fun z => z (by omega) (gF_Rs _)), bnd_some, if_pos (by decide)]
          refine tr_ret ⟨?_, by decide, CP_same⟩
          rw [mkC_neg (fun z => z.1 (by omega) (gF_Rs _))]
      unfold f_PR_make
      rw [sym_in h1 hr.1, bnd_some, if_neg (by decide), sym_in h2 hr.2, bnd_some, if_neg (by decide)]
      refine tr_call key ?_
      rintro x J1 ⟨rfl, hx, cp⟩
      rw [if_pos hx]
      exact tr_ret ⟨⟨_, rfl, rfl⟩, cp⟩
    · unfold f_M_make
      try dsimp only [ltI]
      rw [m_noPair1 (sI_self _ _ _ _ _) h1 h2 hr, bnd_some, if_pos (by decide)]
      exact m_mut (now := f_M_makeNow a1 a2) hI cp (fun K gw => tr_mono (t_mmakeNow gw WF_gF hr.1 hr.2) (fun _ _ z => ⟨z.1, z.2.2.mono f6_ms⟩))
  · refine pair_x (fp := f_PR_make) (fm := f_M_make) h1 h2 hr (fun x y _ _ ex ey z => ?_) (fun J e => ?_) (if_pos rfl)
    · unfold f_PR_make
      rw [ex, bnd_some]
      rcases z with z | ⟨z1, z2⟩
      · rw [if_pos z]
      · rw [if_neg z1, ey, bnd_some, if_pos z2]
    · unfold f_M_make
      try dsimp only [ltI]
      rw [e, bnd_some, if_neg (by decide)]
theorem ok_30 (hI : FS I) (a1 : Int) (h1 : w32 a1 = a1) : OKW (f_L_expand a1) (f_M_expand a1) I := by
  by_cases hr : 0 ≤ a1 ∧ a1 < 40
  · obtain ⟨j, rfl, hj⟩ : ∃ j : Nat, a1 = (j : Int) ∧ j < 40 := ⟨a1.toNat, by omega, by omega⟩
    refine ok_W (fp := f_PR_expand (j : Int)) (u := w32 (-4)) ?_ (fun J cp => m7_end ?_)
    · unfold f_PR_expand
      rw [h1, if_neg (by omega), if_pos (by omega), g_noRule hI h1, bnd_some, if_pos (by decide)]
      exact tr_ret ⟨⟨_, rfl, rfl⟩, CP_same⟩
    · unfold f_M_expand
      try dsimp only [ltI]
      rw [m_noRule1 (sI_self _ _ _ _ _) h1 (by omega), bnd_some, if_pos (by decide)]
      refine m_mut (now := f_M_expandNow (j : Int)) hI cp (fun K gw => ?_)
      unfold f_M_expandNow
      rw [m_isHere0 gw hj, bnd_some, if_pos (by decide)]
      exact tr_ret ⟨rfl, Fm.refl _ _⟩
  · refine ok_X (fp := f_PR_expand a1) (E := xIO) (J := thrw I) (k := 1) ?_ CP_thr (if_pos rfl) (by decide) ?_
    · unfold f_PR_expand
      rw [h1]
      by_cases q : a1 < 0
      · rw [if_pos q]
      · rw [if_neg q, if_neg (by omega)]
    · unfold f_M_expand
      try dsimp only [ltI]
      rw [m_noRule0 (sI_self _ _ _ _ _) h1 hr, bnd_some, if_neg (by decide)]
      exact t_out MPo_s rfl
theorem sy_app {a : Int} (ha : 0 ≤ a ∧ a < 26) (i : Nat) : SY (gR (gAppend gF a) i) := by
  intro x hx
  have e : gR (gAppend gF a) i = if i = 0 then [0, a] else gR gF i := rfl
  rw [e] at hx
  by_cases q : i = 0
  · rw [if_pos q] at hx
    rcases List.mem_cons.mp hx with rfl | hx
    · decide
    · rw [List.mem_singleton.mp hx]; omega
  · rw [if_neg q, gF_R, if_neg q] at hx
    cases hx
theorem ok_31 (hI : FS I) (a1 : Int) (h1 : w32 a1 = a1) : OKW (f_L_append a1) (f_M_append a1) I := by
  by_cases hr : 0 ≤ a1 ∧ a1 < 26
  · have hb := w32_rng a1
    rw [h1] at hb
    refine ok_W (fp := f_PR_append a1) (u := w32 2) ?_ (fun J cp => m7_end ?_)
    · unfold f_PR_append
      rw [p_isLetter hb.1 hb.2, bI_pos hr, bnd_some, if_neg (by decide), hI.len, bnd_some, if_pos (by decide)]
      refine tr_call hI.rem ?_
      rintro _ J1 ⟨gc0, gc2, pt, f1⟩
      refine tr_call (t_addLetter gc0 (by decide) (by decide) a1) ?_
      rintro _ J2 ⟨gc, f2⟩
      have el : ll (gL (gAppend gF a1)) (gR (gAppend gF a1) 0) = 2 := by
        show ll (gL gF) [0, a1] = 2
        rw [ll_cons, ll_cons, ll_nil]
        unfold sl
        rw [if_pos (by decide), if_pos hr.2]
        rfl
      rw [g_textLength gc (fun i _ => sy_app hr i), bnd_some, el]
      exact tr_ret ⟨⟨_, rfl, rfl⟩, CP_x hI (f1.trans (f2.mono fx_g)) gc (gc2.fm f2 (fun k i s z q => by unfold FG at z q; omega))⟩
    · unfold f_M_append
      try dsimp only [ltI]
      rw [chk_in (sI_self _ _ _ _ _) (by rw [h1, w0, w32c 25 (by decide)]; omega)]
      exact m_mut (now := f_M_appendNow a1) hI cp (fun K gw => tr_mono (t_mappendNow gw (by decide) (by decide) a1) (fun _ _ z => ⟨z.1, z.2.2.mono f6_w⟩))
  · have hb := w32_rng a1
    rw [h1] at hb
    refine ok_X (fp := f_PR_append a1) (E := xIA) (J := thrw I) (k := 1) ?_ CP_thr (if_pos rfl) (by decide) ?_
    · unfold f_PR_append
      rw [p_isLetter hb.1 hb.2, bI_neg hr, bnd_some, if_pos (by decide)]
    · unfold f_M_append
      exact t_out MPo_s (chk_out (sI_self _ _ _ _ _) (Or.inl rfl) (by rw [h1, w0, w32c 25 (by decide)]; omega))
theorem ok_32 (hI : FS I) (a1 : Int) (h1 : w32 a1 = a1) : OKW (f_L_cut a1) (f_M_cut a1) I := by
  by_cases hr : 1 ≤ a1 ∧ a1 < 401
  · refine ok_W (fp := f_PR_cut a1) (u := w32 (-6)) ?_ (fun J cp => m7_end ?_)
    · unfold f_PR_cut
      rw [h1, if_neg (by omega), if_neg (by omega), hI.len, bnd_some, if_neg (by rw [w32c 1 (by decide)]; omega)]
      exact tr_ret ⟨⟨_, rfl, rfl⟩, CP_same⟩
    · unfold f_M_cut
      try dsimp only [ltI]
      rw [chk_in (sI_self _ _ _ _ _) (by rw [h1, w32c 1 (by decide), w32c 400 (by decide)]; omega)]
      refine m_mut (now := f_M_cutNow a1) hI cp (fun K gw => ?_)
      have e3 : K 27 0 3 = 1 := gw.2.1
      unfold f_M_cutNow
      rw [e3, h1, if_neg (by rw [w32c 1 (by decide)]; omega)]
      exact tr_ret ⟨rfl, Fm.refl _ _⟩
  · refine ok_X (fp := f_PR_cut a1) (E := xIA) (J := thrw I) (k := 1) ?_ CP_thr (if_pos rfl) (by decide) ?_
    · unfold f_PR_cut
      rw [h1]
      by_cases q : a1 < 1
      · rw [if_pos q]
      · rw [if_neg q, if_pos (by omega)]
    · unfold f_M_cut
      exact t_out MPo_s (chk_out (sI_self _ _ _ _ _) (Or.inl rfl) (by rw [h1, w32c 1 (by decide), w32c 400 (by decide)]; omega))
theorem m_setx (h7 : J 26 0 7 = 0) {a b : Int} : f_M_set_j35 a b J = some (0, sI J 26 0 7 1) := by
  unfold f_M_set_j35 f_M_set_j40
  rw [m_f1 h7 (Or.inl rfl), bnd_some, if_neg (by decide)]
theorem set_j (hI : FS I) {j : Nat} (hj : j < 3) {lo hi a2 : Int} (h2 : w32 a2 = a2) (hlh : 0 ≤ lo ∧ hi < 100 ∧ lo ≤ hi)
    (hl : ∀ I : Mem, f_PR_lowest (4 + (j : Int)) I = some (lo, I)) (hh : ∀ I : Mem, f_PR_highest (4 + (j : Int)) I = some (hi, I))
    (ml : ∀ I : Mem, f_M_leastOf (j : Int) I = some (lo, I)) (mh : ∀ I : Mem, f_M_mostOf (j : Int) I = some (hi, I)) : OKW (f_L_set (4 + (j : Int)) a2) (f_M_set (4 + (j : Int)) a2) I := by
  have w1 : w32 (4 + (j : Int)) = 4 + (j : Int) := w32_of (by omega) (by omega)
  have wl : w32 lo = lo := w32_of (by omega) (by omega)
  have wh : w32 hi = hi := w32_of (by omega) (by omega)
  have e4 : 4 + (j : Int) - 4 = (j : Int) := by omega
  by_cases hr : lo ≤ a2 ∧ a2 ≤ hi
  · refine ok_W (fp := f_PR_set (4 + (j : Int)) a2) (u := w32 (gN gF j)) ?_ (fun J cp => m7_end ?_)
    · unfold f_PR_set
      rw [w1, if_neg (by omega), if_neg (by omega), hl, bnd_some, h2, wl, if_neg (by omega), hh, bnd_some, wh, if_neg (by omega)]
      refine tr_call hI.rem ?_
      rintro _ J1 ⟨gc0, gc2, pt, f1⟩
      rw [g_number gc0 hj, bnd_some]
      refine tr_call (t_putNumber gc0 hj a2) ?_
      rintro _ J2 ⟨gc, f2⟩
      exact tr_ret ⟨⟨_, rfl, rfl⟩, CP_x hI (f1.trans (f2.mono fx_g)) gc (gc2.fm f2 (fun k i s z q => by unfold FG at z q; omega))⟩
    · unfold f_M_set
      try dsimp only [ltI]
      rw [m_in1 (by rw [w1, w32c 4 (by decide), w32c 6 (by decide)]; omega), bnd_some, if_neg (by decide), e4, ml, bnd_some, mh, bnd_some, m_in1 (by rw [h2, wl, wh]; exact hr), bnd_some, if_neg (by decide)]
      unfold f_M_set_j40
      rw [m_fz (sI_self _ _ _ _ _), bnd_some, if_pos (by decide), e4]
      exact m_mut (now := f_M_setNow (j : Int) a2) hI cp (fun K gw => tr_mono (t_msetNow gw hj a2) (fun _ _ z => ⟨z.1, z.2.2.mono f6_w⟩))
  · refine ok_X (fp := f_PR_set (4 + (j : Int)) a2) (E := xIA) (J := thrw I) (k := 1) ?_ CP_thr (if_pos rfl) (by decide) ?_
    · unfold f_PR_set
      rw [w1, if_neg (by omega), if_neg (by omega), hl, bnd_some, h2, wl]
      by_cases q : a2 < lo
      · rw [if_pos q]
      · rw [if_neg q, hh, bnd_some, wh, if_pos (by omega)]
    · unfold f_M_set
      try dsimp only [ltI]
      rw [m_in1 (by rw [w1, w32c 4 (by decide), w32c 6 (by decide)]; omega), bnd_some, if_neg (by decide), e4, ml, bnd_some, mh, bnd_some, m_in0 (by rw [h2, wl, wh]; omega), bnd_some, if_pos (by decide), m_setx (sI_self _ _ _ _ _)]
      exact t_out MPo_s rfl
theorem lo_0 (I : Mem) : f_PR_lowest (4 + ((0 : Nat) : Int)) I = some (2, I) := by unfold f_PR_lowest; rw [if_pos (by decide)]
theorem lo_1 (I : Mem) : f_PR_lowest (4 + ((1 : Nat) : Int)) I = some (0, I) := by unfold f_PR_lowest; rw [if_neg (by decide)]
theorem lo_2 (I : Mem) : f_PR_lowest (4 + ((2 : Nat) : Int)) I = some (0, I) := by unfold f_PR_lowest; rw [if_neg (by decide)]
theorem hi_0 (I : Mem) : f_PR_highest (4 + ((0 : Nat) : Int)) I = some (9, I) := by unfold f_PR_highest; rw [if_pos (by decide)]
theorem hi_1 (I : Mem) : f_PR_highest (4 + ((1 : Nat) : Int)) I = some (2, I) := by unfold f_PR_highest; rw [if_neg (by decide), if_pos (by decide)]
theorem hi_2 (I : Mem) : f_PR_highest (4 + ((2 : Nat) : Int)) I = some (1, I) := by unfold f_PR_highest; rw [if_neg (by decide), if_neg (by decide)]
theorem ml_0 (I : Mem) : f_M_leastOf ((0 : Nat) : Int) I = some (2, I) := by unfold f_M_leastOf; rw [if_pos (by decide)]
theorem ml_1 (I : Mem) : f_M_leastOf ((1 : Nat) : Int) I = some (0, I) := by unfold f_M_leastOf; rw [if_neg (by decide)]
theorem ml_2 (I : Mem) : f_M_leastOf ((2 : Nat) : Int) I = some (0, I) := by unfold f_M_leastOf; rw [if_neg (by decide)]
theorem mh_0 (I : Mem) : f_M_mostOf ((0 : Nat) : Int) I = some (9, I) := by unfold f_M_mostOf; rw [if_pos (by decide)]
theorem mh_1 (I : Mem) : f_M_mostOf ((1 : Nat) : Int) I = some (2, I) := by unfold f_M_mostOf; rw [if_neg (by decide), if_pos (by decide)]
theorem mh_2 (I : Mem) : f_M_mostOf ((2 : Nat) : Int) I = some (1, I) := by unfold f_M_mostOf; rw [if_neg (by decide), if_neg (by decide)]
theorem ok_33 (hI : FS I) (a1 a2 : Int) (h1 : w32 a1 = a1) (h2 : w32 a2 = a2) : OKW (f_L_set a1 a2) (f_M_set a1 a2) I := by
  rcases (show a1 = 4 + ((0 : Nat) : Int) ∨ a1 = 4 + ((1 : Nat) : Int) ∨ a1 = 4 + ((2 : Nat) : Int) ∨ ¬ (4 ≤ a1 ∧ a1 ≤ 6) by omega) with rfl | rfl | rfl | hr
  · exact set_j hI (by decide) h2 (by decide) lo_0 hi_0 ml_0 mh_0
  · exact set_j hI (by decide) h2 (by decide) lo_1 hi_1 ml_1 mh_1
  · exact set_j hI (by decide) h2 (by decide) lo_2 hi_2 ml_2 mh_2
  · refine ok_X (fp := f_PR_set a1 a2) (E := xIA) (J := thrw I) (k := 1) ?_ CP_thr (if_pos rfl) (by decide) ?_
    · unfold f_PR_set
      rw [h1]
      by_cases q : a1 < 4
      · rw [if_pos q]
      · rw [if_neg q, if_pos (by omega)]
    · unfold f_M_set
      try dsimp only [ltI]
      rw [m_in0 (by rw [h1, w32c 4 (by decide), w32c 6 (by decide)]; omega), bnd_some, if_pos (by decide), m_setx (sI_self _ _ _ _ _)]
      exact t_out MPo_s rfl
theorem ok_37 (hI : FS I) (a1 : Int) (h1 : w32 a1 = a1) : OKW (f_L_save a1) (f_M_save a1) I := by
  by_cases hr : 0 ≤ a1 ∧ a1 < 2
  · obtain ⟨j, rfl, hj⟩ : ∃ j : Nat, a1 = (j : Int) ∧ j < 2 := ⟨a1.toNat, by omega, by omega⟩
    refine ok_W (fp := f_PR_save (j : Int)) (u := w32 (gSize gF)) ?_ (fun J cp => m7_end ?_)
    · have key : Tr (f_His_keep (j : Int) 0 I) (fun _ J => GC J 0 gF ∧ GC J (10 + j) gF ∧ Fm (FX 0 (10 + j)) I J) := by
        unfold f_His_keep
        rw [if_pos (by decide), h1, if_neg (by omega), if_pos (by omega), if_pos (by omega), Int.toNat_natCast]
        refine tr_call (t_gtakeFrom (t := 10 + j) (a := 0) (hI.g (by omega) (by omega)) hI.1 (by omega)) ?_
        rintro _ J ⟨gc2, f⟩
        have gc0 : GC J 0 gF := hI.1.fm f (fun k i s z q => by unfold FG at z q; omega)
        have f9 : Fm (fun k _ _ => k = 24) J (sI J 24 0 j 1) := Fm.sI (by decide) (by omega) (by omega) rfl
        try dsimp only [ltI]
        exact tr_ret ⟨gc0.fm f9 (fun k i s z q => by unfold FG at z; omega), gc2.fm f9 (fun k i s z q => by unfold FG at z; omega), (f.mono fx_h).trans (f9.mono (fun a b c z => Or.inr (Or.inr (by omega))))⟩
      unfold f_PR_save
      rw [h1, if_neg (by omega), if_pos (by omega)]
      refine tr_call key ?_
      rintro _ J1 ⟨gc0, gc2, f1⟩
      rw [g_totalSize gc0, bnd_some]
      exact tr_ret ⟨⟨_, rfl, rfl⟩, CP_x hI f1 gc0 gc2⟩
    · have gw := (hI.2.2.1.cp cp).t0 (v := 0)
      unfold f_M_save
      try dsimp only [ltI]
      rw [m_noSlot1 (sI_self _ _ _ _ _) h1 hr, bnd_some, if_pos (by decide), show (16860 : Int) * (j : Int) = ((16860 * j : Nat) : Int) by omega, h1]
      refine tr_call (t_mlays (k := 0) (b := 0) (k' := 4) (b' := 16860 * j) (by decide) (by decide) (by decide) (by show 16860 * j + 16860 ≤ 33720; omega) (by decide) (by decide) (by decide)) ?_
      rintro _ K ⟨-, f⟩
      have gk : GW K gF := gw.fm f (fun s _ z => absurd z.2.1 (by decide))
      have f28 : Fm FM7 K (sI K 28 0 j 1) := Fm.sI (by decide) (by omega) (by omega) (Or.inr (Or.inl rfl))
      have gk2 : GW (sI K 28 0 j 1) gF := GWf.congr gk (fun s _ => sI_ne (by omega))
      rw [if_pos (by omega), Int.toNat_natCast]
      try dsimp only [ltI]
      rw [m_sizeNow gk2, bnd_some]
      exact tr_ret ⟨rfl, (f.mono (fun a b c z => Or.inl z.1)).trans f28⟩
  · refine ok_X (fp := f_PR_save a1) (E := xIA) (J := thrw I) (k := 1) ?_ CP_thr ?_ (by decide) ?_
    · unfold f_PR_save
      rw [h1]
      by_cases q : a1 < 0
      · rw [if_pos q]
      · rw [if_neg q, if_neg (by omega)]
    · show (if xIA = xIA then _ else _) = _
      rw [if_pos rfl]
    · unfold f_M_save
      try dsimp only [ltI]
      rw [m_noSlot0 (sI_self _ _ _ _ _) h1 hr, bnd_some, if_neg (by decide)]
      exact t_out MPo_s rfl
end OPS4
