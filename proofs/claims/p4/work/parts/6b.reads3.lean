/-! ===== every call that reads, third part ===== -/
section READS3
variable {I J : Mem} {g g' : GS} {ps : List GS} {kp : Nat → Option GS} {bs rp : List Int} {s : SS}
theorem t_placeIn (gw : GW J g) (w : WF g) (h7 : J 26 0 7 = 0) {j : Nat} (hj : j < (gTx g).length) : Tr (f_M_noPlace (j : Int) J) (fun x K => x = 0 ∧ UNF K g (gTx g) ∧ GW K g ∧ Fm FUN J K) := by
  have l4 := gTx_len w
  have l5 : (gT g).length ≤ 400 := w.2.2.2.2.1
  unfold f_M_noPlace
  refine tr_call (t_munfolds gw w) ?_
  rintro x K ⟨rfl, hu, f⟩
  rw [m_in1 (by rw [w32_of (x := (j : Int)) (by omega) (by omega), w0, w32_of (x := ((gTx g).length : Int) - 1) (by omega) (by omega)]; omega), bnd_some, if_neg (by decide), m_fz (by rw [f.at (by decide) (by unfold FUN; omega), h7]), bnd_some, if_pos (Or.inl rfl)]
  exact tr_ret ⟨rfl, hu, gw.fun_ f, f⟩
theorem t_placeOut (gw : GW J g) (w : WF g) (h7 : J 26 0 7 = 0) {a1 : Int} (h1 : w32 a1 = a1) (hr : ¬ (0 ≤ a1 ∧ a1 < (gTx g).length)) : Tr (f_M_noPlace a1 J) (fun x K => x = 1 ∧ ∃ K0 : Mem, K = sI K0 26 0 7 1 ∧ GW K0 g ∧ Fm FUN J K0) := by
  have l4 := gTx_len w
  have l5 : (gT g).length ≤ 400 := w.2.2.2.2.1
  unfold f_M_noPlace
  refine tr_call (t_munfolds gw w) ?_
  rintro x K ⟨rfl, hu, f⟩
  rw [m_in0 (by rw [h1, w0, w32_of (x := ((gTx g).length : Int) - 1) (by omega) (by omega)]; omega), bnd_some, if_pos (by decide), m_f1 (by rw [f.at (by decide) (by unfold FUN; omega), h7]) (Or.inl rfl), bnd_some, if_pos (Or.inr rfl)]
  exact tr_ret ⟨rfl, K, rfl, gw.fun_ f, f⟩
theorem m_placeX {e : Option (Int × Mem)} {fm : Int → Mem → Option (Int × Mem)} (sm : SM J (g, ps, kp, bs, rp)) (w : WF g) {a1 : Int} (h1 : w32 a1 = a1) (hr : ¬ (0 ≤ a1 ∧ a1 < (gTx g).length)) {K : Int → Mem → Option (Int × Mem)} (hk : ∀ (x : Int) (L : Mem), x = 1 → K x L = some (0, L)) : Tr (bnd (f_M_noPlace a1 (sI J 26 0 7 0)) K) (fun _ L => L 26 0 7 = 1 ∧ SM L (g, ps, kp, bs, rp) ∧ Fm FMo J L) := by
  have s0 := sm.t7 (v := 0)
  refine tr_call (t_placeOut s0.1 w (sI_self _ _ _ _ _) h1 hr) ?_
  rintro x L ⟨rfl, K0, rfl, gw, f⟩
  rw [hk 1 _ rfl]
  have s1 := (s0.rdq (f.mono fn_u) gw)
  exact tr_ret ⟨sI_self _ _ _ _ _, s1.1.t7, f7_mo.trans ((f.mono (fun a b c z => by unfold FUN at z; unfold FMo; omega)).trans f7_mo)⟩
theorem og_9 (h : SI I s) (a1 : Int) (h1 : w32 a1 = a1) : OGW (f_L_letterAt a1) (f_M_letterAt a1) I := by
  obtain ⟨g, ps, kp, bs, rp⟩ := s
  have w : WF g := h.2.2.1
  have l4 := gTx_len w
  have l5 : (gT g).length ≤ 400 := w.2.2.2.2.1
  have hT : ll (gL g) (gR g 0) = (gT g).length := w.2.2.1
  have et : f_G_textLength 0 I = some (((gT g).length : Int), I) := by rw [g_textLength h.1.1 (fun i hi => w.sy hi)]; show some (ll (gL g) (gR g 0), I) = _; rw [hT]
  by_cases hr : 0 ≤ a1 ∧ a1 < (gTx g).length
  · obtain ⟨j, rfl, hj⟩ : ∃ j : Nat, a1 = (j : Int) ∧ j < (gTx g).length := ⟨a1.toNat, by omega, by omega⟩
    refine og_W (fp := f_PR_letterAt (j : Int)) (s' := (g, ps, kp, bs, rp)) (u := w32 ((gTx g).getD j (-1))) h h.2.2 ?_ (fun J sm => m_endG ?_)
    · unfold f_PR_letterAt
      rw [h1, if_neg (by omega), et, bnd_some, w32_of (x := ((gT g).length : Int)) (by omega) (by omega), if_pos (by omega), g_letterOfText h.1.1 w hj, bnd_some]
      exact tr_ret ⟨⟨_, rfl, rfl⟩, h.1, Fm.refl _ _⟩
    · have s0 := sm.t7 (v := 0)
      unfold f_M_letterAt
      try dsimp only [ltI]
      refine tr_call (t_placeIn s0.1 w (sI_self _ _ _ _ _) hj) ?_
      rintro x K ⟨rfl, hu, gw, f⟩
      rw [if_pos (by decide), h1, if_pos (by omega), Int.toNat_natCast, (hu j hj).1]
      exact tr_ret ⟨rfl, s0.rdq (f.mono fn_u) gw⟩
  · refine og_X (fp := f_PR_letterAt a1) (E := xIO) (k := 1) h ?_ (if_pos rfl) (by decide) (fun J sm => ?_)
    · unfold f_PR_letterAt
      rw [h1]
      by_cases q : a1 < 0
      · rw [if_pos q]
      · rw [if_neg q, et, bnd_some, w32_of (x := ((gT g).length : Int)) (by omega) (by omega), if_neg (by omega)]
    · unfold f_M_letterAt
      try dsimp only [ltI]
      exact m_placeX (e := none) (fm := fun _ _ => none) sm w h1 hr (fun x L e => by rw [e, if_neg (by decide)])
theorem og_10 (h : SI I s) (a1 : Int) (h1 : w32 a1 = a1) : OGW (f_L_symbolOf a1) (f_M_symbolOf a1) I := by
  obtain ⟨g, ps, kp, bs, rp⟩ := s
  have w : WF g := h.2.2.1
  have l4 := gTx_len w
  have l5 : (gT g).length ≤ 400 := w.2.2.2.2.1
  have hT : ll (gL g) (gR g 0) = (gT g).length := w.2.2.1
  have et : f_G_textLength 0 I = some (((gT g).length : Int), I) := by rw [g_textLength h.1.1 (fun i hi => w.sy hi)]; show some (ll (gL g) (gR g 0), I) = _; rw [hT]
  by_cases hr : 0 ≤ a1 ∧ a1 < (gTx g).length
  · obtain ⟨j, rfl, hj⟩ : ∃ j : Nat, a1 = (j : Int) ∧ j < (gTx g).length := ⟨a1.toNat, by omega, by omega⟩
    refine og_W (fp := f_PR_symbolOf (j : Int)) (s' := (g, ps, kp, bs, rp)) (u := w32 (pO (gL g) (gR g 0) (j : Int))) h h.2.2 ?_ (fun J sm => m_endG ?_)
    · unfold f_PR_symbolOf
      rw [h1, if_neg (by omega), et, bnd_some, w32_of (x := ((gT g).length : Int)) (by omega) (by omega), if_pos (by omega), show 43 * 0 = rix 0 0 from rfl, g_placeOver h.1.1 w (by decide) (by omega), bnd_some]
      exact tr_ret ⟨⟨_, rfl, rfl⟩, h.1, Fm.refl _ _⟩
    · have s0 := sm.t7 (v := 0)
      unfold f_M_symbolOf
      try dsimp only [ltI]
      refine tr_call (t_placeIn s0.1 w (sI_self _ _ _ _ _) hj) ?_
      rintro x K ⟨rfl, hu, gw, f⟩
      obtain ⟨k, hk, hk2, hk3, hk4⟩ := (hu j hj).2
      rw [if_pos (by decide), h1, if_pos (by omega), Int.toNat_natCast, hk, ← pO_uniq w (w.1 0 (by decide)) hk2 hk3 hk4]
      exact tr_ret ⟨rfl, s0.rdq (f.mono fn_u) gw⟩
  · refine og_X (fp := f_PR_symbolOf a1) (E := xIO) (k := 1) h ?_ (if_pos rfl) (by decide) (fun J sm => ?_)
    · unfold f_PR_symbolOf
      rw [h1]
      by_cases q : a1 < 0
      · rw [if_pos q]
      · rw [if_neg q, et, bnd_some, w32_of (x := ((gT g).length : Int)) (by omega) (by omega), if_neg (by omega)]
    · unfold f_M_symbolOf
      try dsimp only [ltI]
      exact m_placeX (e := none) (fm := fun _ _ => none) sm w h1 hr (fun x L e => by rw [e, if_neg (by decide)])
theorem og_13 (h : SI I s) : OGI f_PR_gap f_M_gap I := by
  obtain ⟨g, ps, kp, bs, rp⟩ := s
  have w : WF g := h.2.2.1
  refine og_I (s' := (g, ps, kp, bs, rp)) (u := w32 (gapN (gTx g) (gT g))) h h.2.2 ?_ (fun J sm => ?_)
  · unfold f_PR_gap
    refine tr_call (t_unfold h.1.1 w) ?_
    rintro _ K ⟨tx, f⟩
    rw [s_gap tx (h.1.1.fsv f).2.2.1, bnd_some]
    exact tr_ret ⟨rfl, h.1.sv f⟩
  · refine tr_mono (t_mgap sm.1 w) ?_
    rintro x K ⟨rfl, gw, f, -⟩
    exact ⟨rfl, sm.op (f.mono (fun a b c z => by unfold FUN at z; unfold FMp; omega)) gw, f.mono (fun a b c z => by unfold FUN at z; unfold FMo; omega)⟩
theorem og_17 (h : SI I s) : ∃ (r1 r2 : Int) (J K : Mem) (s' : SS), f_PR_digest I = some (r1, J) ∧ f_M_digest J = some (r2, K) ∧ w64 r1 = w64 r2 ∧ SI K s' ∧ Rm I K := by
  obtain ⟨g, ps, kp, bs, rp⟩ := s
  have w : WF g := h.2.2.1
  have hc : Tr (f_PR_digest I) (fun x K => x = dgN (gTx g) (gTx g).length ∧ SC K (g, ps, kp, bs, rp) ∧ Fm FCl I K) := by
    unfold f_PR_digest
    refine tr_call (t_unfold h.1.1 w) ?_
    rintro _ K ⟨tx, f⟩
    rw [s_number tx, bnd_some]
    exact tr_ret ⟨rfl, h.1.sv f⟩
  obtain ⟨r1, J, e1, u1, c1, f1⟩ := hc
  have sm := h.2.1.cl f1
  obtain ⟨r2, K, e2, u2, gw, f2, -⟩ := t_mdigest sm.1 w
  have f2o : Fm FMo J K := f2.mono (fun a b c z => by unfold FUN at z; unfold FMo; omega)
  exact ⟨r1, r2, J, K, (g, ps, kp, bs, rp), e1, e2, by rw [u1, u2], ⟨c1.mo f2o, sm.op (f2.mono (fun a b c z => by unfold FUN at z; unfold FMp; omega)) gw, h.2.2⟩, rm_2 f1 f2o⟩
theorem cz_w (g : GS) (p : Nat) : w32 (cz g p zE) = cz g p zE := by
  have := cz_rng g p zE
  have := zE_eq
  exact w32_of (by omega) (by omega)
theorem kz_w (g : GS) (p : Nat) : w32 (kz g p 40) = kz g p 40 := by
  have := kz_rng g p 40
  exact w32_of (by omega) (by omega)
theorem og_18 (h : SI I s) (a1 a2 : Int) (h1 : w32 a1 = a1) (h2 : w32 a2 = a2) : OGW (f_L_count a1 a2) (f_M_count a1 a2) I := by
  obtain ⟨g, ps, kp, bs, rp⟩ := s
  have w : WF g := h.2.2.1
  by_cases hr : (0 ≤ a1 ∧ a1 < 66) ∧ 0 ≤ a2 ∧ a2 < 66
  · obtain ⟨p, hp, e1, e2⟩ := nat_pair hr
    refine og_W (fp := f_PR_count a1 a2) (s' := (g, ps, kp, bs, rp)) (u := w32 (cz g p zE)) h h.2.2 ?_ (fun J sm => m_endG ?_)
    · unfold f_PR_count
      rw [sym_in h1 hr.1, bnd_some, if_neg (by decide), sym_in h2 hr.2, bnd_some, if_neg (by decide)]
      refine tr_call (t_readFrom h.1.1 w h.1.2.2.1) ?_
      rintro _ K ⟨pd, pt, gc, f⟩
      rw [p_pairOf hr.1 hr.2, bnd_some, e1, p_countOf pd.1 hp, bnd_some]
      exact tr_ret ⟨⟨_, rfl, rfl⟩, h.1.pa f gc pt⟩
    · have s0 := sm.t7 (v := 0)
      unfold f_M_count
      try dsimp only [ltI]
      rw [m_noPair1 (sI_self _ _ _ _ _) h1 h2 hr, bnd_some, if_pos (by decide)]
      refine tr_call (t_laysPairs s0.1 (fun i hi => w.sy hi)) ?_
      rintro _ K ⟨mp, gw, f⟩
      unfold f_M_pair
      rw [bnd_some, e2, w32_of (x := (p : Int)) (by omega) (by omega), if_pos (by omega), Int.toNat_natCast, (mp p hp).1]
      exact tr_ret ⟨rfl, s0.rdq (f.mono fn_mp) gw⟩
  · refine pair_xG (fp := f_PR_count) (fm := f_M_count) h h1 h2 hr (fun x y ex ey z => ?_) (fun J e => ?_) (if_pos rfl)
    · unfold f_PR_count
      rw [ex, bnd_some]
      rcases z with z | ⟨z1, z2⟩
      · rw [if_pos z]
      · rw [if_neg z1, ey, bnd_some, if_pos z2]
    · unfold f_M_count
      try dsimp only [ltI]
      rw [e, bnd_some, if_neg (by decide)]
theorem og_21 (h : SI I s) (a1 a2 : Int) (h1 : w32 a1 = a1) (h2 : w32 a2 = a2) : OGW (f_L_gain a1 a2) (f_M_gain a1 a2) I := by
  obtain ⟨g, ps, kp, bs, rp⟩ := s
  have w : WF g := h.2.2.1
  by_cases hr : (0 ≤ a1 ∧ a1 < 66) ∧ 0 ≤ a2 ∧ a2 < 66
  · obtain ⟨p, hp, e1, e2⟩ := nat_pair hr
    refine og_W (fp := f_PR_gain a1 a2) (s' := (g, ps, kp, bs, rp)) (u := w32 (if cz g p zE = 0 then 0 else cz g p zE - (if kz g p 40 = -1 then 2 else 0))) h h.2.2 ?_ (fun J sm => m_endG ?_)
    · unfold f_PR_gain
      rw [sym_in h1 hr.1, bnd_some, if_neg (by decide), sym_in h2 hr.2, bnd_some, if_neg (by decide)]
      refine tr_call (t_readFrom h.1.1 w h.1.2.2.1) ?_
      rintro _ K ⟨pd, pt, gc, f⟩
      rw [p_pairOf hr.1 hr.2, bnd_some, e1, p_countOf pd.1 hp, bnd_some, cz_w]
      by_cases q : cz g p zE = 0
      · rw [if_pos q, if_pos q]
        exact tr_ret ⟨⟨_, rfl, by rw [q]⟩, h.1.pa f gc pt⟩
      · rw [if_neg q, if_neg q, p_keptOf pd.1 hp, bnd_some, kz_w]
        by_cases q2 : kz g p 40 = -1
        · rw [if_pos q2, if_pos q2]
          exact tr_ret ⟨⟨_, rfl, rfl⟩, h.1.pa f gc pt⟩
        · rw [if_neg q2, if_neg q2]
          exact tr_ret ⟨⟨_, rfl, by rw [Int.sub_zero]⟩, h.1.pa f gc pt⟩
    · have s0 := sm.t7 (v := 0)
      unfold f_M_gain
      try dsimp only [ltI]
      rw [m_noPair1 (sI_self _ _ _ _ _) h1 h2 hr, bnd_some, if_pos (by decide)]
      refine tr_call (t_laysPairs s0.1 (fun i hi => w.sy hi)) ?_
      rintro _ K ⟨mp, gw, f⟩
      unfold f_M_pair
      rw [bnd_some, e2, w32_of (x := (p : Int)) (by omega) (by omega), if_pos (by omega), Int.toNat_natCast, (mp p hp).1, (mp p hp).2.1]
      show Tr (if w32 (cz g p zE) = 0 then _ else some (cz g p zE - (if w32 (kz g p 40) = -1 then 2 else 0), K)) _
      rw [cz_w, kz_w]
      by_cases q : cz g p zE = 0
      · rw [if_pos q, if_pos q]
        exact tr_ret ⟨rfl, s0.rdq (f.mono fn_mp) gw⟩
      · rw [if_neg q, if_neg q]
        exact tr_ret ⟨rfl, s0.rdq (f.mono fn_mp) gw⟩
  · refine pair_xG (fp := f_PR_gain) (fm := f_M_gain) h h1 h2 hr (fun x y ex ey z => ?_) (fun J e => ?_) (if_pos rfl)
    · unfold f_PR_gain
      rw [ex, bnd_some]
      rcases z with z | ⟨z1, z2⟩
      · rw [if_pos z]
      · rw [if_neg z1, ey, bnd_some, if_pos z2]
    · unfold f_M_gain
      try dsimp only [ltI]
      rw [e, bnd_some, if_neg (by decide)]
theorem og_26 (h : SI I s) : OGI f_PR_inlinable f_M_inlinable I := by
  obtain ⟨g, ps, kp, bs, rp⟩ := s
  have w : WF g := h.2.2.1
  obtain ⟨x1, g1⟩ := h.1.2.1 1 (by decide)
  refine og_I (s' := (g, ps, kp, bs, rp)) (u := w32 ((inlG 40 g).1 : Int)) h h.2.2 ?_ (fun J sm => m_endI ?_)
  · unfold f_PR_inlinable
    refine tr_call (t_gtakeFrom g1 h.1.1 (by decide)) ?_
    rintro _ J1 ⟨gc, f1⟩
    refine tr_call (t_inlineAll gc w) ?_
    rintro x J2 ⟨rfl, gc2, -, f2⟩
    have ff : Fm FOp I J2 := (f1.mono fo_g1).trans (f2.mono fo_u1)
    exact tr_ret ⟨rfl, h.1.op ff ((h.1.1.fm f1 (fun k i s z q => by unfold FG at z q; omega)).fm f2 (fun k i s z q => by unfold FG at z; unfold FGU FG at q; omega)) ⟨_, gc2⟩ ((pt_g h.1.2.2.1 f1).fgu f2), ff.mono fop_cl⟩
  · have s0 := sm.t7 (v := 0)
    unfold f_M_inlinable
    try dsimp only [ltI]
    generalize sI J 26 0 7 0 = J0 at s0
    refine tr_call (P := fun _ K => (∀ s : Nat, s < 16860 → K 27 1 s = J0 27 0 s) ∧ GW K g ∧ Fm FMn J0 K) ?_ ?_
    · unfold f_M_aside
      refine tr_call (t_mlays (k := 0) (b := 0) (k' := 1) (b' := 0) (I := J0) (by decide) (by decide) (by decide) (by decide) (by decide) (by decide) (by decide)) ?_
      rintro _ K ⟨hh, f⟩
      exact tr_ret ⟨fun s hs => by have := hh s hs; rwa [Nat.zero_add] at this, s0.1.fm f (fun s _ z => absurd z.2.1 (by decide)), f.mono (fun a b c z => by unfold FMn; omega)⟩
    rintro _ K1 ⟨hc, gw1, f1⟩
    refine tr_call (t_minlines gw1 w) ?_
    rintro x K2 ⟨rfl, -, f2⟩
    refine tr_call (P := fun x K => x = ((inlG 40 g).1 : Int) ∧ GW K g ∧ Fm FMn K2 K) ?_ ?_
    · unfold f_M_back
      refine tr_call (t_mlays (k := 1) (b := 0) (k' := 0) (b' := 0) (I := K2) (by decide) (by decide) (by decide) (by decide) (by decide) (by decide) (by decide)) ?_
      rintro _ K ⟨hh, f⟩
      refine tr_ret ⟨rfl, GWf.congr s0.1 (fun s hs => ?_), f.mono (fun a b c z => by unfold FMn; omega)⟩
      have h2 := hh s hs
      rw [Nat.zero_add] at h2
      rw [h2, f2.at (by decide) (by unfold FW; omega), hc s hs]
    · rintro x K3 ⟨rfl, gw3, f3⟩
      exact tr_ret ⟨rfl, s0.rdq (f1.trans ((f2.mono fn_w).trans f3)) gw3⟩
theorem og_35 (h : SI I s) (a1 : Int) (h1 : w32 a1 = a1) : OGI (f_PR_reportByte a1) (f_M_reportByte a1) I := by
  obtain ⟨g, ps, kp, bs, rp⟩ := s
  have hl : rp.length < 70000 := h.2.2.2.2.2.2.1
  obtain ⟨r1, r2, r3, r4⟩ := h.1.2.2.2.2.2.2
  have r1 : I 10 0 1 = (rp.length : Int) := r1
  have r2 : (rp.length : Int) ≤ I 10 0 2 := r2
  by_cases hr : 0 ≤ a1 ∧ a1 < rp.length
  · obtain ⟨j, rfl, hj⟩ : ∃ j : Nat, a1 = (j : Int) ∧ j < rp.length := ⟨a1.toNat, by omega, by omega⟩
    refine og_I (s' := (g, ps, kp, bs, rp)) (u := w32 (rp.getD j 0)) h h.2.2 ?_ (fun J sm => m_endI ?_)
    · unfold f_PR_reportByte f_Rep_at
      rw [h1, if_neg (by omega), r1, w32_of (x := (rp.length : Int)) (by omega) (by omega), if_pos (by omega), if_pos (by omega), bnd_some, Int.toNat_natCast, r4 j hj]
      exact tr_ret ⟨rfl, h.1, Fm.refl _ _⟩
    · have s0 := sm.t7 (v := 0)
      have e43 : (sI J 26 0 7 0) 26 0 43 = (rp.length : Int) := s0.2.2.2.2.1
      unfold f_M_reportByte
      try dsimp only [ltI]
      rw [e43, m_in1 (by rw [h1, w0, w32_of (x := (rp.length : Int) - 1) (by omega) (by omega)]; omega), bnd_some, if_neg (by decide), h1, if_pos (by omega), Int.toNat_natCast, s0.2.2.2.2.2 j hj]
      exact tr_ret ⟨rfl, s0, Fm.refl _ _⟩
  · refine og_I (s' := (g, ps, kp, bs, rp)) (u := -1) h h.2.2 ?_ (fun J sm => m_endI ?_)
    · have e : f_Rep_at a1 I = some (-1, I) := by
        unfold f_Rep_at
        rw [h1]
        by_cases q : a1 < 0
        · rw [if_pos q]
        · rw [if_neg q, r1, w32_of (x := (rp.length : Int)) (by omega) (by omega), if_neg (by omega)]
      unfold f_PR_reportByte
      rw [e, bnd_some]
      exact tr_ret ⟨by decide, h.1, Fm.refl _ _⟩
    · have s0 := sm.t7 (v := 0)
      have e43 : (sI J 26 0 7 0) 26 0 43 = (rp.length : Int) := s0.2.2.2.2.1
      unfold f_M_reportByte
      try dsimp only [ltI]
      rw [e43, m_in0 (by rw [h1, w0, w32_of (x := (rp.length : Int) - 1) (by omega) (by omega)]; omega), bnd_some, if_pos (by decide)]
      exact tr_ret ⟨by decide, s0, Fm.refl _ _⟩
/-- calls whose answers nobody compares -/
abbrev OGT (fc fm : Mem → Option (Int × Mem)) (I : Mem) : Prop := ∃ (r1 r2 : Int) (J K : Mem) (s' : SS), fc I = some (r1, J) ∧ fm J = some (r2, K) ∧ SI K s' ∧ Rm I K
theorem og_3 (h : SI I s) : OGT f_PR_errorPosition f_M_errorPosition I :=
  ⟨_, _, I, sI I 26 0 7 0, s, rfl, rfl, ⟨h.1.mo f7_mo, h.2.1.t7, h.2.2⟩, rm_2 (Fm.refl _ _) f7_mo⟩
end READS3
