/-! ===== calls one by one: pairs and steps ===== -/
section OPS3
variable {I J : Mem} {g : GS}
theorem nz_F (h : gR g = gR gF) (x : Nat) : nz g x = false := by
  have hl : (gR gF (x / 400)).length ≤ 1 := by
    rw [gF_R]
    split
    · exact Nat.le_refl 1
    · exact Nat.zero_le 1
  unfold nz
  rw [h, decide_eq_false (by omega : ¬ (x % 400 + 1 < (gR gF (x / 400)).length)), Bool.false_and, Bool.and_false]
theorem cz_F (h : gR g = gR gF) (p c : Nat) : cz g p c = 0 := by
  refine Classical.byContradiction fun q => ?_
  obtain ⟨x, _, hx, _⟩ := cz_mem q
  rw [nz_F h] at hx
  cases hx
theorem bestP_F (h : gR g = gR gF) (w : WF g) : bestP g = -1 := bestP_none (fun q _ => by
  cases e : wz g q with
  | false => rfl
  | true => exact absurd (cz_F h _ _) (wz_cz w e))
theorem stepsG_F (h : gR g = gR gF) (w : WF g) (n : Nat) : stepsG n g = (0, g) := stepsG_none (bestP_F h w)
abbrev FX (t u : Nat) : FP := fun k i s => FG t k i s ∨ FG u k i s ∨ (k < 26 ∧ k ≠ 10 ∧ k ≠ 1 ∧ k ≠ 2 ∧ k ≠ 12 ∧ k ≠ 14 ∧ k ≠ 15)
theorem CP_x {t u : Nat} {g' : GS} (hI : FS I) (f : Fm (FX t u) I J) (ht : GC J t g) (hu : GC J u g') : CP I J := by
  refine CP_of hI f (fun k i s z => by unfold FX FG at z; omega) (hI.all.go f (fun x => x = t ∨ x = u) (fun x _ z => ?_) (fun x _ z k i s q q2 => by unfold FG at q; unfold FX FG at q2; omega))
  rcases z with rfl | rfl
  · exact ⟨_, ht⟩
  · exact ⟨_, hu⟩
theorem fx_g {t u : Nat} : ∀ k i s : Nat, FG t k i s → FX t u k i s := fun _ _ _ z => Or.inl z
theorem fx_h {t u : Nat} : ∀ k i s : Nat, FG u k i s → FX t u k i s := fun _ _ _ z => Or.inr (Or.inl z)
theorem fx_p {t u : Nat} : ∀ k i s : Nat, FPA k i s → FX t u k i s := fun k i s z => Or.inr (Or.inr (by unfold FPA at z; omega))
theorem fx_s {t u : Nat} : ∀ k i s : Nat, FST t k i s → FX t u k i s := fun k i s z => by
  rcases z with q | q | q
  · exact Or.inl q
  · exact Or.inr (Or.inr (by omega))
  · exact fx_p _ _ _ q
theorem fx_s' {t u : Nat} : ∀ k i s : Nat, FST u k i s → FX t u k i s := fun k i s z => by
  rcases z with q | q | q
  · exact fx_h _ _ _ q
  · exact Or.inr (Or.inr (by omega))
  · exact fx_p _ _ _ q
theorem fx_u {t u : Nat} : ∀ k i s : Nat, FGU t k i s → FX t u k i s := fun k i s z => z.elim Or.inl (fun q => Or.inr (Or.inr (by omega)))
abbrev FM7 : FP := fun k _ s => k = 27 ∨ k = 28 ∨ (k = 26 ∧ s ≠ 7)
theorem m7 (f : Fm FM7 I J) : MPo I J := MPo_of f (fun k i s z => by unfold FM7 at z; omega)
theorem m7z (f : Fm FM7 I J) : J 26 0 7 = I 26 0 7 := f.at (by decide) (by decide)
theorem f7_w : ∀ k i s : Nat, FW k i s → FM7 k i s := fun k i s z => by unfold FW at z; unfold FM7; omega
theorem f7_mp : ∀ k i s : Nat, FMP k i s → FM7 k i s := fun k i s z => by unfold FMP at z; unfold FM7; omega
theorem f7_l : ∀ k i s : Nat, FL k i s → FM7 k i s := fun k i s z => by unfold FL at z; unfold FM7; omega
theorem f7_bp : ∀ k i s : Nat, FBP k i s → FM7 k i s := fun k i s z => z.elim (f7_mp k i s) (f7_l k i s)
theorem f7_ms : ∀ k i s : Nat, FMS k i s → FM7 k i s := fun k i s z => z.elim (f7_w k i s) (f7_bp k i s)
/-- one call of the model, begun with the fault's cell at 0 -/
theorem m7_end {e : Option (Int × Mem)} {J : Mem} {u : Int} (h : Tr e (fun x K => w32 x = u ∧ Fm FM7 (sI J 26 0 7 0) K)) : Tr e (fun x K => w32 x = u ∧ K 26 0 7 = 0 ∧ MPo J K) := by
  refine tr_mono h (fun x K z => ⟨z.1, ?_, MPo_s.trans (m7 z.2)⟩)
  rw [m7z z.2, sI_self]
theorem m7_I {e : Option (Int × Mem)} {J : Mem} {u : Int} (h : Tr e (fun x K => w32 x = u ∧ Fm FM7 (sI J 26 0 7 0) K)) : Tr e (fun x K => w32 x = u ∧ MPo J K) := tr_mono h (fun _ _ z => ⟨z.1, MPo_s.trans (m7 z.2)⟩)
theorem m_noPair1 (h7 : J 26 0 7 = 0) {a b : Int} (ha : w32 a = a) (hb : w32 b = b) (hr : (0 ≤ a ∧ a < 66) ∧ 0 ≤ b ∧ b < 66) : f_M_noPair a b J = some (0, J) := by
  unfold f_M_noPair
  rw [m_in1 (by rw [ha, w0, w32c 65 (by decide)]; omega), bnd_some, if_neg (by decide), m_in1 (by rw [hb, w0, w32c 65 (by decide)]; omega), bnd_some, if_neg (by decide), m_fz h7, bnd_some, if_pos (Or.inl rfl)]
theorem m_noPair0 (h7 : J 26 0 7 = 0) {a b : Int} (ha : w32 a = a) (hb : w32 b = b) (hr : ¬ ((0 ≤ a ∧ a < 66) ∧ 0 ≤ b ∧ b < 66)) : f_M_noPair a b J = some (1, sI J 26 0 7 1) := by
  have key : f_M_noPair_j21 J = some (1, sI J 26 0 7 1) := by
    unfold f_M_noPair_j21
    rw [m_f1 h7 (Or.inl rfl), bnd_some, if_pos (Or.inr rfl)]
  unfold f_M_noPair
  by_cases q : 0 ≤ a ∧ a < 66
  · rw [m_in1 (by rw [ha, w0, w32c 65 (by decide)]; omega), bnd_some, if_neg (by decide), m_in0 (by rw [hb, w0, w32c 65 (by decide)]; omega), bnd_some, if_pos (by decide)]
    exact key
  · rw [m_in0 (by rw [ha, w0, w32c 65 (by decide)]; omega), bnd_some, if_pos (by decide)]
    exact key
theorem nat_pair {a b : Int} (hr : (0 ≤ a ∧ a < 66) ∧ 0 ≤ b ∧ b < 66) : ∃ p : Nat, p < 4356 ∧ a * 66 + b = (p : Int) ∧ 66 * a + b = (p : Int) := ⟨(a * 66 + b).toNat, by omega, by omega, by omega⟩
theorem FS.read (hI : FS I) : Tr (f_PT_readFrom 0 I) (fun _ J => PTd J 0 gF ∧ CP I J) := tr_mono (t_readFrom hI.1 WF_gF hI.2.1) (fun _ _ z => ⟨z.1, CP_x hI (z.2.2.2.mono fx_p) z.2.2.1 z.2.2.1⟩)
theorem kz_F (h : gR g = gR gF) (p : Nat) : kz g p 40 = -1 := by
  rcases Int.lt_or_eq_of_le (fF_rng (p := fun r => decide (gR g (r + 1) = [((p / 66 : Nat) : Int), ((p % 66 : Nat) : Int)])) 40 0 |>.elim And.left (fun z => by rw [z]; decide)) with q | q
  · obtain ⟨j, _, _, _, hj, _⟩ := fF_some (p := fun r => decide (gR g (r + 1) = [((p / 66 : Nat) : Int), ((p % 66 : Nat) : Int)])) (n := 40) (k := 0) (by omega)
    rw [h] at hj
    cases of_decide_eq_true hj
  · exact q.symm
theorem mLay (h : GW J gF) : Tr (f_M_laysPairs J) (fun _ K => MP K gF ∧ Fm FM7 J K) := tr_mono (t_laysPairs h (fun i hi => WF_gF.sy hi)) (fun _ _ z => ⟨z.1, z.2.2.mono f7_mp⟩)
/-- two symbols out of range -/
theorem pair_x {fp : Int → Int → Mem → Option ((Int ⊕ String) × Mem)} {fm : Int → Int → Mem → Option (Int × Mem)} {a1 a2 : Int} (h1 : w32 a1 = a1) (h2 : w32 a2 = a2) (hr : ¬ ((0 ≤ a1 ∧ a1 < 66) ∧ 0 ≤ a2 ∧ a2 < 66))
    (hc : ∀ x y : Int, x = bI (0 ≤ a1 ∧ a1 < 66) → y = bI (0 ≤ a2 ∧ a2 < 66) → f_PR_isSymbol a1 I = some (x, I) → f_PR_isSymbol a2 I = some (y, I) → w32 x = 0 ∨ w32 x ≠ 0 ∧ w32 y = 0 → fp a1 a2 I = some (.inr xIA, thrw I))
    (hm : ∀ J : Mem, f_M_noPair a1 a2 (sI J 26 0 7 0) = some (1, sI (sI J 26 0 7 0) 26 0 7 1) → fm a1 a2 J = some (0, sI (sI J 26 0 7 0) 26 0 7 1))
    {KR : Int → Mem → Option (Int × Mem)} {KX : String → Mem → Option (Int × Mem)} (hk : KX xIA (thrw I) = some (1, thrw I)) : OKW (fun I => bndX (fp a1 a2 I) KR KX) (fm a1 a2) I := by
  have hb := w32_rng a1
  rw [h1] at hb
  have hb2 := w32_rng a2
  rw [h2] at hb2
  refine ok_X (fp := fp a1 a2) (E := xIA) (J := thrw I) (k := 1) ?_ CP_thr hk (by decide) ?_
  · refine hc _ _ rfl rfl (p_isSymbol hb.1 hb.2) (p_isSymbol hb2.1 hb2.2) ?_
    by_cases q : 0 ≤ a1 ∧ a1 < 66
    · exact Or.inr ⟨by rw [bI_pos q]; decide, by rw [bI_neg (fun z => hr ⟨q, z⟩)]; decide⟩
    · exact Or.inl (by rw [bI_neg q]; decide)
  · exact t_out MPo_s (hm _ (m_noPair0 (sI_self _ _ _ _ _) h1 h2 hr))
theorem sym_in {a : Int} (ha : w32 a = a) (hr : 0 ≤ a ∧ a < 66) : f_PR_isSymbol a I = some (1, I) := by
  have hb := w32_rng a
  rw [ha] at hb
  rw [p_isSymbol hb.1 hb.2, bI_pos hr]
theorem ok_18 (hI : FS I) (a1 a2 : Int) (h1 : w32 a1 = a1) (h2 : w32 a2 = a2) : OKW (f_L_count a1 a2) (f_M_count a1 a2) I := by
  by_cases hr : (0 ≤ a1 ∧ a1 < 66) ∧ 0 ≤ a2 ∧ a2 < 66
  · obtain ⟨p, hp, e1, e2⟩ := nat_pair hr
    refine ok_W (fp := f_PR_count a1 a2) (u := 0) ?_ (fun J cp => m7_end ?_)
    · unfold f_PR_count
      rw [sym_in h1 hr.1, bnd_some, if_neg (by decide), sym_in h2 hr.2, bnd_some, if_neg (by decide)]
      refine tr_call hI.read ?_
      rintro _ J1 ⟨pd, cp⟩
      rw [p_pairOf hr.1 hr.2, bnd_some, e1, p_countOf pd.1 hp, bnd_some, cz_F rfl]
      exact tr_ret ⟨⟨_, rfl, by decide⟩, cp⟩
    · unfold f_M_count
      try dsimp only [ltI]
      rw [m_noPair1 (sI_self _ _ _ _ _) h1 h2 hr, bnd_some, if_pos (by decide)]
      refine tr_call (mLay ((hI.2.2.1.cp cp).t0 (v := 0))) ?_
      rintro _ K ⟨mp, f⟩
      unfold f_M_pair
      rw [bnd_some, e2, w32_of (by omega) (by omega), if_pos (by omega), Int.toNat_natCast, (mp p hp).1, cz_F rfl]
      exact tr_ret ⟨by decide, f⟩
  · refine pair_x (fp := f_PR_count) (fm := f_M_count) h1 h2 hr (fun x y _ _ ex ey z => ?_) (fun J e => ?_) (if_pos rfl)
    · unfold f_PR_count
      rw [ex, bnd_some]
      rcases z with z | ⟨z1, z2⟩
      · rw [if_pos z]
      · rw [if_neg z1, ey, bnd_some, if_pos z2]
    · unfold f_M_count
      try dsimp only [ltI]
      rw [e, bnd_some, if_neg (by decide)]
theorem ok_21 (hI : FS I) (a1 a2 : Int) (h1 : w32 a1 = a1) (h2 : w32 a2 = a2) : OKW (f_L_gain a1 a2) (f_M_gain a1 a2) I := by
  by_cases hr : (0 ≤ a1 ∧ a1 < 66) ∧ 0 ≤ a2 ∧ a2 < 66
  · obtain ⟨p, hp, e1, e2⟩ := nat_pair hr
    refine ok_W (fp := f_PR_gain a1 a2) (u := 0) ?_ (fun J cp => m7_end ?_)
    · unfold f_PR_gain
      rw [sym_in h1 hr.1, bnd_some, if_neg (by decide), sym_in h2 hr.2, bnd_some, if_neg (by decide)]
      refine tr_call hI.read ?_
      rintro _ J1 ⟨pd, cp⟩
      rw [p_pairOf hr.1 hr.2, bnd_some, e1, p_countOf pd.1 hp, bnd_some, cz_F rfl, if_pos (by decide)]
      exact tr_ret ⟨⟨_, rfl, by decide⟩, cp⟩
    · unfold f_M_gain
      try dsimp only [ltI]
      rw [m_noPair1 (sI_self _ _ _ _ _) h1 h2 hr, bnd_some, if_pos (by decide)]
      refine tr_call (mLay ((hI.2.2.1.cp cp).t0 (v := 0))) ?_
      rintro _ K ⟨mp, f⟩
      unfold f_M_pair
      rw [bnd_some, e2, w32_of (by omega) (by omega), if_pos (by omega), Int.toNat_natCast, (mp p hp).1, cz_F rfl, if_pos (by decide)]
      exact tr_ret ⟨by decide, f⟩
  · refine pair_x (fp := f_PR_gain) (fm := f_M_gain) h1 h2 hr (fun x y _ _ ex ey z => ?_) (fun J e => ?_) (if_pos rfl)
    · unfold f_PR_gain
      rw [ex, bnd_some]
      rcases z with z | ⟨z1, z2⟩
      · rw [if_pos z]
      · rw [if_neg z1, ey, bnd_some, if_pos z2]
    · unfold f_M_gain
      try dsimp only [ltI]
      rw [e, bnd_some, if_neg (by decide)]
theorem mBest (h : GW J gF) : Tr (f_M_bestPair J) (fun x K => x = -1 ∧ MP K gF ∧ Fm FM7 J K) := tr_mono (t_bestPair h WF_gF) (fun _ _ z => ⟨z.1.trans (bestP_F rfl WF_gF), z.2.1, z.2.2.2.2.mono f7_bp⟩)
theorem ok_20 (hI : FS I) (a1 a2 : Int) (h1 : w32 a1 = a1) (h2 : w32 a2 = a2) : OKW (f_L_why a1 a2) (f_M_why a1 a2) I := by
  by_cases hr : (0 ≤ a1 ∧ a1 < 66) ∧ 0 ≤ a2 ∧ a2 < 66
  · obtain ⟨p, hp, e1, e2⟩ := nat_pair hr
    refine ok_W (fp := f_PR_why a1 a2) (u := 1) ?_ (fun J cp => m7_end ?_)
    · unfold f_PR_why
      rw [sym_in h1 hr.1, bnd_some, if_neg (by decide), sym_in h2 hr.2, bnd_some, if_neg (by decide)]
      refine tr_call hI.read ?_
      rintro _ J1 ⟨pd, cp⟩
      rw [p_pairOf hr.1 hr.2, bnd_some, e1, p_countOf pd.1 hp, bnd_some, cz_F rfl, if_pos (by decide)]
      exact tr_ret ⟨⟨_, rfl, by decide⟩, cp⟩
    · unfold f_M_why
      try dsimp only [ltI]
      rw [m_noPair1 (sI_self _ _ _ _ _) h1 h2 hr, bnd_some, if_pos (by decide)]
      refine tr_call (mBest ((hI.2.2.1.cp cp).t0 (v := 0))) ?_
      rintro _ K ⟨-, mp, f⟩
      unfold f_M_pair
      rw [bnd_some, e2, w32_of (by omega) (by omega), if_pos (by omega), Int.toNat_natCast, (mp p hp).1, cz_F rfl, if_pos (by decide)]
      exact tr_ret ⟨by decide, f⟩
  · refine pair_x (fp := f_PR_why) (fm := f_M_why) h1 h2 hr (fun x y _ _ ex ey z => ?_) (fun J e => ?_) (if_pos rfl)
    · unfold f_PR_why
      rw [ex, bnd_some]
      rcases z with z | ⟨z1, z2⟩
      · rw [if_pos z]
      · rw [if_neg z1, ey, bnd_some, if_pos z2]
    · unfold f_M_why
      try dsimp only [ltI]
      rw [e, bnd_some, if_neg (by decide)]
theorem ok_19 (hI : FS I) (a1 : Int) (h1 : w32 a1 = a1) : OKW (f_L_best a1) (f_M_best a1) I := by
  by_cases hr : 0 ≤ a1 ∧ a1 < 5
  · refine ok_W (fp := f_PR_best a1) (u := if a1 = 4 then 0 else -1) ?_ (fun J cp => m7_end ?_)
    · unfold f_PR_best
      rw [h1, if_neg (by omega), if_neg (by omega)]
      refine tr_call hI.read ?_
      rintro _ J1 ⟨pd, cp⟩
      rw [pd.2.1, bestP_F rfl WF_gF, if_pos (by decide)]
      by_cases q : a1 = 4
      · rw [if_pos q, if_pos q]
        exact tr_ret ⟨⟨_, rfl, by decide⟩, cp⟩
      · rw [if_neg q, if_neg q]
        exact tr_ret ⟨⟨_, rfl, by decide⟩, cp⟩
    · unfold f_M_best
      try dsimp only [ltI]
      rw [chk_in (sI_self _ _ _ _ _) (by rw [h1, w0, w32c 4 (by decide)]; omega)]
      refine tr_call (mBest ((hI.2.2.1.cp cp).t0 (v := 0))) ?_
      rintro _ K ⟨rfl, mp, f⟩
      rw [if_pos (by decide), h1]
      by_cases q : a1 = 4
      · rw [if_pos q, if_pos q]
        exact tr_ret ⟨by decide, f⟩
      · rw [if_neg q, if_neg q]
        exact tr_ret ⟨by decide, f⟩
  · refine ok_X (fp := f_PR_best a1) (E := xIA) (J := thrw I) (k := 1) ?_ CP_thr (if_pos rfl) (by decide) ?_
    · unfold f_PR_best
      rw [h1]
      by_cases q : a1 < 0
      · rw [if_pos q]
      · rw [if_neg q, if_pos (by omega)]
    · unfold f_M_best
      exact t_out MPo_s (chk_out (sI_self _ _ _ _ _) (Or.inl rfl) (by rw [h1, w0, w32c 4 (by decide)]; omega))
abbrev F27 : FP := fun k i _ => k = 27 ∧ i = 1
theorem t_aside (h : GW J g) : Tr (f_M_aside J) (fun _ K => GW K g ∧ Fm FM7 J K) := by
  unfold f_M_aside
  refine tr_call (t_mlays (k := 0) (b := 0) (k' := 1) (b' := 0) (I := J) (by decide) (by decide) (by decide) (by decide) (by decide) (by decide) (by decide)) ?_
  rintro _ K ⟨-, f⟩
  exact tr_ret ⟨h.fm f (fun s _ z => absurd z.2.1 (by decide)), f.mono (fun a b c z => Or.inl z.1)⟩
theorem t_back (r : Int) : Tr (f_M_back r J) (fun x K => x = r ∧ Fm FM7 J K) := by
  unfold f_M_back
  refine tr_call (t_mlays (k := 1) (b := 0) (k' := 0) (b' := 0) (I := J) (by decide) (by decide) (by decide) (by decide) (by decide) (by decide) (by decide)) ?_
  rintro _ K ⟨-, f⟩
  exact tr_ret ⟨rfl, f.mono (fun a b c z => Or.inl z.1)⟩
theorem FS.aside (hI : FS I) : Tr (f_G_takeFrom 1 0 I) (fun _ J => GC J 1 gF ∧ PTi J ∧ Fm (FX 1 1) I J) := tr_mono (t_gtakeFrom (hI.g (by decide) (by decide)) hI.1 (by decide)) (fun _ _ z => ⟨z.1, hI.2.1.fgu (z.2.mono (fun _ _ _ => Or.inl)), z.2.mono fx_g⟩)
theorem mu_gF : mu gF ≤ ((42 : Nat) : Int) := by decide
theorem mu_gF2 : mu gF ≤ ((1000000 : Nat) : Int) := Int.le_trans mu_gF (by decide)
theorem ok_22 (hI : FS I) : ∃ (r1 r2 : Int) (J K : Mem), f_PR_stepsLeft I = some (r1, J) ∧ f_M_stepsLeft J = some (r2, K) ∧ w32 r1 = w32 r2 ∧ dC I K ≤ 210600 ∧ dS I K ≤ 631700 := by
  refine ok_I (u := 0) ?_ (fun J cp => m7_I ?_)
  · unfold f_PR_stepsLeft
    refine tr_call hI.aside ?_
    rintro _ J1 ⟨gc, pt, f1⟩
    rw [show (1000000 : Int) = ((1000000 : Nat) : Int) from rfl]
    refine tr_call (t_makeSteps gc WF_gF pt (by decide)) ?_
    rintro x J2 ⟨hx, gc2, -, -, f2⟩
    rw [stepsG_F rfl WF_gF] at hx
    subst hx
    exact tr_ret ⟨by decide, CP_x hI (f1.trans (f2.mono fx_s)) gc2 gc2⟩
  · unfold f_M_stepsLeft
    try dsimp only [ltI]
    refine tr_call (t_aside ((hI.2.2.1.cp cp).t0 (v := 0))) ?_
    rintro _ K1 ⟨gw, f1⟩
    refine tr_call (t_mstepsAll gw WF_gF mu_gF) ?_
    rintro x K2 ⟨hx, -, f2⟩
    rw [stepsG_F rfl WF_gF] at hx
    subst hx
    refine tr_call (t_back _) ?_
    rintro x K3 ⟨rfl, f3⟩
    exact tr_ret ⟨by decide, f1.trans ((f2.mono f7_ms).trans f3)⟩
theorem ok_23 (hI : FS I) (a1 : Int) (h1 : w32 a1 = a1) : OKW (f_L_sizeIn a1) (f_M_sizeIn a1) I := by
  by_cases hr : 0 ≤ a1 ∧ a1 < 101
  · obtain ⟨n, rfl, hn⟩ : ∃ n : Nat, a1 = (n : Int) ∧ n < 101 := ⟨a1.toNat, by omega, by omega⟩
    refine ok_W (fp := f_PR_sizeIn (n : Int)) (u := w32 (gSize gF)) ?_ (fun J cp => m7_end ?_)
    · unfold f_PR_sizeIn
      rw [h1, if_neg (by omega), if_neg (by omega)]
      refine tr_call hI.aside ?_
      rintro _ J1 ⟨gc, pt, f1⟩
      refine tr_call (t_makeSteps gc WF_gF pt (by omega)) ?_
      rintro x J2 ⟨-, gc2, -, -, f2⟩
      rw [stepsG_F rfl WF_gF] at gc2
      rw [g_totalSize gc2, bnd_some]
      exact tr_ret ⟨⟨_, rfl, rfl⟩, CP_x hI (f1.trans (f2.mono fx_s)) gc2 gc2⟩
    · unfold f_M_sizeIn
      try dsimp only [ltI]
      rw [chk_in (sI_self _ _ _ _ _) (by rw [h1, w0, w32c 100 (by decide)]; omega)]
      refine tr_call (t_aside ((hI.2.2.1.cp cp).t0 (v := 0))) ?_
      rintro _ K1 ⟨gw, f1⟩
      refine tr_call (t_mstepsMany gw WF_gF (by omega)) ?_
      rintro x K2 ⟨-, gw2, f2⟩
      rw [stepsG_F rfl WF_gF] at gw2
      rw [m_sizeNow gw2, bnd_some]
      refine tr_call (t_back _) ?_
      rintro x K3 ⟨rfl, f3⟩
      exact tr_ret ⟨rfl, f1.trans ((f2.mono f7_ms).trans f3)⟩
  · refine ok_X (fp := f_PR_sizeIn a1) (E := xIA) (J := thrw I) (k := 1) ?_ CP_thr (if_pos rfl) (by decide) ?_
    · unfold f_PR_sizeIn
      rw [h1]
      by_cases q : a1 < 0
      · rw [if_pos q]
      · rw [if_neg q, if_pos (by omega)]
    · unfold f_M_sizeIn
      exact t_out MPo_s (chk_out (sI_self _ _ _ _ _) (Or.inl rfl) (by rw [h1, w0, w32c 100 (by decide)]; omega))
theorem ok_26 (hI : FS I) : ∃ (r1 r2 : Int) (J K : Mem), f_PR_inlinable I = some (r1, J) ∧ f_M_inlinable J = some (r2, K) ∧ w32 r1 = w32 r2 ∧ dC I K ≤ 210600 ∧ dS I K ≤ 631700 := by
  refine ok_I (u := w32 ((inlG 40 gF).1 : Int)) ?_ (fun J cp => m7_I ?_)
  · unfold f_PR_inlinable
    refine tr_call hI.aside ?_
    rintro _ J1 ⟨gc, pt, f1⟩
    refine tr_call (t_inlineAll gc WF_gF) ?_
    rintro x J2 ⟨rfl, gc2, -, f2⟩
    exact tr_ret ⟨rfl, CP_x hI (f1.trans (f2.mono fx_u)) gc2 gc2⟩
  · unfold f_M_inlinable
    try dsimp only [ltI]
    refine tr_call (t_aside ((hI.2.2.1.cp cp).t0 (v := 0))) ?_
    rintro _ K1 ⟨gw, f1⟩
    refine tr_call (t_minlines gw WF_gF) ?_
    rintro x K2 ⟨rfl, -, f2⟩
    refine tr_call (t_back _) ?_
    rintro x K3 ⟨rfl, f3⟩
    exact tr_ret ⟨rfl, f1.trans ((f2.mono f7_w).trans f3)⟩
end OPS3
