/-! ===== numbers that are best; feed ===== -/
section BESTN
variable {I J : Mem} {g g' : GS} {ps : List GS} {kp : Nat → Option GS} {bs rp : List Int} {s : SS}
def am (F : Nat → Int) (lo : Nat) : Nat → Nat × Int
  | 0 => (lo, F lo)
  | n + 1 => if F (lo + n + 1) < (am F lo n).2 then (lo + n + 1, F (lo + n + 1)) else am F lo n
theorem am_s (F : Nat → Int) (lo n : Nat) : am F lo (n + 1) = if F (lo + n + 1) < (am F lo n).2 then (lo + n + 1, F (lo + n + 1)) else am F lo n := rfl
theorem am_rng {F : Nat → Int} {lo : Nat} : ∀ n : Nat, (∀ v : Nat, lo ≤ v → v ≤ lo + n → 0 ≤ F v ∧ F v ≤ 16400) → (0 ≤ (am F lo n).2 ∧ (am F lo n).2 ≤ 16400) ∧ (am F lo n).1 ≤ lo + n
  | 0, h => ⟨h lo (Nat.le_refl _) (Nat.le_refl _), Nat.le_refl _⟩
  | n + 1, h => by
    have ih := am_rng n (fun v a b => h v a (by omega))
    rw [am_s]
    by_cases q : F (lo + n + 1) < (am F lo n).2
    · rw [if_pos q]
      exact ⟨h _ (by omega) (by omega), by show lo + n + 1 ≤ lo + (n + 1); omega⟩
    · rw [if_neg q]
      exact ⟨ih.1, by omega⟩
/-- the size that a number leads to -/
noncomputable def szN (g : GS) (j v : Nat) : Int := gSize (stepsG 1000000 (gsN g j v)).2
theorem szN_rng {j v : Nat} (w : WF (gsN g j v)) : 0 ≤ szN g j v ∧ szN g j v ≤ 16400 := gSize_w (stepsG_wf 1000000 w)
theorem bnG (h : SC I (g, ps, kp, bs, rp)) {j : Nat} (hj : j < 3) {lo hi : Nat} (hlh : lo ≤ hi ∧ hi < 100) (hl : ∀ I : Mem, f_PR_lowest (4 + (j : Int)) I = some ((lo : Int), I)) (hh : ∀ I : Mem, f_PR_highest (4 + (j : Int)) I = some ((hi : Int), I))
    (w : ∀ v : Nat, lo ≤ v → v ≤ hi → WF (gsN g j v)) : Tr (f_PR_bestNumber (4 + (j : Int)) I) (fun x K => x = ((am (szN g j) lo (hi - lo)).1 : Int) ∧ SC K (g, ps, kp, bs, rp) ∧ Fm FCl I K) := by
  unfold f_PR_bestNumber
  rw [hl, bnd_some]
  refine tr_call (P := fun x K => x = ((am (szN g j) lo (hi - lo)).1 : Int) ∧ SC K (g, ps, kp, bs, rp) ∧ Fm FCl I K) (tr_whl (fun n s K => ∃ k : Nat, n = hi + 1 - k ∧ lo ≤ k ∧ k ≤ hi + 1 ∧ (k = lo ∧ s = (-1, 0, (k : Int)) ∨ lo < k ∧ s = (((am (szN g j) lo (k - lo - 1)).1 : Int), (am (szN g j) lo (k - lo - 1)).2, (k : Int))) ∧ SC K (g, ps, kp, bs, rp) ∧ Fm FCl I K) ?_ (hi + 1 - lo) _ _ ⟨lo, rfl, Nat.le_refl _, by omega, Or.inl ⟨rfl, rfl⟩, h, Fm.refl _ _⟩) ?_
  · rintro n s K ⟨k, rfl, hk1, hk2, hs, sc, f⟩
    have e2 : s.2.2 = (k : Int) := by rcases hs with ⟨_, rfl⟩ | ⟨_, rfl⟩ <;> rfl
    unfold f_PR_bestNumber_w10
    rw [hh, bnd_some, e2, w32_of (x := (hi : Int)) (by omega) (by omega), w32_of (x := (k : Int)) (by omega) (by omega)]
    by_cases q : hi < k
    · rw [if_pos (by omega)]
      rcases hs with ⟨z, _⟩ | ⟨_, rfl⟩
      · omega
      · exact tr_ret ⟨by rw [show k - lo - 1 = hi - lo by omega], sc, f⟩
    · rw [if_neg (by omega)]
      have wk := w k hk1 (by omega)
      obtain ⟨x1, g1⟩ := sc.2.1 1 (by decide)
      refine tr_call (t_gtakeFrom g1 sc.1 (by decide)) ?_
      rintro _ K1 ⟨gc, f1⟩
      refine tr_call (t_putNumber gc hj (k : Int)) ?_
      rintro _ K2 ⟨gc, f2⟩
      rw [show (1000000 : Int) = ((1000000 : Nat) : Int) from rfl]
      refine tr_call (t_makeSteps gc wk (pt_g (pt_g sc.2.2.1 f1) f2) (by decide)) ?_
      rintro x K3 ⟨-, gc, -, pt3, f3⟩
      have fo : Fm FOp K K3 := (f1.mono fo_g1).trans ((f2.mono fo_g1).trans (f3.mono fo_s1))
      have g0 : GC K3 0 g := ((sc.1.fm f1 (fun k i s z q => by unfold FG at z q; omega)).fm f2 (fun k i s z q => by unfold FG at z q; omega)).fm f3 (fun k i s z q => by unfold FG at z; unfold FST FG FPA at q; omega)
      have sc3 : SC K3 (g, ps, kp, bs, rp) := sc.op fo g0 ⟨_, gc⟩ pt3
      have f' := f.trans (fo.mono fop_cl)
      rw [g_totalSize gc, bnd_some]
      have sr := szN_rng wk
      have es : gSize (stepsG 1000000 (gsN g j (k : Int))).2 = szN g j k := rfl
      rw [es]
      rcases hs with ⟨rfl, rfl⟩ | ⟨z, rfl⟩
      · rw [if_pos (by show w32 (-1) = -1; decide)]
        exact tr_ret ⟨hi + 1 - (k + 1), by omega, k + 1, rfl, by omega, by omega, Or.inr ⟨by omega, by rw [show k + 1 - k - 1 = 0 by omega, Int.natCast_succ]; rfl⟩, sc3, f'⟩
      · have ar := am_rng (F := szN g j) (lo := lo) (k - lo - 1) (fun v a b => szN_rng (w v a (by omega)))
        have ea : am (szN g j) lo (k + 1 - lo - 1) = if szN g j k < (am (szN g j) lo (k - lo - 1)).2 then (k, szN g j k) else am (szN g j) lo (k - lo - 1) := by
          rw [show k + 1 - lo - 1 = (k - lo - 1) + 1 by omega, am_s, show lo + (k - lo - 1) + 1 = k by omega]
        rw [if_neg (by show ¬ w32 ((am (szN g j) lo (k - lo - 1)).1 : Int) = -1; rw [w32_of (by omega) (by omega)]; omega)]
        show Tr (if w32 (szN g j k) < w32 (am (szN g j) lo (k - lo - 1)).2 then _ else _) _
        rw [w32_of (x := szN g j k) (by omega) (by omega), w32_of (x := (am (szN g j) lo (k - lo - 1)).2) (by omega) (by omega)]
        by_cases q2 : szN g j k < (am (szN g j) lo (k - lo - 1)).2
        · rw [if_pos q2]
          exact tr_ret ⟨hi + 1 - (k + 1), by omega, k + 1, rfl, by omega, by omega, Or.inr ⟨by omega, by rw [ea, if_pos q2, Int.natCast_succ]⟩, sc3, f'⟩
        · rw [if_neg q2]
          exact tr_ret ⟨hi + 1 - (k + 1), by omega, k + 1, rfl, by omega, by omega, Or.inr ⟨by omega, by rw [ea, if_neg q2, Int.natCast_succ]⟩, sc3, f'⟩
  · rintro x K ⟨rfl, sc, f⟩
    exact tr_ret ⟨rfl, sc, f⟩
theorem t_sizeWithG (gw : GW J g) {j : Nat} (hj : j < 3) {v : Nat} (w : WF (gsN g j v)) : Tr (f_M_sizeWith (j : Int) (v : Int) J) (fun x K => x = szN g j v ∧ GW K g ∧ Fm FMn J K) := by
  have wj : w32 (j : Int) = j := w32_of (by omega) (by omega)
  unfold f_M_sizeWith f_M_aside
  refine tr_call (P := fun _ K => (∀ s : Nat, s < 16860 → K 27 1 s = J 27 0 s) ∧ GW K g ∧ Fm FMn J K) ?_ ?_
  · refine tr_call (t_mlays (k := 0) (b := 0) (k' := 1) (b' := 0) (I := J) (by decide) (by decide) (by decide) (by decide) (by decide) (by decide) (by decide)) ?_
    rintro _ K ⟨h, f⟩
    exact tr_ret ⟨fun s hs => by have := h s hs; rwa [Nat.zero_add] at this, gw.fm f (fun s _ z => absurd z.2.1 (by decide)), f.mono (fun a b c z => by unfold FMn; omega)⟩
  rintro _ K1 ⟨hc, g1, f1⟩
  rw [wj, if_pos (by omega), Int.toNat_natCast]
  try dsimp only [ltI]
  have fa : Fm FMA K1 (sI K1 27 0 j v) := Fm.sI (by decide) (by omega) (by omega) (Or.inl ⟨rfl, by decide⟩)
  have fa2 : Fm FMn K1 (sI K1 27 0 j v) := Fm.sI (by decide) (by omega) (by omega) (Or.inl ⟨rfl, by decide, by decide, by decide, by decide, by decide⟩)
  refine tr_call (t_mstepsEnd (g1.num hj) w (m := 1000000) (mu_le w)) ?_
  rintro _ K2 ⟨g2, f2⟩
  rw [m_sizeNow g2, bnd_some]
  have f12 : Fm FMA K1 K2 := fa.trans (f2.mono fA_ms)
  have f12n : Fm FMn K1 K2 := fa2.trans (f2.mono fn_ms)
  unfold f_M_back
  refine tr_call (P := fun x K => x = szN g j v ∧ GW K g ∧ Fm FMn K2 K) ?_ ?_
  · refine tr_call (t_mlays (k := 1) (b := 0) (k' := 0) (b' := 0) (I := K2) (by decide) (by decide) (by decide) (by decide) (by decide) (by decide) (by decide)) ?_
    rintro _ K ⟨h, f⟩
    refine tr_ret ⟨rfl, GWf.congr gw (fun s hs => ?_), f.mono (fun a b c z => by unfold FMn; omega)⟩
    have h2 := h s hs
    rw [Nat.zero_add] at h2
    rw [h2, f12.at (by decide) (by unfold FMA; omega), hc s hs]
  · rintro x K3 ⟨rfl, g3, f3⟩
    exact tr_ret ⟨rfl, g3, f1.trans (f12n.trans f3)⟩
theorem boG (gw : GW J g) {j : Nat} (hj : j < 3) {lo hi : Nat} (hlh : lo ≤ hi ∧ hi < 100) (hl : ∀ I : Mem, f_M_leastOf (j : Int) I = some ((lo : Int), I)) (hh : ∀ I : Mem, f_M_mostOf (j : Int) I = some ((hi : Int), I))
    (w : ∀ v : Nat, lo ≤ v → v ≤ hi → WF (gsN g j v)) : Tr (f_M_bestOf (j : Int) J) (fun x K => x = ((am (szN g j) lo (hi - lo)).1 : Int) ∧ GW K g ∧ Fm FMn J K) := by
  unfold f_M_bestOf
  rw [hl, bnd_some]
  refine tr_call (t_sizeWithG gw hj (w lo (Nat.le_refl _) hlh.1)) ?_
  rintro _ K1 ⟨rfl, g1, f1⟩
  refine tr_call (P := fun x K => x = ((am (szN g j) lo (hi - lo)).1 : Int) ∧ GW K g ∧ Fm FMn J K) (tr_whl (fun n s K => ∃ k : Nat, n = hi + 1 - k ∧ lo < k ∧ k ≤ hi + 1 ∧ s = (((am (szN g j) lo (k - lo - 1)).1 : Int), (am (szN g j) lo (k - lo - 1)).2, (k : Int)) ∧ GW K g ∧ Fm FMn J K) ?_ (hi + 1 - (lo + 1)) _ _ ⟨lo + 1, rfl, by omega, by omega, by rw [show lo + 1 - lo - 1 = 0 by omega, Int.natCast_succ]; rfl, g1, f1⟩) ?_
  · rintro n s K ⟨k, rfl, hk1, hk2, rfl, gk, f⟩
    unfold f_M_bestOf_w17
    rw [hh, bnd_some, w32_of (x := (hi : Int)) (by omega) (by omega)]
    show Tr (if (hi : Int) < w32 (k : Int) then _ else _) _
    rw [w32_of (x := (k : Int)) (by omega) (by omega)]
    by_cases q : hi < k
    · rw [if_pos (by omega)]
      exact tr_ret ⟨by rw [show k - lo - 1 = hi - lo by omega], gk, f⟩
    · rw [if_neg (by omega)]
      have wk := w k (by omega) (by omega)
      refine tr_call (t_sizeWithG gk hj wk) ?_
      rintro _ K2 ⟨rfl, g2, f2⟩
      have sr := szN_rng wk
      have ar := am_rng (F := szN g j) (lo := lo) (k - lo - 1) (fun v a b => szN_rng (w v a (by omega)))
      have ea : am (szN g j) lo (k + 1 - lo - 1) = if szN g j k < (am (szN g j) lo (k - lo - 1)).2 then (k, szN g j k) else am (szN g j) lo (k - lo - 1) := by
        rw [show k + 1 - lo - 1 = (k - lo - 1) + 1 by omega, am_s, show lo + (k - lo - 1) + 1 = k by omega]
      show Tr (if w32 (szN g j k) < w32 (am (szN g j) lo (k - lo - 1)).2 then _ else _) _
      rw [w32_of (x := szN g j k) (by omega) (by omega), w32_of (x := (am (szN g j) lo (k - lo - 1)).2) (by omega) (by omega)]
      by_cases q2 : szN g j k < (am (szN g j) lo (k - lo - 1)).2
      · rw [if_pos q2]
        exact tr_ret ⟨hi + 1 - (k + 1), by omega, k + 1, rfl, by omega, by omega, by rw [ea, if_pos q2, Int.natCast_succ], g2, f.trans f2⟩
      · rw [if_neg q2]
        exact tr_ret ⟨hi + 1 - (k + 1), by omega, k + 1, rfl, by omega, by omega, by rw [ea, if_neg q2, Int.natCast_succ], g2, f.trans f2⟩
  · rintro x K ⟨rfl, gk, f⟩
    exact tr_ret ⟨rfl, gk, f⟩
theorem og_24 (h : SI I s) : OGI f_PR_bestTie f_M_bestTie I := by
  obtain ⟨g, ps, kp, bs, rp⟩ := s
  have wg : WF g := h.2.2.1
  have w : ∀ v : Nat, 0 ≤ v → v ≤ 2 → WF (gsN g 1 v) := fun v _ h => WF_gN wg ⟨fun z => by omega, fun _ => by omega, fun z => by omega⟩
  refine og_I (s' := (g, ps, kp, bs, rp)) (u := w32 ((am (szN g 1) 0 (2 - 0)).1 : Int)) h h.2.2 ?_ (fun J sm => m_endI ?_)
  · unfold f_PR_bestTie
    rw [show (5 : Int) = 4 + ((1 : Nat) : Int) from rfl, bb_id]
    refine tr_mono (bnG h.1 (j := 1) (lo := 0) (hi := 2) (by decide) (by decide) lo_1 hi_1 w) ?_
    rintro x K ⟨rfl, z⟩
    exact ⟨rfl, z⟩
  · have s0 := sm.t7 (v := 0)
    unfold f_M_bestTie
    try dsimp only [ltI]
    rw [show (1 : Int) = ((1 : Nat) : Int) from rfl, bb_id]
    refine tr_mono (boG s0.1 (j := 1) (lo := 0) (hi := 2) (by decide) (by decide) ml_1 mh_1 w) ?_
    rintro x K ⟨rfl, gw, f⟩
    exact ⟨rfl, s0.rdq f gw⟩
theorem og_25 (h : SI I s) : OGI f_PR_bestLeast f_M_bestLeast I := by
  obtain ⟨g, ps, kp, bs, rp⟩ := s
  have wg : WF g := h.2.2.1
  have w : ∀ v : Nat, 2 ≤ v → v ≤ 9 → WF (gsN g 0 v) := fun v _ h => WF_gN wg ⟨fun z => by omega, fun z => by omega, fun z => by omega⟩
  refine og_I (s' := (g, ps, kp, bs, rp)) (u := w32 ((am (szN g 0) 2 (9 - 2)).1 : Int)) h h.2.2 ?_ (fun J sm => m_endI ?_)
  · unfold f_PR_bestLeast
    rw [show (4 : Int) = 4 + ((0 : Nat) : Int) from rfl, bb_id]
    refine tr_mono (bnG h.1 (j := 0) (lo := 2) (hi := 9) (by decide) (by decide) lo_0 hi_0 w) ?_
    rintro x K ⟨rfl, z⟩
    exact ⟨rfl, z⟩
  · have s0 := sm.t7 (v := 0)
    unfold f_M_bestLeast
    try dsimp only [ltI]
    rw [show (0 : Int) = ((0 : Nat) : Int) from rfl, bb_id]
    refine tr_mono (boG s0.1 (j := 0) (lo := 2) (hi := 9) (by decide) (by decide) ml_0 mh_0 w) ?_
    rintro x K ⟨rfl, gw, f⟩
    exact ⟨rfl, s0.rdq f gw⟩
end BESTN
