/-! ===== calls one by one: numbers that are best, ratio, report ===== -/
section OPS5
variable {I J : Mem} {g : GS}
theorem gS_F {j : Nat} {v : Int} : gSize (gsN gF j v) = 1 := (by decide : gSize gF = 1)
theorem bn_ok (hI : FS I) {j : Nat} (hj : j < 3) {lo hi : Nat} (hlh : lo ≤ hi ∧ hi < 100) (hl : ∀ I : Mem, f_PR_lowest (4 + (j : Int)) I = some ((lo : Int), I)) (hh : ∀ I : Mem, f_PR_highest (4 + (j : Int)) I = some ((hi : Int), I))
    (w : ∀ v : Nat, lo ≤ v → v ≤ hi → WF (gsN gF j v)) : Tr (f_PR_bestNumber (4 + (j : Int)) I) (fun x J => x = (lo : Int) ∧ CP I J) := by
  unfold f_PR_bestNumber
  rw [hl, bnd_some]
  refine tr_call (P := fun x J => x = (lo : Int) ∧ CP I J) (tr_whl (fun n s K => ∃ k : Nat, n = hi + 1 - k ∧ lo ≤ k ∧ k ≤ hi + 1 ∧ (s = (-1, 0, (k : Int)) ∧ k = lo ∨ s = ((lo : Int), 1, (k : Int)) ∧ lo < k) ∧ GC K 0 gF ∧ (∃ g1 : GS, GC K 1 g1) ∧ PTi K ∧ Fm (FX 0 1) I K) ?_ (hi + 1 - lo) _ _ ⟨lo, rfl, Nat.le_refl _, by omega, Or.inl ⟨rfl, rfl⟩, hI.1, ⟨_, hI.g (by decide) (by decide)⟩, hI.2.1, Fm.refl _ _⟩) ?_
  · rintro n s K ⟨k, rfl, hk1, hk2, hs, gc0, ⟨g1, gc1⟩, pt, f⟩
    have e2 : s.2.2 = (k : Int) := by rcases hs with ⟨rfl, _⟩ | ⟨rfl, _⟩ <;> rfl
    unfold f_PR_bestNumber_w10
    rw [hh, bnd_some, e2, w32_of (x := (hi : Int)) (by omega) (by omega), w32_of (x := (k : Int)) (by omega) (by omega)]
    by_cases q : hi < k
    · rw [if_pos (by omega)]
      rcases hs with ⟨_, z⟩ | ⟨rfl, _⟩
      · omega
      · exact tr_ret ⟨rfl, CP_x hI f gc0 gc1⟩
    · rw [if_neg (by omega)]
      refine tr_call (t_gtakeFrom gc1 gc0 (by decide)) ?_
      rintro _ K1 ⟨gc, f1⟩
      have g01 : GC K1 0 gF := gc0.fm f1 (fun k i s z q => by unfold FG at z q; omega)
      have pt1 : PTi K1 := pt.fgu (f1.mono (fun _ _ _ => Or.inl))
      refine tr_call (t_putNumber gc hj (k : Int)) ?_
      rintro _ K2 ⟨gc, f2⟩
      have g02 : GC K2 0 gF := g01.fm f2 (fun k i s z q => by unfold FG at z q; omega)
      have pt2 : PTi K2 := pt1.fgu (f2.mono (fun _ _ _ => Or.inl))
      rw [show (1000000 : Int) = ((1000000 : Nat) : Int) from rfl]
      refine tr_call (t_makeSteps gc (w k hk1 (by omega)) pt2 (by decide)) ?_
      rintro x K3 ⟨-, gc, -, pt3, f3⟩
      have g03 : GC K3 0 gF := g02.fm f3 (fun k i s z q => by unfold FG at z; unfold FST FG FPA at q; omega)
      rw [stepsG_F (g := gsN gF j (k : Int)) rfl (w k hk1 (by omega))] at gc
      rw [g_totalSize gc, bnd_some, gS_F]
      have ff : Fm (FX 0 1) I K3 := f.trans ((f1.mono fx_h).trans ((f2.mono fx_h).trans (f3.mono fx_s')))
      rcases hs with ⟨rfl, rfl⟩ | ⟨rfl, z⟩
      · rw [if_pos (by show w32 (-1) = -1; decide)]
        exact tr_ret ⟨hi + 1 - (k + 1), by omega, k + 1, rfl, by omega, by omega, Or.inr ⟨by rw [Int.natCast_succ], by omega⟩, g03, ⟨_, gc⟩, pt3, ff⟩
      · rw [if_neg (by show ¬ w32 (lo : Int) = -1; rw [w32_of (by omega) (by omega)]; omega), if_neg (by show ¬ w32 1 < w32 1; decide)]
        exact tr_ret ⟨hi + 1 - (k + 1), by omega, k + 1, rfl, by omega, by omega, Or.inr ⟨by rw [Int.natCast_succ], by omega⟩, g03, ⟨_, gc⟩, pt3, ff⟩
  · rintro x K ⟨rfl, cp⟩
    exact tr_ret ⟨rfl, cp⟩
abbrev FMA : FP := fun k i s => (k = 27 ∧ i ≠ 1) ∨ (k = 26 ∧ s ≠ 7)
theorem fA_ms : ∀ k i s : Nat, FMS k i s → FMA k i s := fun k i s z => by
  rcases z with z | z | z
  · unfold FW at z; unfold FMA; omega
  · unfold FMP at z; unfold FMA; omega
  · unfold FL at z; unfold FMA; omega
theorem t_sizeWith (gw : GW J gF) {j : Nat} (hj : j < 3) {v : Int} (w : WF (gsN gF j v)) : Tr (f_M_sizeWith (j : Int) v J) (fun x K => x = 1 ∧ GW K gF ∧ Fm FM7 J K) := by
  have wj : w32 (j : Int) = j := w32_of (by omega) (by omega)
  unfold f_M_sizeWith f_M_aside
  refine tr_call (P := fun _ K => (∀ s : Nat, s < 16860 → K 27 1 s = J 27 0 s) ∧ GW K gF ∧ Fm FM7 J K) ?_ ?_
  · refine tr_call (t_mlays (k := 0) (b := 0) (k' := 1) (b' := 0) (I := J) (by decide) (by decide) (by decide) (by decide) (by decide) (by decide) (by decide)) ?_
    rintro _ K ⟨h, f⟩
    exact tr_ret ⟨fun s hs => by have := h s hs; rwa [Nat.zero_add] at this, gw.fm f (fun s _ z => absurd z.2.1 (by decide)), f.mono (fun a b c z => Or.inl z.1)⟩
  rintro _ K1 ⟨hc, g1, f1⟩
  rw [wj, if_pos (by omega), Int.toNat_natCast]
  try dsimp only [ltI]
  have fa : Fm FMA K1 (sI K1 27 0 j v) := Fm.sI (by decide) (by omega) (by omega) (Or.inl ⟨rfl, by decide⟩)
  refine tr_call (t_mstepsEnd (g1.num hj) w (m := 42) mu_gF) ?_
  rintro _ K2 ⟨g2, f2⟩
  rw [stepsG_F (g := gsN gF j v) rfl w] at g2
  rw [m_sizeNow g2, bnd_some, gS_F]
  have f12 : Fm FMA K1 K2 := fa.trans (f2.mono fA_ms)
  unfold f_M_back
  refine tr_call (P := fun x K => x = 1 ∧ GW K gF ∧ Fm FM7 K2 K) ?_ ?_
  · refine tr_call (t_mlays (k := 1) (b := 0) (k' := 0) (b' := 0) (I := K2) (by decide) (by decide) (by decide) (by decide) (by decide) (by decide) (by decide)) ?_
    rintro _ K ⟨h, f⟩
    refine tr_ret ⟨rfl, GWf.congr gw (fun s hs => ?_), f.mono (fun a b c z => Or.inl z.1)⟩
    have h2 := h s hs
    rw [Nat.zero_add] at h2
    rw [h2, f12.at (by decide) (by unfold FMA; omega), hc s hs]
  · rintro x K3 ⟨rfl, g3, f3⟩
    exact tr_ret ⟨rfl, g3, f1.trans ((f12.mono (fun a b c z => by unfold FMA at z; unfold FM7; omega)).trans f3)⟩
theorem bo_ok (gw : GW J gF) {j : Nat} (hj : j < 3) {lo hi : Nat} (hlh : lo ≤ hi ∧ hi < 100) (hl : ∀ I : Mem, f_M_leastOf (j : Int) I = some ((lo : Int), I)) (hh : ∀ I : Mem, f_M_mostOf (j : Int) I = some ((hi : Int), I))
    (w : ∀ v : Nat, lo ≤ v → v ≤ hi → WF (gsN gF j v)) : Tr (f_M_bestOf (j : Int) J) (fun x K => x = (lo : Int) ∧ Fm FM7 J K) := by
  unfold f_M_bestOf
  rw [hl, bnd_some]
  refine tr_call (t_sizeWith gw hj (w lo (Nat.le_refl _) hlh.1)) ?_
  rintro _ K1 ⟨rfl, g1, f1⟩
  refine tr_call (P := fun x K => x = (lo : Int) ∧ Fm FM7 J K) (tr_whl (fun n s K => ∃ k : Nat, n = hi + 1 - k ∧ lo < k ∧ k ≤ hi + 1 ∧ s = ((lo : Int), 1, (k : Int)) ∧ GW K gF ∧ Fm FM7 J K) ?_ (hi + 1 - (lo + 1)) _ _ ⟨lo + 1, rfl, by omega, by omega, by rw [Int.natCast_succ], g1, f1⟩) ?_
  · rintro n s K ⟨k, rfl, hk1, hk2, rfl, gk, f⟩
    unfold f_M_bestOf_w17
    rw [hh, bnd_some, w32_of (x := (hi : Int)) (by omega) (by omega)]
    show Tr (if (hi : Int) < w32 (k : Int) then _ else _) _
    rw [w32_of (x := (k : Int)) (by omega) (by omega)]
    by_cases q : hi < k
    · rw [if_pos (by omega)]
      exact tr_ret ⟨rfl, f⟩
    · rw [if_neg (by omega)]
      refine tr_call (t_sizeWith gk hj (w k (by omega) (by omega))) ?_
      rintro _ K2 ⟨rfl, g2, f2⟩
      rw [if_neg (by show ¬ w32 1 < w32 1; decide)]
      exact tr_ret ⟨hi + 1 - (k + 1), by omega, k + 1, rfl, by omega, by omega, by rw [Int.natCast_succ], g2, f.trans f2⟩
  · rintro x K ⟨rfl, f⟩
    exact tr_ret ⟨rfl, f⟩
theorem WF_n {j : Nat} {v : Int} (h : (j = 0 → 2 ≤ v ∧ v ≤ 9) ∧ (j = 1 → 0 ≤ v ∧ v ≤ 2) ∧ (j = 2 → 0 ≤ v ∧ v ≤ 1)) : WF (gsN gF j v) := by
  obtain ⟨a1, a2, a3, a4, a5, a6, a7, a8⟩ := WF_gF
  refine ⟨a1, a2, a3, a4, a5, ?_, ?_, ?_⟩
  · show 2 ≤ up (gN gF) j v 0 ∧ up (gN gF) j v 0 ≤ 9
    by_cases q : j = 0
    · subst q; rw [up_self]; exact h.1 rfl
    · rw [up_ne (by omega)]; exact a6
  · show 0 ≤ up (gN gF) j v 1 ∧ up (gN gF) j v 1 ≤ 2
    by_cases q : j = 1
    · subst q; rw [up_self]; exact h.2.1 rfl
    · rw [up_ne (by omega)]; exact a7
  · show 0 ≤ up (gN gF) j v 2 ∧ up (gN gF) j v 2 ≤ 1
    by_cases q : j = 2
    · subst q; rw [up_self]; exact h.2.2 rfl
    · rw [up_ne (by omega)]; exact a8
theorem ok_24 (hI : FS I) : ∃ (r1 r2 : Int) (J K : Mem), f_PR_bestTie I = some (r1, J) ∧ f_M_bestTie J = some (r2, K) ∧ w32 r1 = w32 r2 ∧ dC I K ≤ 210600 ∧ dS I K ≤ 631700 := by
  have w : ∀ v : Nat, 0 ≤ v → v ≤ 2 → WF (gsN gF 1 v) := fun v _ h => WF_n ⟨fun z => by omega, fun _ => by omega, fun z => by omega⟩
  refine ok_I (u := 0) ?_ (fun J cp => m7_I ?_)
  · unfold f_PR_bestTie
    rw [show (5 : Int) = 4 + ((1 : Nat) : Int) from rfl]
    refine tr_call (bn_ok hI (j := 1) (lo := 0) (hi := 2) (by decide) (by decide) lo_1 hi_1 w) ?_
    rintro x K ⟨rfl, cp⟩
    exact tr_ret ⟨by decide, cp⟩
  · unfold f_M_bestTie
    try dsimp only [ltI]
    rw [show (1 : Int) = ((1 : Nat) : Int) from rfl]
    refine tr_call (bo_ok ((hI.2.2.1.cp cp).t0 (v := 0)) (j := 1) (lo := 0) (hi := 2) (by decide) (by decide) ml_1 mh_1 w) ?_
    rintro x K ⟨rfl, f⟩
    exact tr_ret ⟨by decide, f⟩
theorem ok_25 (hI : FS I) : ∃ (r1 r2 : Int) (J K : Mem), f_PR_bestLeast I = some (r1, J) ∧ f_M_bestLeast J = some (r2, K) ∧ w32 r1 = w32 r2 ∧ dC I K ≤ 210600 ∧ dS I K ≤ 631700 := by
  have w : ∀ v : Nat, 2 ≤ v → v ≤ 9 → WF (gsN gF 0 v) := fun v _ h => WF_n ⟨fun z => by omega, fun z => by omega, fun z => by omega⟩
  refine ok_I (u := 2) ?_ (fun J cp => m7_I ?_)
  · unfold f_PR_bestLeast
    rw [show (4 : Int) = 4 + ((0 : Nat) : Int) from rfl]
    refine tr_call (bn_ok hI (j := 0) (lo := 2) (hi := 9) (by decide) (by decide) lo_0 hi_0 w) ?_
    rintro x K ⟨rfl, cp⟩
    exact tr_ret ⟨by decide, cp⟩
  · unfold f_M_bestLeast
    try dsimp only [ltI]
    refine tr_call (bo_ok ((hI.2.2.1.cp cp).t0 (v := 0)) (j := 0) (lo := 2) (hi := 9) (by decide) (by decide) ml_0 mh_0 w) ?_
    rintro x K ⟨rfl, f⟩
    exact tr_ret ⟨by decide, f⟩
theorem gS1 : gSize gF = 1 := by decide
theorem ok_15 (hI : FS I) : ∃ (r1 r2 : UInt64) (J K : Mem), f_PR_ratio I = some (r1, J) ∧ f_M_ratio J = some (r2, K) ∧ Op.cmpValue (FP.dcmp r1 r2) .l = Int32.ofInt 0 ∧ dC I K ≤ 210600 ∧ dS I K ≤ 631700 := by
  have gw := (hI.2.2.1).t0 (v := 0)
  obtain ⟨x, K, e, rfl, -, -, f⟩ := t_textLong gw WF_gF
  have d := d_MPo (I := I) (MPo_s.trans (FL_ok f))
  have d2 := (CP_same (I := I)).2.2
  refine ⟨FP.ddiv (FP.i2d (Int32.ofInt 1)) (FP.i2d (Int32.ofInt 1)), FP.ddiv (FP.i2d (Int32.ofInt 1)) (FP.i2d (Int32.ofInt 1)), I, K, ?_, ?_, by decide +kernel, by omega, by omega⟩
  · unfold f_PR_ratio
    rw [hI.len, bnd_some, if_neg (by decide), g_totalSize hI.1, bnd_some, gS1, if_pos (by decide +kernel)]
  · unfold f_M_ratio
    try dsimp only [ltI]
    rw [m_sizeNow gw, bnd_some, e, bnd_some, gS1, show ((gT gF).length : Int) = 1 from rfl, if_pos (by decide +kernel)]
theorem fq1 : FP.fdiv (FP.i2f (Int32.ofInt 1)) (FP.i2f (Int32.ofInt 1)) = (0x3f800000 : UInt32) := by decide +kernel
theorem bits1 (K : Mem) : f_PR_bitsOf (0x3f800000 : UInt32) K = some (ior (ish 127 23) (ian ((FP.f2i (FP.fmul (FP.fsub (0x3f800000 : UInt32) FP.fconst1) (1258291200 : UInt32))).toInt) 8388607), K) := by
  have s : f_PR_bitsOf_w7 ((0x3f800000 : UInt32), 127, 0) K = some (.inr ((0x3f800000 : UInt32), 127), K) := by
    unfold f_PR_bitsOf_w7
    rw [if_pos (by decide), if_pos (by decide +kernel)]
  unfold f_PR_bitsOf
  rw [whl_eq, s]
  dsimp only
  rw [bnd_some]
  dsimp only
  rw [if_pos (by decide +kernel), if_pos (by decide +kernel)]
theorem ok_16 (hI : FS I) : ∃ (r1 r2 : Int) (J K : Mem), f_PR_meanBits I = some (r1, J) ∧ f_M_meanBits J = some (r2, K) ∧ w32 r1 = w32 r2 ∧ dC I K ≤ 210600 ∧ dS I K ≤ 631700 := by
  refine ok_I (u := 1065353216) ?_ (fun J cp => m7_I ?_)
  · have e1 : I 2 (43 * 0) 1 = 1 := hI.r0.2.1
    unfold f_PR_meanBits
    rw [e1, if_neg (by decide), hI.len, bnd_some, fq1, if_pos (by decide +kernel), bits1, bnd_some]
    exact tr_ret ⟨by decide +kernel, CP_same⟩
  · have gw := (hI.2.2.1.cp cp).t0 (v := 0)
    unfold f_M_meanBits
    try dsimp only [ltI]
    refine tr_call (t_textLong gw WF_gF) ?_
    rintro _ K ⟨rfl, -, gk, f⟩
    rw [m_many0 (gk.1 0 (by decide)).1, bnd_some, show ((gT gF).length : Int) = 1 from rfl, fq1, if_pos (by decide +kernel), if_pos (by decide +kernel)]
    exact tr_ret ⟨by decide +kernel, f.mono f7_l⟩
end OPS5
