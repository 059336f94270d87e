/-! ===== ratio; meanBits comes back ===== -/
section FLT
variable {I J : Mem} {g g' : GS} {ps : List GS} {kp : Nat → Option GS} {bs rp : List Int} {s : SS}
theorem gd64 {a : UInt64} (h : a.toNat % 2 ^ 63 < 2047 * 2 ^ 52) : a &&& (0x7fffffffffffffff : UInt64) ≤ 0x7ff0000000000000 := by
  rw [UInt64.le_iff_toNat_le, FP.Core.mask_toNat]
  show a.toNat % 2 ^ 63 ≤ 9218868437227405312
  omega
theorem gd32 {a : UInt32} (h : a.toNat % 2 ^ 31 < 255 * 2 ^ 23) : a &&& (0x7fffffff : UInt32) ≤ 0x7f800000 := by
  rw [UInt32.le_iff_toNat_le, FP.Core.mask_toNat32]
  show a.toNat % 2 ^ 31 ≤ 2139095040
  omega
theorem nn64 {a : UInt64} (h : a.toNat % 2 ^ 63 < 2047 * 2 ^ 52) : FP.Core.val64 a ≠ .nan := (FP.Core.ne_nan a).mpr (by omega)
theorem nn32 {a : UInt32} (h : a.toNat % 2 ^ 31 < 255 * 2 ^ 23) : FP.Core.val32 a ≠ .nan := (FP.Core.ne_nan32 a).mpr (by omega)
theorem rat_mag {a b : Int32} (hb : b.toInt ≠ 0) : (FP.ddiv (FP.i2d a) (FP.i2d b)).toNat % 2 ^ 63 < 2047 * 2 ^ 52 := by
  have h := FP.Core.ddiv_mag (a := FP.Core.i2d a) (b := FP.Core.i2d b) (K := 1056) (L := 1023) (FP.Core.i2d_mag a) (FP.Core.i2d_big hb).1 (FP.Core.i2d_big hb).2 (by decide) (by decide)
  show (FP.Core.ddiv (FP.Core.i2d a) (FP.Core.i2d b)).toNat % 2 ^ 63 < _
  omega
theorem quo_mag {a b : Int32} (hb : b.toInt ≠ 0) : (FP.fdiv (FP.i2f a) (FP.i2f b)).toNat % 2 ^ 31 < 161 * 2 ^ 23 := by
  have h := FP.Core.fdiv_mag (a := FP.Core.i2f a) (b := FP.Core.i2f b) (K := 160) (L := 127) (FP.Core.i2f_mag a) (FP.Core.i2f_big hb).1 (FP.Core.i2f_big hb).2 (by decide) (by decide)
  show (FP.Core.fdiv (FP.Core.i2f a) (FP.Core.i2f b)).toNat % 2 ^ 31 < _
  omega
theorem same64 {a : UInt64} (h : a.toNat % 2 ^ 63 < 2047 * 2 ^ 52) : Op.cmpValue (FP.dcmp a a) .l = Int32.ofInt 0 := by
  rw [show FP.dcmp a a = some .eq from FP.Core.dcmp_eq.mpr ⟨nn64 h, nn64 h, rfl⟩]
  rfl
theorem same32 {a : UInt32} (h : a.toNat % 2 ^ 31 < 255 * 2 ^ 23) : Op.cmpValue (FP.fcmp a a) .l = 0 := by
  rw [show FP.fcmp a a = some .eq from FP.Core.fcmp_eq.mpr ⟨nn32 h, nn32 h, rfl⟩]
  rfl
theorem ofI_ne {x : Int} (h : 1 ≤ x ∧ x ≤ 1000000) : (Int32.ofInt x).toInt ≠ 0 := by
  rw [w_toInt, w32_of (by omega) (by omega)]
  omega
theorem og_15 (h : SI I s) : ∃ (r1 r2 : UInt64) (J K : Mem) (s' : SS), f_PR_ratio I = some (r1, J) ∧ f_M_ratio J = some (r2, K) ∧ Op.cmpValue (FP.dcmp r1 r2) .l = Int32.ofInt 0 ∧ SI K s' ∧ Rm I K := by
  obtain ⟨g, ps, kp, bs, rp⟩ := s
  have w : WF g := h.2.2.1
  have hT : ll (gL g) (gR g 0) = (gT g).length := w.2.2.1
  have l1 : 1 ≤ (gT g).length := w.2.2.2.1
  have l4 : (gT g).length ≤ 400 := w.2.2.2.2.1
  have et : f_G_textLength 0 I = some (((gT g).length : Int), I) := by rw [g_textLength h.1.1 (fun i hi => w.sy hi)]; show some (ll (gL g) (gR g 0), I) = _; rw [hT]
  have rm := rat_mag (a := Int32.ofInt (gSize g)) (b := Int32.ofInt ((gT g).length : Int)) (ofI_ne (by omega))
  have s0 := h.2.1.t7 (v := 0)
  have gw : GW (sI I 26 0 7 0) g := s0.1
  obtain ⟨x, K, e, rfl, -, gk, f⟩ := t_textLong gw w
  have ff : Fm FMo I K := f7_mo.trans (f.mono (fun a b c z => by unfold FL at z; unfold FMo; omega))
  refine ⟨FP.ddiv (FP.i2d (Int32.ofInt (gSize g))) (FP.i2d (Int32.ofInt ((gT g).length : Int))), _, I, K, (g, ps, kp, bs, rp), ?_, ?_, same64 rm, ⟨h.1.mo ff, (s0.rdq (f.mono fn_l) gk).1, h.2.2⟩, rm_2 (Fm.refl _ _) ff⟩
  · unfold f_PR_ratio
    rw [et, bnd_some, w32_of (x := ((gT g).length : Int)) (by omega) (by omega), if_neg (by omega), g_totalSize h.1.1, bnd_some]
    show (if (FP.ddiv (FP.i2d (Int32.ofInt (gSize g))) (FP.i2d (Int32.ofInt ((gT g).length : Int)))) &&& (0x7fffffffffffffff : UInt64) ≤ 0x7ff0000000000000 then _ else none) = _
    rw [if_pos (gd64 rm)]
  · unfold f_M_ratio
    try dsimp only [ltI]
    rw [m_sizeNow gw, bnd_some, e, bnd_some, if_pos (gd64 rm)]
theorem bits_ok {q : UInt32} (hq : q.toNat % 2 ^ 31 < 161 * 2 ^ 23) (J : Mem) : Tr (f_PR_bitsOf q J) (fun _ K => K = J) := by
  have c2 : FP.Core.val32 FP.fconst2 ≠ .nan := by decide +kernel
  unfold f_PR_bitsOf
  refine tr_call (P := fun r K => r.1.toNat % 2 ^ 31 < 161 * 2 ^ 23 ∧ K = J) (tr_whl (fun n s K => ∃ k : Nat, k ≤ 127 ∧ n = 127 - k ∧ s.2.2 = (k : Int) ∧ s.1.toNat % 2 ^ 31 < 161 * 2 ^ 23 ∧ K = J) ?_ 127 _ _ ⟨0, by omega, rfl, rfl, hq, rfl⟩) ?_
  · rintro n s K ⟨k, hk, rfl, hs, hm, rfl⟩
    unfold f_PR_bitsOf_w7
    rw [hs, w32_of (x := (k : Int)) (by omega) (by omega)]
    by_cases q1 : (k : Int) < 127
    · rw [if_pos q1]
      refine tr_if (fun _ => tr_ret ⟨hm, rfl⟩) (fun _ => ?_)
      have h2 := FP.Core.fdiv_mag (a := s.1) (b := FP.fconst2) (K := 161) (L := 128) hm (by decide +kernel) (by decide +kernel) (by decide) (by decide)
      have h3 : (FP.fdiv s.1 FP.fconst2).toNat % 2 ^ 31 < 161 * 2 ^ 23 := by
        show (FP.Core.fdiv s.1 FP.fconst2).toNat % 2 ^ 31 < _
        omega
      rw [if_pos (gd32 (by omega))]
      exact tr_ret ⟨127 - (k + 1), by omega, k + 1, by omega, rfl, by rw [Int.natCast_succ], h3, rfl⟩
    · rw [if_neg q1]
      exact tr_ret ⟨hm, rfl⟩
  · rintro r K ⟨hm, rfl⟩
    have h1 := FP.Core.fsub_mag (a := r.1) (b := FP.fconst1) (K := 161) hm (by decide +kernel) (by decide)
    have h1' : (FP.fsub r.1 FP.fconst1).toNat % 2 ^ 31 < 163 * 2 ^ 23 := h1
    have h2 := FP.Core.fmul_mag (a := FP.fsub r.1 FP.fconst1) (b := (1258291200 : UInt32)) (Ka := 163) (Kb := 151) h1' (by decide +kernel) (by decide) (by decide)
    have h2' : (FP.fmul (FP.fsub r.1 FP.fconst1) (1258291200 : UInt32)).toNat % 2 ^ 31 < 188 * 2 ^ 23 := h2
    rw [if_pos (gd32 (by omega)), if_pos (gd32 (by omega))]
    exact tr_ret rfl
theorem og_16T (h : SI I s) : OGT f_PR_meanBits f_M_meanBits I := by
  obtain ⟨g, ps, kp, bs, rp⟩ := s
  have w : WF g := h.2.2.1
  have hT : ll (gL g) (gR g 0) = (gT g).length := w.2.2.1
  have l1 : 1 ≤ (gT g).length := w.2.2.2.1
  have l4 : (gT g).length ≤ 400 := w.2.2.2.2.1
  have m4 := w.len400 0 (by decide)
  have m1 : 1 ≤ (gR g 0).length := by
    refine Nat.pos_of_ne_zero (fun z => ?_)
    rw [List.length_eq_zero_iff.mp z, ll_nil] at hT
    omega
  have et : f_G_textLength 0 I = some (((gT g).length : Int), I) := by rw [g_textLength h.1.1 (fun i hi => w.sy hi)]; show some (ll (gL g) (gR g 0), I) = _; rw [hT]
  have er : I 2 (43 * 0) 1 = ((gR g 0).length : Int) := (h.1.1.2.1 0 (by decide)).2.1
  have qm := quo_mag (a := Int32.ofInt ((gT g).length : Int)) (b := Int32.ofInt ((gR g 0).length : Int)) (ofI_ne (by omega))
  obtain ⟨r1, J1, eb, hJ⟩ := bits_ok qm I
  have hJ : J1 = I := hJ
  subst hJ
  have s0 := h.2.1.t7 (v := 0)
  have gw : GW (sI J1 26 0 7 0) g := s0.1
  obtain ⟨x, K, e, rfl, -, gk, f⟩ := t_textLong gw w
  have ff : Fm FMo J1 K := f7_mo.trans (f.mono (fun a b c z => by unfold FL at z; unfold FMo; omega))
  refine ⟨r1, ((FP.fdiv (FP.i2f (Int32.ofInt ((gT g).length : Int))) (FP.i2f (Int32.ofInt ((gR g 0).length : Int)))).toInt32).toInt, J1, K, (g, ps, kp, bs, rp), ?_, ?_, ⟨h.1.mo ff, (s0.rdq (f.mono fn_l) gk).1, h.2.2⟩, rm_2 (Fm.refl _ _) ff⟩
  · unfold f_PR_meanBits
    rw [er, w32_of (x := ((gR g 0).length : Int)) (by omega) (by omega), if_neg (by omega), et, bnd_some, if_pos (gd32 (by omega)), eb, bnd_some]
  · unfold f_M_meanBits
    try dsimp only [ltI]
    rw [e, bnd_some, show f_M_many 0 K = _ from m_many gk (i := 0) (by decide), bnd_some, if_pos (gd32 (by omega)), if_pos (same32 (by omega))]
end FLT
