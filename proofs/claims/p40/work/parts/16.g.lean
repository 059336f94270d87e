section
/-! ===== ratio; meanBits comes back ===== -/
section FLT
variable {I J : Mem} {g g' : GS} {ps : List GS} {kp : Nat → Option GS} {bs rp : List Int} {s : SS}
theorem gd64 {a : UInt64} (h : a.toNat % 2 ^ 63 < 2047 * 2 ^ 52) : a &&& (0x7fffffffffffffff : UInt64) ≤ 0x7ff0000000000000 := by
  rw [UInt64.le_iff_toNat_le, FP.Core.mask_toNat]
  show a.toNat % 2 ^ 63 ≤ 9218868437227405312
  omega
theorem gd32 {a : UInt32} (h : a.toNat % 2 ^ 31 < 255 * 2 ^ 23) : a &&& (0x7fffffff : UInt32) ≤ 0x7f800000 := by
  rw [UInt32.le_iff_toNat_le, FP.Core.mask_toNat32]
  show a.toNat % 2 ^ 31 ≤ 2139095040
  omega
theorem nn64 {a : UInt64} (h : a.toNat % 2 ^ 63 < 2047 * 2 ^ 52) : FP.Core.val64 a ≠ .nan := (FP.Core.ne_nan a).mpr (by omega)
theorem nn32 {a : UInt32} (h : a.toNat % 2 ^ 31 < 255 * 2 ^ 23) : FP.Core.val32 a ≠ .nan := (FP.Core.ne_nan32 a).mpr (by omega)
theorem rat_mag {a b : Int32} (hb : b.toInt ≠ 0) : (FP.ddiv (FP.i2d a) (FP.i2d b)).toNat % 2 ^ 63 < 2047 * 2 ^ 52 := by
  have h := FP.Core.ddiv_mag (a := FP.Core.i2d a) (b := FP.Core.i2d b) (K := 1056) (L := 1023) (FP.Core.i2d_mag a) (FP.Core.i2d_big hb).1 (FP.Core.i2d_big hb).2 (by decide) (by decide)
  show (FP.Core.ddiv (FP.Core.i2d a) (FP.Core.i2d b)).toNat % 2 ^ 63 < _
  omega
theorem quo_mag {a b : Int32} (hb : b.toInt ≠ 0) : (FP.fdiv (FP.i2f a) (FP.i2f b)).toNat % 2 ^ 31 < 161 * 2 ^ 23 := by
  have h := FP.Core.fdiv_mag (a := FP.Core.i2f a) (b := FP.Core.i2f b) (K := 160) (L := 127) (FP.Core.i2f_mag a) (FP.Core.i2f_big hb).1 (FP.Core.i2f_big hb).2 (by decide) (by decide)
  show (FP.Core.fdiv (FP.Core.i2f a) (FP.Core.i2f b)).toNat % 2 ^ 31 < _
  omega
theorem same64 {a : UInt64} (h : a.toNat % 2 ^ 63 < 2047 * 2 ^ 52) : Op.cmpValue (FP.dcmp a a) .l = Int32.ofInt 0 := by
  rw [show FP.dcmp a a = some .eq from FP.Core.dcmp_eq.mpr ⟨nn64 h, nn64 h, rfl⟩]
  rfl
theorem same32 {a : UInt32} (h : a.toNat % 2 ^ 31 < 255 * 2 ^ 23) : Op.cmpValue (FP.fcmp a a) .l = 0 := by
  rw [show FP.fcmp a a = some .eq from FP.Core.fcmp_eq.mpr ⟨nn32 h, nn32 h, rfl⟩]
  rfl
theorem ofI_ne {x : Int} (h : 1 ≤ x ∧ x ≤ 1000000) : (Int32.ofInt x).toInt ≠ 0 := by
  rw [w_toInt, w32_of (by omega) (by omega)]
  omega
theorem og_15 (h : SI I s) : ∃ (r1 r2 : UInt64) (J K : Mem) (s' : SS), f_PR_ratio I = some (r1, J) ∧ f_M_ratio J = some (r2, K) ∧ Op.cmpValue (FP.dcmp r1 r2) .l = Int32.ofInt 0 ∧ SI K s' ∧ Rm I K := by
  obtain ⟨g, ps, kp, bs, rp⟩ := s
  have w : WF g := h.2.2.1
  have hT : ll (gL g) (gR g 0) = (gT g).length := w.2.2.1
  have l1 : 1 ≤ (gT g).length := w.2.2.2.1
  have l4 : (gT g).length ≤ 400 := w.2.2.2.2.1
  have et : f_G_textLength 0 I = some (((gT g).length : Int), I) := by rw [g_textLength h.1.1 (fun i hi => w.sy hi)]; show some (ll (gL g) (gR g 0), I) = _; rw [hT]
  have rm := rat_mag (a := Int32.ofInt (gSize g)) (b := Int32.ofInt ((gT g).length : Int)) (ofI_ne (by omega))
  have s0 := h.2.1.t7 (v := 0)
  have gw : GW (sI I 26 0 7 0) g := s0.1
  obtain ⟨x, K, e, rfl, -, gk, f⟩ := t_textLong gw w
  have ff : Fm FMo I K := f7_mo.trans (f.mono (fun a b c z => by unfold FL at z; unfold FMo; omega))
  refine ⟨FP.ddiv (FP.i2d (Int32.ofInt (gSize g))) (FP.i2d (Int32.ofInt ((gT g).length : Int))), _, I, K, (g, ps, kp, bs, rp), ?_, ?_, same64 rm, ⟨h.1.mo ff, (s0.rdq (f.mono fn_l) gk).1, h.2.2⟩, rm_2 (Fm.refl _ _) ff⟩
  · unfold f_PR_ratio
    rw [et, bnd_some, w32_of (x := ((gT g).length : Int)) (by omega) (by omega), if_neg (by omega), g_totalSize h.1.1, bnd_some]
    show (if (FP.ddiv (FP.i2d (Int32.ofInt (gSize g))) (FP.i2d (Int32.ofInt ((gT g).length : Int)))) &&& (0x7fffffffffffffff : UInt64) ≤ 0x7ff0000000000000 then _ else none) = _
    rw [if_pos (gd64 rm)]
  · unfold f_M_ratio
    try dsimp only [ltI]
    rw [m_sizeNow gw, bnd_some, e, bnd_some, if_pos (gd64 rm)]
theorem bits_ok {q : UInt32} (hq : q.toNat % 2 ^ 31 < 161 * 2 ^ 23) (J : Mem) : Tr (f_PR_bitsOf q J) (fun _ K => K = J) := by
  have c2 : FP.Core.val32 FP.fconst2 ≠ .nan := by decide +kernel
  unfold f_PR_bitsOf
  refine tr_call (P := fun r K => r.1.toNat % 2 ^ 31 < 161 * 2 ^ 23 ∧ K = J) (tr_whl (fun n s K => ∃ k : Nat, k ≤ 127 ∧ n = 127 - k ∧ s.2.2 = (k : Int) ∧ s.1.toNat % 2 ^ 31 < 161 * 2 ^ 23 ∧ K = J) ?_ 127 _ _ ⟨0, by omega, rfl, rfl, hq, rfl⟩) ?_
  · rintro n s K ⟨k, hk, rfl, hs, hm, rfl⟩
    unfold f_PR_bitsOf_w7
    rw [hs, w32_of (x := (k : Int)) (by omega) (by omega)]
    by_cases q1 : (k : Int) < 127
    · rw [if_pos q1]
      refine tr_if (fun _ => tr_ret ⟨hm, rfl⟩) (fun _ => ?_)
      have h2 := FP.Core.fdiv_mag (a := s.1) (b := FP.fconst2) (K := 161) (L := 128) hm (by decide +kernel) (by decide +kernel) (by decide) (by decide)
      have h3 : (FP.fdiv s.1 FP.fconst2).toNat % 2 ^ 31 < 161 * 2 ^ 23 := by
        show (FP.Core.fdiv s.1 FP.fconst2).toNat % 2 ^ 31 < _
        omega
      rw [if_pos (gd32 (by omega))]
      exact tr_ret ⟨127 - (k + 1), by omega, k + 1, by omega, rfl, by rw [Int.natCast_succ], h3, rfl⟩
    · rw [if_neg q1]
      exact tr_ret ⟨hm, rfl⟩
  · rintro r K ⟨hm, rfl⟩
    have h1 := FP.Core.fsub_mag (a := r.1) (b := FP.fconst1) (K := 161) hm (by decide +kernel) (by decide)
    have h1' : (FP.fsub r.1 FP.fconst1).toNat % 2 ^ 31 < 163 * 2 ^ 23 := h1
    have h2 := FP.Core.fmul_mag (a := FP.fsub r.1 FP.fconst1) (b := (1258291200 : UInt32)) (Ka := 163) (Kb := 151) h1' (by decide +kernel) (by decide) (by decide)
    have h2' : (FP.fmul (FP.fsub r.1 FP.fconst1) (1258291200 : UInt32)).toNat % 2 ^ 31 < 188 * 2 ^ 23 := h2
    rw [if_pos (gd32 (by omega)), if_pos (gd32 (by omega))]
    exact tr_ret rfl
theorem og_16T (h : SI I s) : OGT f_PR_meanBits f_M_meanBits I := by
  obtain ⟨g, ps, kp, bs, rp⟩ := s
  have w : WF g := h.2.2.1
  have hT : ll (gL g) (gR g 0) = (gT g).length := w.2.2.1
  have l1 : 1 ≤ (gT g).length := w.2.2.2.1
  have l4 : (gT g).length ≤ 400 := w.2.2.2.2.1
  have m4 := w.len400 0 (by decide)
  have m1 : 1 ≤ (gR g 0).length := by
    refine Nat.pos_of_ne_zero (fun z => ?_)
    rw [List.length_eq_zero_iff.mp z, ll_nil] at hT
    omega
  have et : f_G_textLength 0 I = some (((gT g).length : Int), I) := by rw [g_textLength h.1.1 (fun i hi => w.sy hi)]; show some (ll (gL g) (gR g 0), I) = _; rw [hT]
  have er : I 2 (43 * 0) 1 = ((gR g 0).length : Int) := (h.1.1.2.1 0 (by decide)).2.1
  have qm := quo_mag (a := Int32.ofInt ((gT g).length : Int)) (b := Int32.ofInt ((gR g 0).length : Int)) (ofI_ne (by omega))
  obtain ⟨r1, J1, eb, hJ⟩ := bits_ok qm I
  have hJ : J1 = I := hJ
  subst hJ
  have s0 := h.2.1.t7 (v := 0)
  have gw : GW (sI J1 26 0 7 0) g := s0.1
  obtain ⟨x, K, e, rfl, -, gk, f⟩ := t_textLong gw w
  have ff : Fm FMo J1 K := f7_mo.trans (f.mono (fun a b c z => by unfold FL at z; unfold FMo; omega))
  refine ⟨r1, ((FP.fdiv (FP.i2f (Int32.ofInt ((gT g).length : Int))) (FP.i2f (Int32.ofInt ((gR g 0).length : Int)))).toInt32).toInt, J1, K, (g, ps, kp, bs, rp), ?_, ?_, ⟨h.1.mo ff, (s0.rdq (f.mono fn_l) gk).1, h.2.2⟩, rm_2 (Fm.refl _ _) ff⟩
  · unfold f_PR_meanBits
    rw [er, w32_of (x := ((gR g 0).length : Int)) (by omega) (by omega), if_neg (by omega), et, bnd_some, if_pos (gd32 (by omega)), eb, bnd_some]
  · unfold f_M_meanBits
    try dsimp only [ltI]
    rw [e, bnd_some, show f_M_many 0 K = _ from m_many gk (i := 0) (by decide), bnd_some, if_pos (gd32 (by omega)), if_pos (same32 (by omega))]
end FLT
end
section
/-! ===== tokens ===== -/
def kd (b : Int) : Int := if 97 ≤ b ∧ b ≤ 122 then 1 else if 48 ≤ b ∧ b ≤ 57 then 2 else if b = 40 then 4 else if b = 41 then 5 else if b = 59 then 3 else 6
def skp (bs : List Int) : Nat → Nat → Nat
  | 0, p => p
  | n + 1, p => if p < bs.length ∧ (bs.getD p 0 = 32 ∨ bs.getD p 0 = 10) then skp bs n (p + 1) else p
def exT (bs : List Int) (k : Int) : Nat → Nat → Nat
  | 0, p => p
  | n + 1, p => if p < bs.length ∧ kd (bs.getD p 0) = k then exT bs k n (p + 1) else p
/-- where the token behind p begins, what it is, where it ends -/
def tF (bs : List Int) (p : Nat) : Nat := skp bs 600 p
def tK (bs : List Int) (p : Nat) : Int := if tF bs p < bs.length then kd (bs.getD (tF bs p) 0) else 0
def tE (bs : List Int) (p : Nat) : Nat := if tK bs p = 1 ∨ tK bs p = 2 then exT bs (tK bs p) 600 (tF bs p + 1) else if tK bs p = 0 then tF bs p else tF bs p + 1
theorem skp_le (bs : List Int) : ∀ (n p : Nat), p ≤ bs.length → p ≤ skp bs n p ∧ skp bs n p ≤ bs.length
  | 0, p, h => ⟨Nat.le_refl _, h⟩
  | n + 1, p, h => by
    show p ≤ (if p < bs.length ∧ (bs.getD p 0 = 32 ∨ bs.getD p 0 = 10) then skp bs n (p + 1) else p) ∧ (if p < bs.length ∧ (bs.getD p 0 = 32 ∨ bs.getD p 0 = 10) then skp bs n (p + 1) else p) ≤ bs.length
    by_cases q : p < bs.length ∧ (bs.getD p 0 = 32 ∨ bs.getD p 0 = 10)
    · rw [if_pos q]
      have := skp_le bs n (p + 1) (by omega)
      omega
    · rw [if_neg q]
      exact ⟨Nat.le_refl _, h⟩
theorem exT_le (bs : List Int) (k : Int) : ∀ (n p : Nat), p ≤ bs.length → p ≤ exT bs k n p ∧ exT bs k n p ≤ bs.length
  | 0, p, h => ⟨Nat.le_refl _, h⟩
  | n + 1, p, h => by
    show p ≤ (if p < bs.length ∧ kd (bs.getD p 0) = k then exT bs k n (p + 1) else p) ∧ (if p < bs.length ∧ kd (bs.getD p 0) = k then exT bs k n (p + 1) else p) ≤ bs.length
    by_cases q : p < bs.length ∧ kd (bs.getD p 0) = k
    · rw [if_pos q]
      have := exT_le bs k n (p + 1) (by omega)
      omega
    · rw [if_neg q]
      exact ⟨Nat.le_refl _, h⟩
theorem kd_rng (b : Int) : 1 ≤ kd b ∧ kd b ≤ 6 := by
  unfold kd
  repeat' split
  all_goals decide
theorem tK_rng (bs : List Int) (p : Nat) : 0 ≤ tK bs p ∧ tK bs p ≤ 6 := by
  have := kd_rng (bs.getD (tF bs p) 0)
  unfold tK
  split <;> omega
theorem tE_le {bs : List Int} {p : Nat} (h : p ≤ bs.length) : tF bs p ≤ tE bs p ∧ tE bs p ≤ bs.length ∧ p ≤ tF bs p ∧ tF bs p ≤ bs.length := by
  have h1 := skp_le bs 600 p h
  have h2 : tF bs p = skp bs 600 p := rfl
  have hk : tK bs p ≠ 0 → tF bs p < bs.length := fun z => by
    refine Classical.byContradiction fun q => z ?_
    unfold tK
    rw [if_neg q]
  unfold tE
  by_cases q : tK bs p = 1 ∨ tK bs p = 2
  · rw [if_pos q]
    have := hk (by omega)
    have := exT_le bs (tK bs p) 600 (tF bs p + 1) (by omega)
    omega
  · rw [if_neg q]
    by_cases z : tK bs p = 0
    · rw [if_pos z]; omega
    · rw [if_neg z]
      have := hk z
      omega
section TOK
variable {I J : Mem} {bs : List Int}
theorem s_kindOf {b : Int} (hb : 0 ≤ b ∧ b ≤ 255) : f_Src_kindOf b I = some (kd b, I) := by
  have wb : w32 b = b := w32_of (by omega) (by omega)
  have j28 : ¬ (97 ≤ b ∧ b ≤ 122) → ¬ (48 ≤ b ∧ b ≤ 57) → f_Src_kindOf_j28 b I = some (kd b, I) := fun h1 h2 => by
    unfold f_Src_kindOf_j28 kd
    rw [wb, if_neg h1, if_neg h2]
    by_cases q : b = 40
    · rw [if_pos q, if_pos q]
    · rw [if_neg q, if_neg q]
      by_cases q2 : b = 41
      · rw [if_pos q2, if_pos q2]
      · rw [if_neg q2, if_neg q2]
        by_cases q3 : b = 59
        · rw [if_pos q3, if_pos q3]
        · rw [if_neg q3, if_neg q3]
  have j14 : ¬ (97 ≤ b ∧ b ≤ 122) → f_Src_kindOf_j14 b I = some (kd b, I) := fun h1 => by
    unfold f_Src_kindOf_j14
    rw [wb]
    by_cases q : b < 48
    · rw [if_pos q]; exact j28 h1 (by omega)
    · rw [if_neg q]
      by_cases q2 : 57 < b
      · rw [if_pos q2]; exact j28 h1 (by omega)
      · rw [if_neg q2]
        unfold kd
        rw [if_neg h1, if_pos (by omega)]
  unfold f_Src_kindOf
  rw [wb]
  by_cases q : b < 97
  · rw [if_pos q]; exact j14 (by omega)
  · rw [if_neg q]
    by_cases q2 : 122 < b
    · rw [if_pos q2]; exact j14 (by omega)
    · rw [if_neg q2]
      unfold kd
      rw [if_pos (by omega)]
theorem c_skp (hB : BfC I bs) (hl : bs.length ≤ 600) (hr : ∀ b ∈ bs, 1 ≤ b ∧ b ≤ 255) : ∀ n p : Nat, p ≤ bs.length → bs.length - p ≤ n → whl f_Src_advance_w5 (p : Int) I = some (((skp bs n p : Nat) : Int), I) := by
  have step : ∀ p : Nat, p ≤ bs.length → f_Src_advance_w5 (p : Int) I = some (if p < bs.length ∧ (bs.getD p 0 = 32 ∨ bs.getD p 0 = 10) then .inl ((p : Int) + 1) else .inr (p : Int), I) := by
    intro p hp
    unfold f_Src_advance_w5
    rw [hB.1, w32_of (x := (p : Int)) (by omega) (by omega), w32_of (x := (bs.length : Int)) (by omega) (by omega)]
    by_cases q : p < bs.length
    · have hb := hr _ (gd_mem (d := 0) q)
      rw [if_pos (by omega), if_pos (by omega), Int.toNat_natCast, hB.2 p q, w32_of (x := bs.getD p 0) (by omega) (by omega)]
      by_cases q1 : bs.getD p 0 = 32
      · rw [if_pos q1, if_pos ⟨q, Or.inl q1⟩]
      · rw [if_neg q1]
        by_cases q2 : bs.getD p 0 = 10
        · rw [if_pos q2, if_pos ⟨q, Or.inr q2⟩]
        · rw [if_neg q2, if_neg (fun z => z.2.elim q1 q2)]
    · rw [if_neg (by omega), if_neg (fun z => q z.1)]
  intro n
  induction n with
  | zero =>
    intro p hp hn
    rw [whl_eq, step p hp, if_neg (fun z => by omega)]
    rfl
  | succ n ih =>
    intro p hp hn
    rw [whl_eq, step p hp]
    show _ = some (((if p < bs.length ∧ (bs.getD p 0 = 32 ∨ bs.getD p 0 = 10) then skp bs n (p + 1) else p : Nat) : Int), I)
    by_cases q : p < bs.length ∧ (bs.getD p 0 = 32 ∨ bs.getD p 0 = 10)
    · rw [if_pos q, if_pos q]
      exact ih (p + 1) (by omega) (by omega)
    · rw [if_neg q, if_neg q]
theorem c_ext (hB : BfC I bs) (hl : bs.length ≤ 600) (hr : ∀ b ∈ bs, 1 ≤ b ∧ b ≤ 255) {k : Int} (hk : I 6 0 2 = k) (hkr : 0 ≤ k ∧ k ≤ 6) : ∀ n p : Nat, p ≤ bs.length → bs.length - p ≤ n → whl (f_Src_advance_w109 1) (p : Int) I = some (((exT bs k n p : Nat) : Int), I) := by
  have step : ∀ p : Nat, p ≤ bs.length → f_Src_advance_w109 1 (p : Int) I = some (if p < bs.length ∧ kd (bs.getD p 0) = k then .inl ((p : Int) + 1) else .inr (p : Int), I) := by
    intro p hp
    unfold f_Src_advance_w109
    rw [if_neg (by decide), hB.1, w32_of (x := (p : Int)) (by omega) (by omega), w32_of (x := (bs.length : Int)) (by omega) (by omega)]
    by_cases q : p < bs.length
    · have hb := hr _ (gd_mem (d := 0) q)
      have hkd := kd_rng (bs.getD p 0)
      rw [if_pos (by omega), if_pos (by omega), Int.toNat_natCast, hB.2 p q, s_kindOf (by omega), bnd_some, hk, w32_of (x := kd (bs.getD p 0)) (by omega) (by omega), w32_of (x := k) (by omega) (by omega)]
      by_cases q1 : kd (bs.getD p 0) = k
      · rw [if_pos q1, if_pos ⟨q, q1⟩]
      · rw [if_neg q1, if_neg (fun z => q1 z.2)]
    · rw [if_neg (by omega), if_neg (fun z => q z.1)]
  intro n
  induction n with
  | zero =>
    intro p hp hn
    rw [whl_eq, step p hp, if_neg (fun z => by omega)]
    rfl
  | succ n ih =>
    intro p hp hn
    rw [whl_eq, step p hp]
    show _ = some (((if p < bs.length ∧ kd (bs.getD p 0) = k then exT bs k n (p + 1) else p : Nat) : Int), I)
    by_cases q : p < bs.length ∧ kd (bs.getD p 0) = k
    · rw [if_pos q, if_pos q]
      exact ih (p + 1) (by omega) (by omega)
    · rw [if_neg q, if_neg q]
/-- the class stands at the token behind p -/
def TC (J : Mem) (bs : List Int) (p : Nat) : Prop := J 6 0 2 = tK bs p ∧ J 6 0 3 = ((tF bs p : Nat) : Int) ∧ J 6 0 4 = ((tE bs p : Nat) : Int)
theorem t_adv (hB : BfC I bs) (hl : bs.length ≤ 600) (hr : ∀ b ∈ bs, 1 ≤ b ∧ b ≤ 255) {p : Nat} (hp : p ≤ bs.length) (h4 : I 6 0 4 = (p : Int)) : Tr (f_Src_advance I) (fun _ K => TC K bs p ∧ Fm FAd I K) := by
  have hE := tE_le hp
  have hkr := tK_rng bs p
  have e1 : whl f_Src_advance_w5 (p : Int) I = some (((tF bs p : Nat) : Int), I) := c_skp hB hl hr 600 p hp (by omega)
  -- the end, once the kind is there
  have key : ∀ J : Mem, BfC J bs → J 6 0 3 = ((tF bs p : Nat) : Int) → Tr (f_Src_advance_j69 ((tF bs p : Nat) : Int) (tK bs p) J) (fun _ K => TC K bs p ∧ Fm FAd J K) := by
    intro J hBJ e3
    unfold f_Src_advance_j69
    try dsimp only [ltI]
    have f2 : Fm FAd J (sI J 6 0 2 (tK bs p)) := Fm.sI (by decide) (by omega) (by omega) ⟨rfl, by decide⟩
    have e2 : (sI J 6 0 2 (tK bs p)) 6 0 2 = tK bs p := sI_self _ _ _ _ _
    have e3' : (sI J 6 0 2 (tK bs p)) 6 0 3 = ((tF bs p : Nat) : Int) := by rw [sI_ne (by decide), e3]
    have hB2 : BfC (sI J 6 0 2 (tK bs p)) bs := hBJ.fm f2 (by unfold FAd; omega) (fun s => by unfold FAd; omega)
    rw [e2]
    generalize sI J 6 0 2 (tK bs p) = J2 at f2 e2 e3' hB2
    have fin : ∀ v : Int, v = ((tE bs p : Nat) : Int) → TC (sI J2 6 0 4 v) bs p ∧ Fm FAd J (sI J2 6 0 4 v) := fun v hv => ⟨⟨by rw [sI_ne (by decide), e2], by rw [sI_ne (by decide), e3'], by rw [sI_self, hv]⟩, f2.trans (Fm.sI (by decide) (by omega) (by omega) ⟨rfl, by decide⟩)⟩
    have wk : w32 (tK bs p) = tK bs p := w32_of (by omega) (by omega)
    have long : tK bs p = 1 ∨ tK bs p = 2 → Tr (f_Src_advance_j93 ((tF bs p : Nat) : Int) 1 J2) (fun _ K => TC K bs p ∧ Fm FAd J K) := fun z => by
      have hlt : tF bs p < bs.length := by
        refine Classical.byContradiction fun q => ?_
        have : tK bs p = 0 := by unfold tK; rw [if_neg q]
        omega
      unfold f_Src_advance_j93
      rw [e2, wk, if_neg (by omega), show ((tF bs p : Nat) : Int) + 1 = ((tF bs p + 1 : Nat) : Int) from rfl, c_ext hB2 hl hr e2 hkr 600 (tF bs p + 1) (by omega) (by omega), bnd_some]
      try dsimp only [ltI]
      exact tr_ret (fin _ (by unfold tE; rw [if_pos z]))
    rw [wk]
    by_cases q1 : tK bs p = 1
    · rw [if_pos q1]
      exact long (Or.inl q1)
    · rw [if_neg q1]
      by_cases q2 : tK bs p = 2
      · rw [if_pos q2]
        exact long (Or.inr q2)
      · rw [if_neg q2]
        unfold f_Src_advance_j93
        have s2 : ∀ x : Int, whl (f_Src_advance_w109 0) x J2 = some (x, J2) := fun x => by
          rw [whl_eq]
          unfold f_Src_advance_w109
          rw [if_pos (by decide)]
        rw [e2, wk, s2, bnd_some]
        try dsimp only [ltI]
        refine tr_ret (fin _ ?_)
        unfold tE
        have hne : ¬ (tK bs p = 1 ∨ tK bs p = 2) := fun z => z.elim q1 q2
        by_cases q0 : tK bs p = 0
        · rw [if_pos q0, if_neg hne, if_pos q0]
          omega
        · rw [if_neg q0, if_neg hne, if_neg q0]
          rfl
  unfold f_Src_advance
  rw [h4, e1, bnd_some]
  try dsimp only [ltI]
  have f1 : Fm FAd I (sI I 6 0 3 ((tF bs p : Nat) : Int)) := Fm.sI (by decide) (by omega) (by omega) ⟨rfl, by decide⟩
  have e3 : (sI I 6 0 3 ((tF bs p : Nat) : Int)) 6 0 3 = ((tF bs p : Nat) : Int) := sI_self _ _ _ _ _
  have hB1 : BfC (sI I 6 0 3 ((tF bs p : Nat) : Int)) bs := hB.fm f1 (by unfold FAd; omega) (fun s => by unfold FAd; omega)
  generalize sI I 6 0 3 ((tF bs p : Nat) : Int) = J at f1 e3 hB1
  rw [hB1.1, w32_of (x := ((tF bs p : Nat) : Int)) (by omega) (by omega), w32_of (x := (bs.length : Int)) (by omega) (by omega)]
  by_cases q : tF bs p < bs.length
  · have hb := hr _ (gd_mem (d := 0) q)
    rw [if_pos (by omega), if_pos (by omega), Int.toNat_natCast, hB1.2 _ q, s_kindOf (by omega), bnd_some]
    have ek : kd (bs.getD (tF bs p) 0) = tK bs p := by unfold tK; rw [if_pos q]
    rw [ek]
    refine tr_mono (key J hB1 e3) ?_
    rintro _ K ⟨tc, f⟩
    exact ⟨tc, f1.trans f⟩
  · rw [if_neg (by omega)]
    have ek : (0 : Int) = tK bs p := by unfold tK; rw [if_neg q]
    have hk := key J hB1 e3
    rw [← ek] at hk
    refine tr_mono hk ?_
    rintro _ K ⟨tc, f⟩
    exact ⟨tc, f1.trans f⟩
end TOK
end
section
/-! ===== the reference's tokens; numbers ===== -/
def dg (bs : List Int) (f : Nat) : Nat → Int
  | 0 => 0
  | n + 1 => 10 * dg bs f n + bs.getD (f + n) 0 - 48
def nvF (bs : List Int) (f n : Nat) : Int := if n ≤ 6 then dg bs f n else 1000000
def nV (bs : List Int) (p : Nat) : Int := nvF bs (tF bs p) (tE bs p - tF bs p)
theorem dg_rng {bs : List Int} {f : Nat} : ∀ n : Nat, (∀ j : Nat, j < n → 48 ≤ bs.getD (f + j) 0 ∧ bs.getD (f + j) 0 ≤ 57) → 0 ≤ dg bs f n ∧ dg bs f n < (10 : Int) ^ n
  | 0, _ => ⟨Int.le_refl _, by show (0 : Int) < 1; decide⟩
  | n + 1, h => by
    have ih := dg_rng n (fun j hj => h j (by omega))
    have hn := h n (by omega)
    show 0 ≤ 10 * dg bs f n + bs.getD (f + n) 0 - 48 ∧ 10 * dg bs f n + bs.getD (f + n) 0 - 48 < (10 : Int) ^ (n + 1)
    rw [Int.pow_succ]
    omega
theorem nvF_rng {bs : List Int} {f n : Nat} (h : ∀ j : Nat, j < n → 48 ≤ bs.getD (f + j) 0 ∧ bs.getD (f + j) 0 ≤ 57) : 0 ≤ nvF bs f n ∧ nvF bs f n ≤ 1000000 := by
  unfold nvF
  by_cases q : n ≤ 6
  · rw [if_pos q]
    have h1 := dg_rng n h
    have h2 : (10 : Int) ^ n ≤ 1000000 := by
      rcases (show n = 0 ∨ n = 1 ∨ n = 2 ∨ n = 3 ∨ n = 4 ∨ n = 5 ∨ n = 6 by omega) with rfl | rfl | rfl | rfl | rfl | rfl | rfl <;> decide
    omega
  · rw [if_neg q]; omega
theorem exT_all (bs : List Int) (k : Int) : ∀ (n p j : Nat), p ≤ j → j < exT bs k n p → kd (bs.getD j 0) = k
  | 0, p, j, h1, h2 => by
    have h2 : j < p := h2
    omega
  | n + 1, p, j, h1, h2 => by
    have h2 : j < (if p < bs.length ∧ kd (bs.getD p 0) = k then exT bs k n (p + 1) else p) := h2
    by_cases q : p < bs.length ∧ kd (bs.getD p 0) = k
    · rw [if_pos q] at h2
      by_cases e : j = p
      · rw [e]; exact q.2
      · exact exT_all bs k n (p + 1) j (by omega) h2
    · rw [if_neg q] at h2; omega
theorem kd_1 {b : Int} (h : kd b = 1) : 97 ≤ b ∧ b ≤ 122 := by
  refine Classical.byContradiction fun q => ?_
  unfold kd at h
  rw [if_neg q] at h
  split at h <;> first | omega | (split at h <;> first | omega | (split at h <;> first | omega | (split at h <;> omega)))
theorem kd_2 {b : Int} (h : kd b = 2) : 48 ≤ b ∧ b ≤ 57 := by
  refine Classical.byContradiction fun q => ?_
  unfold kd at h
  split at h
  · omega
  · split at h <;> first | omega | (split at h <;> first | omega | (split at h <;> omega))
theorem kd_is1 {b : Int} : kd b = 1 ↔ 97 ≤ b ∧ b ≤ 122 := ⟨kd_1, fun h => by unfold kd; rw [if_pos h]⟩
theorem kd_is2 {b : Int} : kd b = 2 ↔ 48 ≤ b ∧ b ≤ 57 := ⟨kd_2, fun h => by unfold kd; rw [if_neg (by omega), if_pos h]⟩
theorem tF_lt {bs : List Int} {p : Nat} (h : tK bs p ≠ 0) : tF bs p < bs.length := by
  refine Classical.byContradiction fun q => h ?_
  unfold tK
  rw [if_neg q]
theorem tK_kd {bs : List Int} {p : Nat} (h : tK bs p ≠ 0) : kd (bs.getD (tF bs p) 0) = tK bs p := by
  have := tF_lt h
  unfold tK
  rw [if_pos this]
theorem tK_all {bs : List Int} {p : Nat} (h : tK bs p = 1 ∨ tK bs p = 2) {j : Nat} (h1 : tF bs p ≤ j) (h2 : j < tE bs p) : kd (bs.getD j 0) = tK bs p := by
  unfold tE at h2
  rw [if_pos h] at h2
  by_cases e : j = tF bs p
  · rw [e]; exact tK_kd (by omega)
  · exact exT_all bs _ _ _ j (by omega) h2
theorem tE_gt {bs : List Int} {p : Nat} (h : tK bs p ≠ 0) (hp : p ≤ bs.length) : tF bs p < tE bs p := by
  have h1 := tF_lt h
  unfold tE
  by_cases q : tK bs p = 1 ∨ tK bs p = 2
  · rw [if_pos q]
    have := (exT_le bs (tK bs p) 600 (tF bs p + 1) (by omega)).1
    omega
  · rw [if_neg q, if_neg h]; omega
theorem nV_rng {bs : List Int} {p : Nat} (h : tK bs p = 2) : 0 ≤ nV bs p ∧ nV bs p ≤ 1000000 := nvF_rng (fun j hj => kd_2 (by rw [tK_all (Or.inr h) (by omega) (by omega)]; exact h))
def kmT (k : Int) : Int := if k = 0 then 0 else if k = 1 then 1 else if k = 2 then 2 else if k = 6 then 4 else 3
abbrev FAm : FP := fun k i s => k = 26 ∧ i = 0 ∧ (s = 21 ∨ s = 22 ∨ s = 23 ∨ s = 24)
/-- the reference stands at the token behind p -/
def TM (J : Mem) (bs : List Int) (p : Nat) : Prop := J 26 0 23 = kmT (tK bs p) ∧ J 26 0 21 = ((tF bs p : Nat) : Int) ∧ J 26 0 22 = ((tE bs p : Nat) : Int) ∧ (tK bs p = 2 → J 26 0 24 = nV bs p)
section MTOK
variable {I J : Mem} {bs : List Int}
theorem m_byteAt (hB : BfM I bs) (hl : bs.length ≤ 600) {p : Nat} (hp : p ≤ 1000) : f_M_byteAt (p : Int) I = some (if p < bs.length then bs.getD p 0 else -1, I) := by
  unfold f_M_byteAt
  rw [hB.1, w32_of (x := (p : Int)) (by omega) (by omega), w32_of (x := (bs.length : Int)) (by omega) (by omega)]
  by_cases q : p < bs.length
  · rw [if_pos (by omega), if_pos (by omega), if_pos q, Int.toNat_natCast, hB.2 p q]
  · rw [if_neg (by omega), if_neg q]
theorem gd_rng {bs : List Int} (hr : ∀ b ∈ bs, 1 ≤ b ∧ b ≤ 255) {p : Nat} (h : p < bs.length) : 1 ≤ bs.getD p 0 ∧ bs.getD p 0 ≤ 255 := hr _ (gd_mem h)
theorem m_isLet (hB : BfM I bs) (hl : bs.length ≤ 600) (hr : ∀ b ∈ bs, 1 ≤ b ∧ b ≤ 255) {p : Nat} (hp : p ≤ 1000) : f_M_isLetterAt (p : Int) I = some (bI (p < bs.length ∧ kd (bs.getD p 0) = 1), I) := by
  have h2 : ∀ q : p < bs.length, 1 ≤ bs.getD p 0 ∧ bs.getD p 0 ≤ 255 := fun q => gd_rng hr q
  unfold f_M_isLetterAt
  rw [m_byteAt hB hl hp, bnd_some]
  by_cases q : p < bs.length
  · rw [if_pos q, m_in (by have := h2 q; omega) (by omega) (by omega), bnd_some, if_pos (bI_01 _), bI_congr (q := p < bs.length ∧ kd (bs.getD p 0) = 1) ⟨fun z => ⟨q, kd_is1.mpr z⟩, fun z => kd_is1.mp z.2⟩]
  · rw [if_neg q, m_in (by omega) (by omega) (by omega), bnd_some, if_pos (bI_01 _), bI_congr (q := p < bs.length ∧ kd (bs.getD p 0) = 1) ⟨fun z => by omega, fun z => absurd z.1 q⟩]
theorem m_isDig (hB : BfM I bs) (hl : bs.length ≤ 600) (hr : ∀ b ∈ bs, 1 ≤ b ∧ b ≤ 255) {p : Nat} (hp : p ≤ 1000) : f_M_isDigitAt (p : Int) I = some (bI (p < bs.length ∧ kd (bs.getD p 0) = 2), I) := by
  have h2 : ∀ q : p < bs.length, 1 ≤ bs.getD p 0 ∧ bs.getD p 0 ≤ 255 := fun q => gd_rng hr q
  unfold f_M_isDigitAt
  rw [m_byteAt hB hl hp, bnd_some]
  by_cases q : p < bs.length
  · rw [if_pos q, m_in (by have := h2 q; omega) (by omega) (by omega), bnd_some, if_pos (bI_01 _), bI_congr (q := p < bs.length ∧ kd (bs.getD p 0) = 2) ⟨fun z => ⟨q, kd_is2.mpr z⟩, fun z => kd_is2.mp z.2⟩]
  · rw [if_neg q, m_in (by omega) (by omega) (by omega), bnd_some, if_pos (bI_01 _), bI_congr (q := p < bs.length ∧ kd (bs.getD p 0) = 2) ⟨fun z => by omega, fun z => absurd z.1 q⟩]
abbrev FM22 : FP := fun k i s => k = 26 ∧ i = 0 ∧ s = 22
theorem BfM.m22 (h : BfM I bs) {s : Nat} {v : Int} (hs : s ≠ 20) : BfM (sI I 26 0 s v) bs := ⟨by rw [sI_ne (by omega)]; exact h.1, fun j hj => by rw [sI_ne (by omega)]; exact h.2 j hj⟩
theorem tm_skp (hl : bs.length ≤ 600) (hr : ∀ b ∈ bs, 1 ≤ b ∧ b ≤ 255) : ∀ (n p : Nat) (I : Mem), BfM I bs → p ≤ bs.length → bs.length - p ≤ n → I 26 0 22 = (p : Int) → Tr (whl f_M_advance_w0 () I) (fun _ J => J 26 0 22 = ((skp bs n p : Nat) : Int) ∧ Fm FM22 I J) := by
  have step : ∀ (p : Nat) (I : Mem), BfM I bs → p ≤ bs.length → I 26 0 22 = (p : Int) → f_M_advance_w0 () I = if p < bs.length ∧ (bs.getD p 0 = 32 ∨ bs.getD p 0 = 10) then some (.inl (), sI I 26 0 22 ((p : Int) + 1)) else some (.inr (), I) := by
    intro p I hB hp h22
    have key : f_M_advance_j26 I = some (.inl (), sI I 26 0 22 ((p : Int) + 1)) := by
      unfold f_M_advance_j26
      try dsimp only [ltI]
      rw [h22]
    unfold f_M_advance_w0
    rw [h22, m_byteAt hB hl (by omega), bnd_some]
    try rw [h22]
    rw [m_byteAt hB hl (by omega), bnd_some, key]
    by_cases q : p < bs.length
    · have hb := gd_rng hr q
      rw [if_pos q, w32_of (x := bs.getD p 0) (by omega) (by omega)]
      by_cases q1 : bs.getD p 0 = 32
      · rw [if_pos q1, if_pos ⟨q, Or.inl q1⟩]
      · rw [if_neg q1]
        by_cases q2 : bs.getD p 0 = 10
        · rw [if_pos q2, if_pos ⟨q, Or.inr q2⟩]
        · rw [if_neg q2, if_neg (fun z => z.2.elim q1 q2)]
    · rw [if_neg q, if_neg (by decide), if_neg (by decide), if_neg (fun z => q z.1)]
  intro n
  induction n with
  | zero =>
    intro p I hB hp hn h22
    rw [whl_eq, step p I hB hp h22, if_neg (fun z => by omega)]
    exact tr_ret ⟨h22, Fm.refl _ _⟩
  | succ n ih =>
    intro p I hB hp hn h22
    rw [whl_eq, step p I hB hp h22]
    show Tr _ (fun _ J => J 26 0 22 = (((if p < bs.length ∧ (bs.getD p 0 = 32 ∨ bs.getD p 0 = 10) then skp bs n (p + 1) else p) : Nat) : Int) ∧ Fm FM22 I J)
    by_cases q : p < bs.length ∧ (bs.getD p 0 = 32 ∨ bs.getD p 0 = 10)
    · rw [if_pos q, if_pos q]
      refine tr_mono (ih (p + 1) (sI I 26 0 22 ((p : Int) + 1)) (hB.m22 (by decide)) (by omega) (by omega) (by rw [sI_self]; rfl)) ?_
      rintro _ J ⟨e, f⟩
      exact ⟨e, (Fm.sI (by decide) (by omega) (by omega) ⟨rfl, rfl, rfl⟩).trans f⟩
    · rw [if_neg q, if_neg q]
      exact tr_ret ⟨h22, Fm.refl _ _⟩
theorem tm_let (hl : bs.length ≤ 600) (hr : ∀ b ∈ bs, 1 ≤ b ∧ b ≤ 255) : ∀ (n p : Nat) (I : Mem), BfM I bs → p ≤ bs.length → bs.length - p ≤ n → I 26 0 22 = (p : Int) → Tr (whl f_M_advance_w87 () I) (fun _ J => J 26 0 22 = ((exT bs 1 n p : Nat) : Int) ∧ Fm FM22 I J) := by
  have step : ∀ (p : Nat) (I : Mem), BfM I bs → p ≤ bs.length → I 26 0 22 = (p : Int) → f_M_advance_w87 () I = if p < bs.length ∧ kd (bs.getD p 0) = 1 then some (.inl (), sI I 26 0 22 ((p : Int) + 1)) else some (.inr (), I) := by
    intro p I hB hp h22
    unfold f_M_advance_w87
    rw [h22, m_isLet hB hl hr (by omega), bnd_some]
    try dsimp only [ltI]
    rw [h22]
    by_cases q : p < bs.length ∧ kd (bs.getD p 0) = 1
    · rw [if_neg (wb_pos q), if_pos q]
    · rw [if_pos (wb_neg q), if_neg q]
  intro n
  induction n with
  | zero =>
    intro p I hB hp hn h22
    rw [whl_eq, step p I hB hp h22, if_neg (fun z => by omega)]
    exact tr_ret ⟨h22, Fm.refl _ _⟩
  | succ n ih =>
    intro p I hB hp hn h22
    rw [whl_eq, step p I hB hp h22]
    show Tr _ (fun _ J => J 26 0 22 = (((if p < bs.length ∧ kd (bs.getD p 0) = 1 then exT bs 1 n (p + 1) else p) : Nat) : Int) ∧ Fm FM22 I J)
    by_cases q : p < bs.length ∧ kd (bs.getD p 0) = 1
    · rw [if_pos q, if_pos q]
      refine tr_mono (ih (p + 1) (sI I 26 0 22 ((p : Int) + 1)) (hB.m22 (by decide)) (by omega) (by omega) (by rw [sI_self]; rfl)) ?_
      rintro _ J ⟨e, f⟩
      exact ⟨e, (Fm.sI (by decide) (by omega) (by omega) ⟨rfl, rfl, rfl⟩).trans f⟩
    · rw [if_neg q, if_neg q]
      exact tr_ret ⟨h22, Fm.refl _ _⟩
abbrev FM24 : FP := fun k i s => k = 26 ∧ i = 0 ∧ (s = 22 ∨ s = 24)
theorem tm_dig (hl : bs.length ≤ 600) (hr : ∀ b ∈ bs, 1 ≤ b ∧ b ≤ 255) {f : Nat} : ∀ (n p : Nat) (I : Mem), BfM I bs → f ≤ p → p ≤ bs.length → bs.length - p ≤ n → I 26 0 21 = (f : Int) → I 26 0 22 = (p : Int) → I 26 0 24 = nvF bs f (p - f) → Tr (whl f_M_advance_w127 () I) (fun _ J => J 26 0 22 = ((exT bs 2 n p : Nat) : Int) ∧ J 26 0 24 = nvF bs f (exT bs 2 n p - f) ∧ Fm FM24 I J) := by
  have step : ∀ (p : Nat) (I : Mem), BfM I bs → f ≤ p → p ≤ bs.length → I 26 0 21 = (f : Int) → I 26 0 22 = (p : Int) → I 26 0 24 = nvF bs f (p - f) → f_M_advance_w127 () I = if p < bs.length ∧ kd (bs.getD p 0) = 2 then some (.inl (), sI (sI I 26 0 24 (nvF bs f (p + 1 - f))) 26 0 22 ((p : Int) + 1)) else some (.inr (), I) := by
    intro p I hB hfp hp h21 h22 h24
    unfold f_M_advance_w127
    rw [h22, m_isDig hB hl hr (by omega), bnd_some]
    by_cases q : p < bs.length ∧ kd (bs.getD p 0) = 2
    · have j178 : ∀ v : Int, f_M_advance_j178 v I = some (.inl (), sI (sI I 26 0 24 v) 26 0 22 ((p : Int) + 1)) := fun v => by
        unfold f_M_advance_j178
        try dsimp only [ltI]
        rw [sI_ne (by omega), h22]
      rw [if_neg (wb_pos q), if_pos q, h21, h22, w32_of (x := (p : Int) - (f : Int)) (by omega) (by omega), w32_of (x := (p : Int)) (by omega) (by omega)]
      by_cases q6 : p - f < 6
      · rw [if_pos (by omega), if_pos (by omega), Int.toNat_natCast, hB.2 p q.1, h24, j178]
        have e : (10 * nvF bs f (p - f) + bs.getD p 0) - 48 = nvF bs f (p + 1 - f) := by
          have e1 : p + 1 - f = (p - f) + 1 := by omega
          unfold nvF
          rw [if_pos (by omega), if_pos (by omega), e1]
          show _ = 10 * dg bs f (p - f) + bs.getD (f + (p - f)) 0 - 48
          rw [show f + (p - f) = p by omega]
        rw [e]
      · rw [if_neg (by omega), j178]
        have e : nvF bs f (p + 1 - f) = 1000000 := by
          unfold nvF
          rw [if_neg (by omega)]
        rw [e]
    · rw [if_pos (wb_neg q), if_neg q]
  intro n
  induction n with
  | zero =>
    intro p I hB hfp hp hn h21 h22 h24
    rw [whl_eq, step p I hB hfp hp h21 h22 h24, if_neg (fun z => by omega)]
    exact tr_ret ⟨h22, h24, Fm.refl _ _⟩
  | succ n ih =>
    intro p I hB hfp hp hn h21 h22 h24
    rw [whl_eq, step p I hB hfp hp h21 h22 h24]
    show Tr _ (fun _ J => J 26 0 22 = (((if p < bs.length ∧ kd (bs.getD p 0) = 2 then exT bs 2 n (p + 1) else p) : Nat) : Int) ∧ J 26 0 24 = nvF bs f ((if p < bs.length ∧ kd (bs.getD p 0) = 2 then exT bs 2 n (p + 1) else p) - f) ∧ Fm FM24 I J)
    by_cases q : p < bs.length ∧ kd (bs.getD p 0) = 2
    · rw [if_pos q, if_pos q]
      refine tr_mono (ih (p + 1) (sI (sI I 26 0 24 (nvF bs f (p + 1 - f))) 26 0 22 ((p : Int) + 1)) ((hB.m22 (by decide)).m22 (by decide)) (by omega) (by omega) (by omega) (by rw [sI_ne (by omega), sI_ne (by omega)]; exact h21) (by rw [sI_self]; rfl) (by rw [sI_ne (by omega), sI_self])) ?_
      rintro _ J ⟨e, e2, f⟩
      exact ⟨e, e2, ((Fm.sI (by decide) (by omega) (by omega) ⟨rfl, rfl, Or.inr rfl⟩).trans (Fm.sI (by decide) (by omega) (by omega) ⟨rfl, rfl, Or.inl rfl⟩)).trans f⟩
    · rw [if_neg q, if_neg q]
      exact tr_ret ⟨h22, h24, Fm.refl _ _⟩
theorem tm_adv (hB : BfM I bs) (hl : bs.length ≤ 600) (hr : ∀ b ∈ bs, 1 ≤ b ∧ b ≤ 255) {p : Nat} (hp : p ≤ bs.length) (h22 : I 26 0 22 = (p : Int)) : Tr (f_M_advance I) (fun _ K => TM K bs p ∧ Fm FAm I K) := by
  have hE := tE_le hp
  unfold f_M_advance
  refine tr_call (tm_skp hl hr 600 p I hB hp (by omega) h22) ?_
  rintro _ J0 ⟨e0, f0⟩
  try dsimp only [ltI]
  have e0 : J0 26 0 22 = ((tF bs p : Nat) : Int) := e0
  have f0' : Fm FAm I J0 := f0.mono (fun a b c z => ⟨z.1, z.2.1, Or.inr (Or.inl z.2.2)⟩)
  rw [e0]
  have f1 : Fm FAm I (sI (sI J0 26 0 21 ((tF bs p : Nat) : Int)) 26 0 24 0) := f0'.trans ((Fm.sI (by decide) (by omega) (by omega) ⟨rfl, rfl, Or.inl rfl⟩).trans (Fm.sI (by decide) (by omega) (by omega) ⟨rfl, rfl, Or.inr (Or.inr (Or.inr rfl))⟩))
  have a21 : (sI (sI J0 26 0 21 ((tF bs p : Nat) : Int)) 26 0 24 0) 26 0 21 = ((tF bs p : Nat) : Int) := by rw [sI_ne (by omega), sI_self]
  have a22 : (sI (sI J0 26 0 21 ((tF bs p : Nat) : Int)) 26 0 24 0) 26 0 22 = ((tF bs p : Nat) : Int) := by rw [sI_ne (by omega), sI_ne (by omega), e0]
  have a24 : (sI (sI J0 26 0 21 ((tF bs p : Nat) : Int)) 26 0 24 0) 26 0 24 = 0 := sI_self _ _ _ _ _
  have hB1 : BfM (sI (sI J0 26 0 21 ((tF bs p : Nat) : Int)) 26 0 24 0) bs := hB.fm f1 (by unfold FAm; omega) (fun s => by unfold FAm; omega)
  generalize sI (sI J0 26 0 21 ((tF bs p : Nat) : Int)) 26 0 24 0 = J at f1 a21 a22 a24 hB1
  rw [a21, hB1.1, w32_of (x := ((tF bs p : Nat) : Int)) (by omega) (by omega), w32_of (x := (bs.length : Int)) (by omega) (by omega)]
  by_cases q : tF bs p = bs.length
  · have ek : tK bs p = 0 := by unfold tK; rw [if_neg (by omega)]
    rw [if_pos (by omega)]
    refine tr_ret ⟨⟨by rw [sI_self, ek]; rfl, by rw [sI_ne (by omega), a21], ?_, fun z => absurd (ek.symm.trans z) (by decide)⟩, f1.trans (Fm.sI (by decide) (by omega) (by omega) ⟨rfl, rfl, Or.inr (Or.inr (Or.inl rfl))⟩)⟩
    rw [sI_ne (by omega), a22]
    unfold tE
    rw [if_neg (by omega), if_pos ek]
  · have hlt : tF bs p < bs.length := by omega
    have hb := gd_rng hr hlt
    have ek : tK bs p = kd (bs.getD (tF bs p) 0) := by unfold tK; rw [if_pos hlt]
    have hkr := kd_rng (bs.getD (tF bs p) 0)
    rw [if_neg (by omega), m_isLet hB1 hl hr (by omega), bnd_some]
    have ex : ∀ k : Int, kd (bs.getD (tF bs p) 0) = k → exT bs k 601 (tF bs p) = exT bs k 600 (tF bs p + 1) := fun k hk => by
      show (if tF bs p < bs.length ∧ kd (bs.getD (tF bs p) 0) = k then exT bs k 600 (tF bs p + 1) else tF bs p) = _
      rw [if_pos ⟨hlt, hk⟩]
    by_cases q1 : kd (bs.getD (tF bs p) 0) = 1
    · rw [if_neg (wb_pos ⟨hlt, q1⟩)]
      have k1 : tK bs p = 1 := ek.trans q1
      refine tr_call (tm_let hl hr 601 (tF bs p) _ (hB1.m22 (by decide)) (by omega) (by omega) (by rw [sI_ne (by omega)]; exact a22)) ?_
      rintro _ K ⟨b1, g1⟩
      have g1' := (Fm.sI (I := J) (F := FAm) (k := 26) (i := 0) (s := 23) (v := 1) (by decide) (by omega) (by omega) ⟨rfl, rfl, Or.inr (Or.inr (Or.inl rfl))⟩).trans (g1.mono (fun a b c z => ⟨z.1, z.2.1, Or.inr (Or.inl z.2.2)⟩))
      refine tr_ret ⟨⟨?_, ?_, ?_, fun z => absurd (k1.symm.trans z) (by decide)⟩, f1.trans g1'⟩
      · rw [g1.at (by decide) (by unfold FM22; omega), sI_self, k1]; rfl
      · rw [g1.at (by decide) (by unfold FM22; omega), sI_ne (by omega), a21]
      · rw [b1, ex 1 q1]
        unfold tE
        rw [if_pos (Or.inl k1), k1]
    · rw [if_pos (wb_neg (fun z => q1 z.2)), a21, m_isDig hB1 hl hr (by omega), bnd_some]
      by_cases q2 : kd (bs.getD (tF bs p) 0) = 2
      · rw [if_neg (wb_pos ⟨hlt, q2⟩)]
        have k2 : tK bs p = 2 := ek.trans q2
        refine tr_call (tm_dig hl hr (f := tF bs p) 601 (tF bs p) _ (hB1.m22 (by decide)) (Nat.le_refl _) (by omega) (by omega) (by rw [sI_ne (by omega)]; exact a21) (by rw [sI_ne (by omega)]; exact a22) (by rw [sI_ne (by omega), a24, Nat.sub_self]; rfl)) ?_
        rintro _ K ⟨b1, b2, g1⟩
        have g1' := (Fm.sI (I := J) (F := FAm) (k := 26) (i := 0) (s := 23) (v := 2) (by decide) (by omega) (by omega) ⟨rfl, rfl, Or.inr (Or.inr (Or.inl rfl))⟩).trans (g1.mono (fun a b c z => ⟨z.1, z.2.1, z.2.2.elim (fun y => Or.inr (Or.inl y)) (fun y => Or.inr (Or.inr (Or.inr y)))⟩))
        have eE : exT bs 2 601 (tF bs p) = tE bs p := by
          rw [ex 2 q2]
          unfold tE
          rw [if_pos (Or.inr k2), k2]
        refine tr_ret ⟨⟨?_, ?_, ?_, fun _ => ?_⟩, f1.trans g1'⟩
        · rw [g1.at (by decide) (by unfold FM24; omega), sI_self, k2]; rfl
        · rw [g1.at (by decide) (by unfold FM24; omega), sI_ne (by omega), a21]
        · rw [b1, eE]
        · rw [b2, eE]; rfl
      · rw [if_pos (wb_neg (fun z => q2 z.2)), a21, w32_of (x := ((tF bs p : Nat) : Int)) (by omega) (by omega), if_pos (by omega), Int.toNat_natCast, hB1.2 _ hlt, w32_of (x := bs.getD (tF bs p) 0) (by omega) (by omega)]
        have hE' : tE bs p = tF bs p + 1 := by
          unfold tE
          rw [if_neg (by omega), if_neg (by omega)]
        have j228 : ∀ v : Int, v = kmT (tK bs p) → Tr (f_M_advance_j228 v J) (fun _ K => TM K bs p ∧ Fm FAm I K) := fun v hv => by
          unfold f_M_advance_j228
          try dsimp only [ltI]
          rw [sI_ne (by omega), a22]
          refine tr_ret ⟨⟨by rw [sI_ne (by omega), sI_self, hv], by rw [sI_ne (by omega), sI_ne (by omega), a21], by rw [sI_self, hE']; rfl, fun z => absurd (ek.symm.trans z) q2⟩, f1.trans ((Fm.sI (by decide) (by omega) (by omega) ⟨rfl, rfl, Or.inr (Or.inr (Or.inl rfl))⟩).trans (Fm.sI (by decide) (by omega) (by omega) ⟨rfl, rfl, Or.inr (Or.inl rfl)⟩))⟩
        have n1 : ¬ (97 ≤ bs.getD (tF bs p) 0 ∧ bs.getD (tF bs p) 0 ≤ 122) := fun z => q1 (kd_is1.mpr z)
        have n2 : ¬ (48 ≤ bs.getD (tF bs p) 0 ∧ bs.getD (tF bs p) 0 ≤ 57) := fun z => q2 (kd_is2.mpr z)
        by_cases c1 : bs.getD (tF bs p) 0 = 59
        · rw [if_pos c1]
          exact j228 3 (by rw [ek, c1]; rfl)
        · rw [if_neg c1]
          by_cases c2 : bs.getD (tF bs p) 0 = 40
          · rw [if_pos c2]
            exact j228 3 (by rw [ek, c2]; rfl)
          · rw [if_neg c2]
            by_cases c3 : bs.getD (tF bs p) 0 = 41
            · rw [if_pos c3]
              exact j228 3 (by rw [ek, c3]; rfl)
            · rw [if_neg c3]
              refine j228 4 ?_
              have e6 : kd (bs.getD (tF bs p) 0) = 6 := by
                unfold kd
                rw [if_neg n1, if_neg n2, if_neg c2, if_neg c3, if_neg c1]
              rw [ek, e6]
              rfl
end MTOK
end
section
/-! ===== words, numbers, signs of both sides ===== -/
def tkL (bs : List Int) (p : Nat) : List Int := (bs.drop (tF bs p)).take (tE bs p - tF bs p)
def wfF (t : List Int) : Nat → Nat → Nat
  | 0, _ => 14
  | n + 1, k => if t = wText.getD k [] then k else wfF t n (k + 1)
/-- the word at a place: which one -/
def wd (bs : List Int) (p : Nat) : Nat := if tK bs p = 1 then wfF (tkL bs p) 15 0 else 14
/-- a number at a place: its error, 0 if it is good -/
def nbE (bs : List Int) (p : Nat) (lo hi : Int) : Int := if tK bs p ≠ 2 then 1 else if lo ≤ nV bs p ∧ nV bs p ≤ hi then 0 else 2
theorem tkL_len {bs : List Int} {p : Nat} (hp : p ≤ bs.length) : (tkL bs p).length = tE bs p - tF bs p := by
  have := tE_le hp
  unfold tkL
  rw [List.length_take, List.length_drop]
  omega
theorem tkL_at {bs : List Int} {p j : Nat} (h : j < tE bs p - tF bs p) : (tkL bs p).getD j 0 = bs.getD (tF bs p + j) 0 := by
  unfold tkL
  rw [gd_take h, gd_drop]
theorem wf_of (t : List Int) : ∀ (n k : Nat), wfF t n k = 14 ∨ (t = wText.getD (wfF t n k) [] ∧ k ≤ wfF t n k ∧ wfF t n k < k + n)
  | 0, k => Or.inl rfl
  | n + 1, k => by
    show (if t = wText.getD k [] then k else wfF t n (k + 1)) = 14 ∨ (t = wText.getD (if t = wText.getD k [] then k else wfF t n (k + 1)) [] ∧ k ≤ (if t = wText.getD k [] then k else wfF t n (k + 1)) ∧ (if t = wText.getD k [] then k else wfF t n (k + 1)) < k + (n + 1))
    by_cases q : t = wText.getD k []
    · rw [if_pos q]
      exact Or.inr ⟨q, Nat.le_refl _, by omega⟩
    · rw [if_neg q]
      rcases wf_of t n (k + 1) with h | ⟨h1, h2, h3⟩
      · exact Or.inl h
      · exact Or.inr ⟨h1, by omega, by omega⟩
theorem wf_own : ∀ i : Nat, i < 14 → wfF (wText.getD i []) 15 0 = i := by decide
theorem wd_iff {bs : List Int} {p i : Nat} (hi : i < 14) : wd bs p = i ↔ tK bs p = 1 ∧ tkL bs p = wText.getD i [] := by
  unfold wd
  by_cases q : tK bs p = 1
  · rw [if_pos q]
    constructor
    · intro h
      rcases wf_of (tkL bs p) 15 0 with z | ⟨z, -, -⟩
      · omega
      · rw [h] at z; exact ⟨q, z⟩
    · rintro ⟨-, h⟩
      rw [h]
      exact wf_own i hi
  · rw [if_neg q]
    exact ⟨fun h => by omega, fun h => absurd h.1 q⟩
theorem wd_lt (bs : List Int) (p : Nat) : wd bs p < 15 := by
  unfold wd
  split
  · rcases wf_of (tkL bs p) 15 0 with z | ⟨-, -, z⟩ <;> omega
  · omega
theorem wd_word {bs : List Int} {p i : Nat} (h : wd bs p = i) (hi : i < 14) : tK bs p = 1 := ((wd_iff hi).mp h).1
theorem wLen_rng : ∀ i : Nat, i < 15 → 0 ≤ wLen i ∧ wLen i ≤ 7 := by decide
theorem wAt_rng : ∀ i : Nat, i < 15 → ∀ k : Nat, k < 8 → 0 ≤ wAt i k ∧ wAt i k ≤ 255 := by decide
theorem ext_getD {a b : List Int} (h1 : a.length = b.length) (h2 : ∀ j : Nat, j < a.length → a.getD j 0 = b.getD j 0) : a = b := by
  refine List.ext_getElem h1 (fun j ha hb => ?_)
  have := h2 j ha
  simpa [List.getD_eq_getElem?_getD, ha, hb] using this
/-- a loop that asks whether all places hold -/
theorem whl_all {step : Int → Mem → Option ((Int ⊕ Int) × Mem)} {I : Mem} (q : Nat → Prop) [∀ k : Nat, Decidable (q k)] (n : Nat) (hs : ∀ k : Nat, k < n → step (k : Int) I = some (if q k then .inl ((k : Int) + 1) else .inr 0, I)) (he : step (n : Int) I = some (.inr 1, I)) (p : Prop) [Decidable p] (hp : p ↔ ∀ k : Nat, k < n → q k) : whl step 0 I = some (bI p, I) := by
  have key : ∀ m k : Nat, k + m = n → (∀ j : Nat, j < k → q j) → whl step (k : Int) I = some (bI p, I) := by
    intro m
    induction m with
    | zero =>
      intro k hk hj
      have hk : k = n := by omega
      subst hk
      rw [whl_eq, he, bI_pos (hp.mpr hj)]
    | succ m ih =>
      intro k hk hj
      rw [whl_eq, hs k (by omega)]
      by_cases z : q k
      · rw [if_pos z]
        refine ih (k + 1) (by omega) (fun j h => ?_)
        by_cases e : j = k
        · rw [e]; exact z
        · exact hj j (by omega)
      · rw [if_neg z, bI_neg (fun y => z (hp.mp y k (by omega)))]
  exact key n 0 (by omega) (fun j h => by omega)
section WRD
variable {I J : Mem} {bs : List Int} {p : Nat}
theorem c_byteAt (hB : BfC I bs) (hl : bs.length ≤ 600) {q : Nat} (hq : q < bs.length) : f_Src_byteAt (q : Int) I = some (bs.getD q 0, I) := by
  unfold f_Src_byteAt
  rw [w32_of (x := (q : Int)) (by omega) (by omega), if_neg (by omega), if_pos (by omega), if_pos (by omega), Int.toNat_natCast, hB.2 q hq]
theorem c_spells (hB : BfC I bs) (hl : bs.length ≤ 600) (hr : ∀ b ∈ bs, 1 ≤ b ∧ b ≤ 255) (hp : p ≤ bs.length) (ht : TC I bs p) {i : Nat} (hi : i < 15) : f_Src_spells i I = some (bI (tkL bs p = wText.getD i []), I) := by
  have hE := tE_le hp
  have hw := wLen_rng i hi
  have hn : wLen i = (((wText.getD i []).length : Nat) : Int) := rfl
  have hk := tkL_len hp
  unfold f_Src_spells
  rw [if_pos hi, ht.2.1, ht.2.2, w32_of (x := wLen i) (by omega) (by omega), w32_of (x := ((tE bs p : Nat) : Int) - ((tF bs p : Nat) : Int)) (by omega) (by omega)]
  by_cases q : wLen i = ((tE bs p : Nat) : Int) - ((tF bs p : Nat) : Int)
  · rw [if_pos q]
    refine whl_all (fun k => bs.getD (tF bs p + k) 0 = wAt i k) (wText.getD i []).length (fun k hkl => ?_) ?_ _ ?_
    · have hb := gd_rng hr (p := tF bs p + k) (by omega)
      have ha := wAt_rng i hi k (by omega)
      unfold f_Src_spells_w20
      rw [w32_of (x := (k : Int)) (by omega) (by omega), w32_of (x := wLen i) (by omega) (by omega), if_pos (by omega), ht.2.1, show ((tF bs p : Nat) : Int) + (k : Int) = ((tF bs p + k : Nat) : Int) from by omega, c_byteAt hB hl (by omega), bnd_some, if_pos (by omega), Int.toNat_natCast, w32_of (x := bs.getD (tF bs p + k) 0) (by omega) (by omega), w32_of (x := wAt i k) (by omega) (by omega)]
      by_cases z : bs.getD (tF bs p + k) 0 = wAt i k
      · rw [if_pos z, if_pos z]
      · rw [if_neg z, if_neg z]
    · unfold f_Src_spells_w20
      rw [w32_of (x := (((wText.getD i []).length : Nat) : Int)) (by omega) (by omega), w32_of (x := wLen i) (by omega) (by omega), if_neg (by omega)]
    · constructor
      · intro h k hkl
        have h2 := tkL_at (bs := bs) (p := p) (j := k) (by omega)
        rw [← h2, h]
        rfl
      · intro h
        refine ext_getD (by omega) (fun j hj => ?_)
        rw [tkL_at (by omega)]
        exact h j (by omega)
  · rw [if_neg q, bI_neg (fun z => q (by rw [hn, ← z, hk]; omega))]
theorem whl_word {step : Int → Mem → Option ((Int ⊕ Nat) × Mem)} {I : Mem} {t : List Int} (N : Nat) (hs : ∀ k : Nat, k < N → step (k : Int) I = some (if t = wText.getD k [] then .inr k else .inl ((k : Int) + 1), I)) (he : step (N : Int) I = some (.inr 14, I)) : ∀ m k : Nat, k + m = N → whl step (k : Int) I = some (wfF t m k, I) := by
  intro m
  induction m with
  | zero =>
    intro k hk
    have hk : k = N := by omega
    subst hk
    rw [whl_eq, he]
    rfl
  | succ m ih =>
    intro k hk
    rw [whl_eq, hs k (by omega)]
    show _ = some ((if t = wText.getD k [] then k else wfF t m (k + 1)), I)
    by_cases z : t = wText.getD k []
    · rw [if_pos z, if_pos z]
    · rw [if_neg z, if_neg z]
      exact ih (k + 1) (by omega)
theorem c_word (hB : BfC I bs) (hl : bs.length ≤ 600) (hr : ∀ b ∈ bs, 1 ≤ b ∧ b ≤ 255) (hp : p ≤ bs.length) (ht : TC I bs p) : f_Src_word I = some (wd bs p, I) := by
  have hkr := tK_rng bs p
  unfold f_Src_word wd
  rw [ht.1, w32_of (x := tK bs p) (by omega) (by omega)]
  by_cases q : tK bs p = 1
  · rw [if_pos q, if_pos q]
    refine whl_word (t := tkL bs p) 15 (fun k hk => ?_) ?_ 15 0 (Nat.zero_add 15)
    · unfold f_Src_word_w10
      rw [w32_of (x := (k : Int)) (by omega) (by omega), if_pos (by omega), if_pos (by omega), Int.toNat_natCast, c_spells hB hl hr hp ht (by omega), bnd_some]
      by_cases z : tkL bs p = wText.getD k []
      · rw [if_neg (wb_pos z), if_pos (by omega), if_pos z]
      · rw [if_pos (wb_neg z), if_neg z]
    · unfold f_Src_word_w10
      rw [if_neg (by decide)]
  · rw [if_neg q, if_neg q]
theorem c_is (ht : TC I bs p) {a : Int} (ha : 0 ≤ a ∧ a < 100) : f_Src_is a I = some (bI (tK bs p = a), I) := by
  have hkr := tK_rng bs p
  unfold f_Src_is
  rw [ht.1, w32_of (x := tK bs p) (by omega) (by omega), w32_of (x := a) (by omega) (by omega)]
  by_cases q : tK bs p = a
  · rw [if_pos q, bI_pos q]
  · rw [if_neg q, bI_neg q]
/-- an error of the class's source -/
abbrev FEc : FP := fun k _ s => k = 6 ∧ (s = 6 ∨ s = 7)
theorem t_failAt (a b : Int) : Tr (f_Src_failAt a b I) (fun x K => x = 0 ∧ K 6 0 6 = a ∧ Fm FEc I K) := by
  unfold f_Src_failAt
  try dsimp only [ltI]
  exact tr_ret ⟨rfl, by rw [sI_ne (by omega), sI_self], (Fm.sI (by decide) (by omega) (by omega) ⟨rfl, Or.inl rfl⟩).trans (Fm.sI (by decide) (by omega) (by omega) ⟨rfl, Or.inr rfl⟩)⟩
theorem t_fail (a : Int) : Tr (f_Src_fail a I) (fun x K => x = 0 ∧ K 6 0 6 = a ∧ Fm FEc I K) := by
  unfold f_Src_fail
  refine tr_call (t_failAt a _) ?_
  rintro x K ⟨rfl, h1, h2⟩
  rw [if_pos (Or.inl rfl)]
  exact tr_ret ⟨rfl, h1, h2⟩
/-- all of the source but how many bytes it has -/
abbrev FSx : FP := fun k _ s => k = 6 ∧ 2 ≤ s ∧ s ≤ 7
theorem fec_sx : ∀ k i s : Nat, FEc k i s → FSx k i s := fun k i s z => by unfold FEc at z; unfold FSx; omega
theorem fad_sx : ∀ k i s : Nat, FAd k i s → FSx k i s := fun k i s z => by unfold FAd at z; unfold FSx; omega
theorem BfC.sx (h : BfC I bs) (f : Fm FSx I J) : BfC J bs := h.fm f (by unfold FSx; omega) (fun s => by unfold FSx; omega)
theorem TC.ec (h : TC I bs p) (f : Fm FEc I J) : TC J bs p := ⟨by rw [f.at (by decide) (by unfold FEc; omega)]; exact h.1, by rw [f.at (by decide) (by unfold FEc; omega)]; exact h.2.1, by rw [f.at (by decide) (by unfold FEc; omega)]; exact h.2.2⟩
theorem t_advS (hB : BfC I bs) (hl : bs.length ≤ 600) (hr : ∀ b ∈ bs, 1 ≤ b ∧ b ≤ 255) (hp : p ≤ bs.length) (ht : TC I bs p) : Tr (f_Src_advance I) (fun _ K => TC K bs (tE bs p) ∧ Fm FSx I K) := by
  refine tr_mono (t_adv hB hl hr (tE_le hp).2.1 ht.2.2) ?_
  rintro _ K ⟨a, b⟩
  exact ⟨a, b.mono fad_sx⟩
theorem t_pass (hB : BfC I bs) (hl : bs.length ≤ 600) (hr : ∀ b ∈ bs, 1 ≤ b ∧ b ≤ 255) (hp : p ≤ bs.length) (ht : TC I bs p) {a : Int} (ha : 0 ≤ a ∧ a < 100) : Tr (f_Src_pass a I) (fun x K => x = bI (tK bs p = a) ∧ (tK bs p = a → TC K bs (tE bs p)) ∧ (tK bs p ≠ a → K 6 0 6 = 1) ∧ Fm FSx I K) := by
  have hkr := tK_rng bs p
  unfold f_Src_pass
  rw [ht.1, w32_of (x := tK bs p) (by omega) (by omega), w32_of (x := a) (by omega) (by omega)]
  by_cases q : tK bs p = a
  · rw [if_pos q]
    refine tr_call (t_advS hB hl hr hp ht) ?_
    rintro _ K ⟨h1, h2⟩
    exact tr_ret ⟨(bI_pos q).symm, fun _ => h1, fun z => absurd q z, h2⟩
  · rw [if_neg q]
    refine tr_call (t_fail 1) ?_
    rintro x K ⟨rfl, h1, h2⟩
    rw [if_pos (Or.inl rfl)]
    exact tr_ret ⟨(bI_neg q).symm, fun z => absurd z q, fun _ => h1, h2.mono fec_sx⟩
theorem t_readNumber (hB : BfC I bs) (hl : bs.length ≤ 600) (hr : ∀ b ∈ bs, 1 ≤ b ∧ b ≤ 255) (hp : p ≤ bs.length) (ht : TC I bs p) {lo hi : Int} (h0 : 0 ≤ lo ∧ lo ≤ 1000) (h1 : 0 ≤ hi ∧ hi ≤ 1000) : Tr (f_Src_readNumber lo hi I) (fun x K => x = bI (nbE bs p lo hi = 0) ∧ (nbE bs p lo hi = 0 → K 6 0 5 = nV bs p) ∧ (nbE bs p lo hi ≠ 0 → K 6 0 6 = nbE bs p lo hi) ∧ TC K bs p ∧ Fm FSx I K) := by
  have hkr := tK_rng bs p
  have hE := tE_le hp
  unfold f_Src_readNumber
  rw [ht.1, w32_of (x := tK bs p) (by omega) (by omega)]
  by_cases q : tK bs p = 2
  · have hnr := nV_rng q
    rw [if_pos q, ht.2.1, ht.2.2, w32_of (x := ((tE bs p : Nat) : Int) - ((tF bs p : Nat) : Int)) (by omega) (by omega)]
    by_cases q6 : tE bs p - tF bs p ≤ 6
    · rw [if_neg (by omega)]
      try dsimp only [ltI]
      -- the loop over the digits
      have lp : ∀ J : Mem, BfC J bs → TC J bs p → J 6 0 5 = 0 → Tr (whl (f_Src_readNumber_w44 lo hi) (J 6 0 3) J) (fun _ K => K 6 0 5 = dg bs (tF bs p) (tE bs p - tF bs p) ∧ Fm (fun k _ s => k = 6 ∧ s = 5) J K) := by
        intro J hBJ tJ e5
        rw [tJ.2.1]
        refine tr_cnt (fun k => (((tF bs p + k : Nat)) : Int)) (fun k K => K 6 0 5 = dg bs (tF bs p) k ∧ Fm (fun k _ s => k = 6 ∧ s = 5) J K) (tE bs p - tF bs p) rfl ⟨e5, Fm.refl _ _⟩ ?_ ?_
        · rintro k K hk ⟨e, f⟩
          have hBK : BfC K bs := hBJ.fm f (by omega) (fun s => by omega)
          have e4 : K 6 0 4 = ((tE bs p : Nat) : Int) := by rw [f.at (by decide) (by omega)]; exact tJ.2.2
          unfold f_Src_readNumber_w44
          rw [e4, w32_of (x := ((tF bs p + k : Nat) : Int)) (by omega) (by omega), w32_of (x := ((tE bs p : Nat) : Int)) (by omega) (by omega), if_pos (by omega), c_byteAt hBK hl (by omega), bnd_some]
          try dsimp only [ltI]
          refine tr_ret ⟨rfl, ?_, f.trans (Fm.sI (by decide) (by omega) (by omega) ⟨rfl, rfl⟩)⟩
          rw [sI_self, e]
          show dg bs (tF bs p) k * 10 + bs.getD (tF bs p + k) 0 - 48 = 10 * dg bs (tF bs p) k + bs.getD (tF bs p + k) 0 - 48
          omega
        · rintro K ⟨e, f⟩
          have e4 : K 6 0 4 = ((tE bs p : Nat) : Int) := by rw [f.at (by decide) (by omega)]; exact tJ.2.2
          unfold f_Src_readNumber_w44
          rw [e4, w32_of (x := ((tF bs p + (tE bs p - tF bs p) : Nat) : Int)) (by omega) (by omega), w32_of (x := ((tE bs p : Nat) : Int)) (by omega) (by omega), if_neg (by omega)]
          exact tr_ret ⟨e, f⟩
      have f5 : Fm FSx I (sI I 6 0 5 0) := Fm.sI (by decide) (by omega) (by omega) ⟨rfl, by omega, by omega⟩
      have t5 : TC (sI I 6 0 5 0) bs p := ⟨by rw [sI_ne (by omega)]; exact ht.1, by rw [sI_ne (by omega)]; exact ht.2.1, by rw [sI_ne (by omega)]; exact ht.2.2⟩
      refine tr_call (lp _ (hB.sx f5) t5 (sI_self _ _ _ _ _)) ?_
      rintro _ K ⟨e, f⟩
      have f' : Fm FSx I K := f5.trans (f.mono (fun a b c z => ⟨z.1, by omega, by omega⟩))
      have tK' : TC K bs p := ⟨by rw [f.at (by decide) (by omega)]; exact t5.1, by rw [f.at (by decide) (by omega)]; exact t5.2.1, by rw [f.at (by decide) (by omega)]; exact t5.2.2⟩
      have en : K 6 0 5 = nV bs p := by
        rw [e]
        unfold nV nvF
        rw [if_pos q6]
      have j94 : nbE bs p lo hi = 2 → Tr (f_Src_readNumber_j94 K) (fun x K => x = bI (nbE bs p lo hi = 0) ∧ (nbE bs p lo hi = 0 → K 6 0 5 = nV bs p) ∧ (nbE bs p lo hi ≠ 0 → K 6 0 6 = nbE bs p lo hi) ∧ TC K bs p ∧ Fm FSx I K) := fun h2 => by
        unfold f_Src_readNumber_j94
        refine tr_call (t_fail 2) ?_
        rintro x L ⟨rfl, g1, g2⟩
        rw [if_pos (by decide)]
        exact tr_ret ⟨by rw [h2]; rfl, fun z => absurd (h2.symm.trans z) (by decide), fun _ => by rw [g1, h2], tK'.ec g2, f'.trans (g2.mono fec_sx)⟩
      rw [en, w32_of (x := nV bs p) (by omega) (by omega), w32_of (x := lo) (by omega) (by omega), w32_of (x := hi) (by omega) (by omega)]
      by_cases c1 : nV bs p < lo
      · rw [if_pos c1]
        refine j94 ?_
        unfold nbE
        rw [if_neg (by omega), if_neg (by omega)]
      · rw [if_neg c1]
        by_cases c2 : hi < nV bs p
        · rw [if_pos c2]
          refine j94 ?_
          unfold nbE
          rw [if_neg (by omega), if_neg (by omega)]
        · rw [if_neg c2]
          have h0 : nbE bs p lo hi = 0 := by
            unfold nbE
            rw [if_neg (by omega), if_pos (by omega)]
          exact tr_ret ⟨by rw [h0]; rfl, fun _ => en, fun z => absurd h0 z, tK', f'⟩
    · rw [if_pos (by omega)]
      have hv : nV bs p = 1000000 := by
        unfold nV nvF
        rw [if_neg q6]
      have h2 : nbE bs p lo hi = 2 := by
        unfold nbE
        rw [if_neg (by omega), if_neg (by omega)]
      refine tr_call (t_fail 2) ?_
      rintro x L ⟨rfl, g1, g2⟩
      rw [if_pos (Or.inl rfl)]
      exact tr_ret ⟨by rw [h2]; rfl, fun z => absurd (h2.symm.trans z) (by decide), fun _ => by rw [g1, h2], ht.ec g2, g2.mono fec_sx⟩
  · rw [if_neg q]
    have h2 : nbE bs p lo hi = 1 := by
      unfold nbE
      rw [if_pos q]
    refine tr_call (t_fail 1) ?_
    rintro x L ⟨rfl, g1, g2⟩
    rw [if_pos (Or.inl rfl)]
    exact tr_ret ⟨by rw [h2]; rfl, fun z => absurd (h2.symm.trans z) (by decide), fun _ => by rw [g1, h2], ht.ec g2, g2.mono fec_sx⟩
-- the reference
theorem mf_0 {a c : Int} (he : I 26 0 25 = 0) (ha : w32 a = 0) : f_M_faulty a c I = some (0, I) := by
  unfold f_M_faulty f_M_faulty_j24
  rw [he, if_pos (by decide), if_pos ha, if_pos (by decide)]
theorem mf_E {a c : Int} (he : w32 (I 26 0 25) ≠ 0) : f_M_faulty a c I = some (1, I) := by
  unfold f_M_faulty f_M_faulty_j24
  rw [if_neg he, if_neg he]
abbrev FEm : FP := fun k i s => k = 26 ∧ i = 0 ∧ (s = 25 ∨ s = 26)
theorem mf_1 {a c : Int} (he : I 26 0 25 = 0) (ha : ¬ w32 a = 0) (hc : w32 c ≠ 0) : Tr (f_M_faulty a c I) (fun x K => x = 1 ∧ K 26 0 25 = c ∧ Fm FEm I K) := by
  unfold f_M_faulty
  rw [he, if_pos (by decide), if_neg ha]
  try dsimp only [ltI]
  unfold f_M_faulty_j24
  have e : (sI (sI I 26 0 25 c) 26 0 26 ((sI I 26 0 25 c) 26 0 21)) 26 0 25 = c := by rw [sI_ne (by omega), sI_self]
  rw [e, if_neg hc]
  exact tr_ret ⟨rfl, e, (Fm.sI (by decide) (by omega) (by omega) ⟨rfl, rfl, Or.inl rfl⟩).trans (Fm.sI (by decide) (by omega) (by omega) ⟨rfl, rfl, Or.inr rfl⟩)⟩
theorem m_isKey (hB : BfM I bs) (hl : bs.length ≤ 600) (hr : ∀ b ∈ bs, 1 ≤ b ∧ b ≤ 255) (hp : p ≤ bs.length) (ht : TM I bs p) (he : I 26 0 25 = 0) {i : Nat} (hi : i < 14) : f_M_isKey i I = some (bI (wd bs p = i), I) := by
  have hE := tE_le hp
  have hkr := tK_rng bs p
  have hw := wLen_rng i (by omega)
  have hn : wLen i = (((wText.getD i []).length : Nat) : Int) := rfl
  have hk := tkL_len hp
  have km : w32 (kmT (tK bs p)) = 1 ↔ tK bs p = 1 := by
    rcases (show tK bs p = 0 ∨ tK bs p = 1 ∨ tK bs p = 2 ∨ tK bs p = 3 ∨ tK bs p = 4 ∨ tK bs p = 5 ∨ tK bs p = 6 by omega) with z | z | z | z | z | z | z <;> rw [z] <;> decide
  unfold f_M_isKey
  rw [if_pos (by omega), he, if_pos (by decide), ht.1, ht.2.1, ht.2.2.1, w32_of (x := wLen i) (by omega) (by omega), w32_of (x := ((tE bs p : Nat) : Int) - ((tF bs p : Nat) : Int)) (by omega) (by omega)]
  by_cases q1 : tK bs p = 1
  · rw [if_pos (km.mpr q1)]
    by_cases q : ((tE bs p : Nat) : Int) - ((tF bs p : Nat) : Int) = wLen i
    · rw [if_pos q]
      refine whl_all (fun k => bs.getD (tF bs p + k) 0 = wAt i k) (wText.getD i []).length (fun k hkl => ?_) ?_ _ ?_
      · have hb := gd_rng hr (p := tF bs p + k) (by omega)
        have ha := wAt_rng i (by omega) k (by omega)
        unfold f_M_isKey_w30
        rw [ht.2.1, ht.2.2.1, w32_of (x := (k : Int)) (by omega) (by omega), w32_of (x := ((tE bs p : Nat) : Int) - ((tF bs p : Nat) : Int)) (by omega) (by omega), if_pos (by omega), show ((tF bs p : Nat) : Int) + (k : Int) = ((tF bs p + k : Nat) : Int) from by omega, w32_of (x := ((tF bs p + k : Nat) : Int)) (by omega) (by omega), if_pos (by omega), if_pos (by omega), Int.toNat_natCast, Int.toNat_natCast, hB.2 _ (by omega), w32_of (x := bs.getD (tF bs p + k) 0) (by omega) (by omega), w32_of (x := wAt i k) (by omega) (by omega)]
        by_cases z : bs.getD (tF bs p + k) 0 = wAt i k
        · rw [if_pos z, if_pos z]
        · rw [if_neg z, if_neg z]
      · unfold f_M_isKey_w30
        rw [ht.2.1, ht.2.2.1, w32_of (x := (((wText.getD i []).length : Nat) : Int)) (by omega) (by omega), w32_of (x := ((tE bs p : Nat) : Int) - ((tF bs p : Nat) : Int)) (by omega) (by omega), if_neg (by omega)]
      · rw [wd_iff hi]
        constructor
        · intro h k hkl
          have h2 := tkL_at (bs := bs) (p := p) (j := k) (by omega)
          rw [← h2, h.2]
          rfl
        · intro h
          refine ⟨q1, ext_getD (by omega) (fun j hj => ?_)⟩
          rw [tkL_at (by omega)]
          exact h j (by omega)
    · rw [if_neg q, bI_neg (fun z => q (by rw [hn, ← ((wd_iff hi).mp z).2, hk]; omega))]
  · rw [if_neg (fun z => q1 (km.mp z)), bI_neg (fun z => q1 (wd_word z hi))]
theorem m_isKeyE (he : w32 (I 26 0 25) ≠ 0) {i : Nat} (hi : i < 15) : f_M_isKey i I = some (0, I) := by
  unfold f_M_isKey
  rw [if_pos hi, if_neg he]
theorem m_isSign (hB : BfM I bs) (hl : bs.length ≤ 600) (hr : ∀ b ∈ bs, 1 ≤ b ∧ b ≤ 255) (hp : p ≤ bs.length) (ht : TM I bs p) (he : I 26 0 25 = 0) {c k : Int} (hc : (c = 59 ∧ k = 3) ∨ (c = 40 ∧ k = 4) ∨ (c = 41 ∧ k = 5)) : f_M_isSign c I = some (bI (tK bs p = k), I) := by
  have hE := tE_le hp
  have hkr := tK_rng bs p
  have km : w32 (kmT (tK bs p)) = 3 ↔ tK bs p = 3 ∨ tK bs p = 4 ∨ tK bs p = 5 := by
    rcases (show tK bs p = 0 ∨ tK bs p = 1 ∨ tK bs p = 2 ∨ tK bs p = 3 ∨ tK bs p = 4 ∨ tK bs p = 5 ∨ tK bs p = 6 by omega) with z | z | z | z | z | z | z <;> rw [z] <;> decide
  have wc : w32 c = c := w32_of (by omega) (by omega)
  unfold f_M_isSign
  rw [he, if_pos (by decide), ht.1, wc]
  by_cases q : tK bs p = 3 ∨ tK bs p = 4 ∨ tK bs p = 5
  · have h0 : tK bs p ≠ 0 := by omega
    have hlt := tF_lt h0
    have hb := gd_rng hr hlt
    have ek := tK_kd h0
    rw [if_pos (km.mpr q), ht.2.1, w32_of (x := ((tF bs p : Nat) : Int)) (by omega) (by omega), if_pos (by omega), Int.toNat_natCast, hB.2 _ hlt, w32_of (x := bs.getD (tF bs p) 0) (by omega) (by omega)]
    have hiff : bs.getD (tF bs p) 0 = c ↔ tK bs p = k := by
      rw [← ek]
      constructor
      · intro z
        rw [z]
        rcases hc with ⟨rfl, rfl⟩ | ⟨rfl, rfl⟩ | ⟨rfl, rfl⟩ <;> rfl
      · intro z
        have z2 : kd (bs.getD (tF bs p) 0) = k := z
        unfold kd at z2
        split at z2 <;> first | omega | (split at z2 <;> first | omega | (split at z2 <;> first | omega | (split at z2 <;> first | omega | (split at z2 <;> omega))))
    by_cases z : bs.getD (tF bs p) 0 = c
    · rw [if_pos z, bI_pos (hiff.mp z)]
    · rw [if_neg z, bI_neg (fun y => z (hiff.mpr y))]
  · rw [if_neg (fun z => q (km.mp z)), bI_neg (by omega)]
theorem m_isSignE (he : w32 (I 26 0 25) ≠ 0) (c : Int) : f_M_isSign c I = some (0, I) := by
  unfold f_M_isSign
  rw [if_neg he]
abbrev FMx : FP := fun k i s => k = 26 ∧ i = 0 ∧ 21 ≤ s ∧ s ≤ 26
theorem fem_mx : ∀ k i s : Nat, FEm k i s → FMx k i s := fun k i s z => by unfold FEm at z; unfold FMx; omega
theorem fam_mx : ∀ k i s : Nat, FAm k i s → FMx k i s := fun k i s z => by unfold FAm at z; unfold FMx; omega
theorem BfM.mx (h : BfM I bs) (f : Fm FMx I J) : BfM J bs := h.fm f (by unfold FMx; omega) (fun s => by unfold FMx; omega)
theorem tm_advS (hB : BfM I bs) (hl : bs.length ≤ 600) (hr : ∀ b ∈ bs, 1 ≤ b ∧ b ≤ 255) (hp : p ≤ bs.length) (ht : TM I bs p) : Tr (f_M_advance I) (fun _ K => TM K bs (tE bs p) ∧ K 26 0 25 = I 26 0 25 ∧ Fm FMx I K) := by
  refine tr_mono (tm_adv hB hl hr (tE_le hp).2.1 ht.2.2.1) ?_
  rintro _ K ⟨a, b⟩
  exact ⟨a, b.at (by decide) (by unfold FAm; omega), b.mono fam_mx⟩
theorem t_takesSign (hB : BfM I bs) (hl : bs.length ≤ 600) (hr : ∀ b ∈ bs, 1 ≤ b ∧ b ≤ 255) (hp : p ≤ bs.length) (ht : TM I bs p) (he : I 26 0 25 = 0) {c k : Int} (hc : (c = 59 ∧ k = 3) ∨ (c = 40 ∧ k = 4) ∨ (c = 41 ∧ k = 5)) : Tr (f_M_takesSign c I) (fun _ K => (tK bs p = k → TM K bs (tE bs p) ∧ K 26 0 25 = 0) ∧ (tK bs p ≠ k → K 26 0 25 = 1) ∧ Fm FMx I K) := by
  unfold f_M_takesSign
  rw [m_isSign hB hl hr hp ht he hc, bnd_some]
  by_cases q : tK bs p = k
  · rw [if_neg (wb_pos q), mf_0 he (by decide), bnd_some, if_pos (by decide)]
    refine tr_call (tm_advS hB hl hr hp ht) ?_
    rintro _ K ⟨a, b, f⟩
    exact tr_ret ⟨fun _ => ⟨a, b.trans he⟩, fun z => absurd q z, f⟩
  · rw [if_pos (wb_neg q)]
    refine tr_call (mf_1 he (by decide) (by decide)) ?_
    rintro x K ⟨rfl, b, f⟩
    rw [if_neg (by decide)]
    exact tr_ret ⟨fun z => absurd z q, fun _ => b, f.mono fem_mx⟩
theorem t_mnumber (hB : BfM I bs) (hl : bs.length ≤ 600) (hr : ∀ b ∈ bs, 1 ≤ b ∧ b ≤ 255) (hp : p ≤ bs.length) (ht : TM I bs p) (he : I 26 0 25 = 0) {lo hi : Int} (h0 : 0 ≤ lo ∧ lo ≤ 1000) (h1 : 0 ≤ hi ∧ hi ≤ 1000) : Tr (f_M_number lo hi I) (fun x K => (nbE bs p lo hi = 0 → x = nV bs p ∧ TM K bs (tE bs p) ∧ K 26 0 25 = 0) ∧ (nbE bs p lo hi ≠ 0 → K 26 0 25 = nbE bs p lo hi) ∧ Fm FMx I K) := by
  have hkr := tK_rng bs p
  have km : w32 (kmT (tK bs p)) = 2 ↔ tK bs p = 2 := by
    rcases (show tK bs p = 0 ∨ tK bs p = 1 ∨ tK bs p = 2 ∨ tK bs p = 3 ∨ tK bs p = 4 ∨ tK bs p = 5 ∨ tK bs p = 6 by omega) with z | z | z | z | z | z | z <;> rw [z] <;> decide
  unfold f_M_number
  rw [ht.1]
  by_cases q : tK bs p = 2
  · have hnr := nV_rng q
    rw [if_pos (km.mpr q), mf_0 he (by decide), bnd_some, if_pos (by decide), ht.2.2.2 q, m_in (by omega) (by omega) (by omega), bnd_some]
    by_cases c : lo ≤ nV bs p ∧ nV bs p ≤ hi
    · have e0 : nbE bs p lo hi = 0 := by
        unfold nbE
        rw [if_neg (by omega), if_pos c]
      rw [if_neg (wb_pos c), mf_0 he (by decide), bnd_some, if_pos (by decide)]
      refine tr_call (tm_advS hB hl hr hp ht) ?_
      rintro _ K ⟨a, b, f⟩
      exact tr_ret ⟨fun _ => ⟨ht.2.2.2 q, a, b.trans he⟩, fun z => absurd e0 z, f⟩
    · have e0 : nbE bs p lo hi = 2 := by
        unfold nbE
        rw [if_neg (by omega), if_neg c]
      rw [if_pos (wb_neg c)]
      refine tr_call (mf_1 he (by decide) (by decide)) ?_
      rintro x K ⟨rfl, b, f⟩
      rw [if_neg (by decide)]
      exact tr_ret ⟨fun z => absurd (e0.symm.trans z) (by decide), fun _ => by rw [b, e0], f.mono fem_mx⟩
  · have e0 : nbE bs p lo hi = 1 := by
      unfold nbE
      rw [if_pos q]
    rw [if_neg (fun z => q (km.mp z))]
    refine tr_call (mf_1 he (by decide) (by decide)) ?_
    rintro x K ⟨rfl, b, f⟩
    rw [if_neg (by decide)]
    exact tr_ret ⟨fun z => absurd (e0.symm.trans z) (by decide), fun _ => by rw [b, e0], f.mono fem_mx⟩
end WRD
end
section
/-! ===== a grammar whose text is not told yet ===== -/
def PWF (g : GS) : Prop :=
  (∀ i : Nat, i < 41 → ∀ x ∈ gR g i, SYr (gR g) x) ∧
  (∀ r : Nat, r < 40 → gR g (r + 1) ≠ [] → 2 ≤ (gR g (r + 1)).length ∧ gL g r = ll (gL g) (gR g (r + 1)) ∧ gL g r ≤ 400 ∧ 1 ≤ gL g r) ∧ ll (gL g) (gR g 0) ≤ 400
theorem PWF.sy {g : GS} (h : PWF g) {i : Nat} (hi : i < 41) : SY (gR g i) := fun x hx => ⟨(h.1 i hi x hx).1, (h.1 i hi x hx).2.1⟩
theorem PWF.sl1 {g : GS} (h : PWF g) {x : Int} (hx : SYr (gR g) x) : 1 ≤ sl (gL g) x ∧ sl (gL g) x ≤ 400 := by
  obtain ⟨h0, h66, hr⟩ := hx
  unfold sl
  by_cases q : x < 26
  · rw [if_pos q]; omega
  · rw [if_neg q]
    obtain ⟨-, -, h3, h4⟩ := h.2.1 (x - 26).toNat (by omega) (hr (by omega))
    exact ⟨h4, h3⟩
theorem PWF.sl1' {g : GS} (h : PWF g) {i : Nat} (hi : i < 41) {x : Int} (hx : x ∈ gR g i) : 1 ≤ sl (gL g) x ∧ sl (gL g) x ≤ 400 := h.sl1 (h.1 i hi x hx)
theorem PWF.lle {g : GS} (h : PWF g) {i : Nat} (hi : i < 41) : ((gR g i).length : Int) ≤ ll (gL g) (gR g i) ∧ ll (gL g) (gR g i) ≤ 400 := by
  refine ⟨ll_ge (fun x hx => (h.sl1' hi hx).1), ?_⟩
  cases i with
  | zero => exact h.2.2
  | succ r =>
    by_cases q : gR g (r + 1) = []
    · rw [q, ll_nil]; omega
    · obtain ⟨-, h2, h3, -⟩ := h.2.1 r (by omega) q
      omega
theorem PWF.len400 {g : GS} (w : PWF g) : ∀ i : Nat, i < 41 → (gR g i).length ≤ 400 := fun i hi => by
  have := w.lle hi
  omega
section WPs1
theorem cut_bodyP {g : GS} (w : PWF g) {x : Int} (hx : SYr (gR g) x) (h : 1 < sl (gL g) x) : 26 ≤ x ∧ x < 66 ∧ gR g ((x - 26).toNat + 1) ≠ [] ∧ ll (gL g) (gR g ((x - 26).toNat + 1)) = sl (gL g) x ∧ (∀ y ∈ gR g ((x - 26).toNat + 1), SYr (gR g) y) ∧ 2 ≤ (gR g ((x - 26).toNat + 1)).length ∧ ∀ y ∈ gR g ((x - 26).toNat + 1), sl (gL g) y < sl (gL g) x := by
  obtain ⟨h0, h66, hr⟩ := hx
  have h26 : 26 ≤ x := by
    apply Classical.byContradiction
    intro q
    unfold sl at h
    rw [if_pos (by omega)] at h
    omega
  obtain ⟨b1, b2, -, -⟩ := w.2.1 (x - 26).toNat (by omega) (hr h26)
  have e : sl (gL g) x = gL g (x - 26).toNat := by unfold sl; rw [if_neg (by omega)]
  refine ⟨h26, h66, hr h26, by rw [e, b2], w.1 _ (by omega), b1, fun y hy => ?_⟩
  rw [e, b2]
  obtain ⟨l1, l2, e2⟩ := List.append_of_mem hy
  have hge : ∀ z ∈ gR g ((x - 26).toNat + 1), 1 ≤ sl (gL g) z := fun z hz => (w.sl1' (by omega) hz).1
  rw [e2] at b1 hge ⊢
  rw [ll_app, ll_cons]
  have g1 := ll_ge (L := gL g) (l := l1) (fun z hz => hge z (by simp [hz]))
  have g2 := ll_ge (L := gL g) (l := l2) (fun z hz => hge z (by simp [hz]))
  simp at b1
  omega
end WPs1
section WPs2
theorem rule_bodyP {g : GS} (w : PWF g) {x : Int} (hx : SYr (gR g) x) (h26 : 26 ≤ x) : (x - 26).toNat < 40 ∧ sl (gL g) x = gL g (x - 26).toNat ∧ gR g ((x - 26).toNat + 1) ≠ [] ∧ ll (gL g) (gR g ((x - 26).toNat + 1)) = sl (gL g) x ∧ 2 ≤ (gR g ((x - 26).toNat + 1)).length ∧ (∀ y ∈ gR g ((x - 26).toNat + 1), SYr (gR g) y ∧ sl (gL g) y < sl (gL g) x) := by
  have h66 := hx.2.1
  obtain ⟨b1, b2, -, b4⟩ := w.2.1 (x - 26).toNat (by omega) (hx.2.2 h26)
  have e : sl (gL g) x = gL g (x - 26).toNat := by unfold sl; rw [if_neg (by omega)]
  have hge := ll_ge (L := gL g) (l := gR g ((x - 26).toNat + 1)) (fun z hz => (w.sl1' (by omega) hz).1)
  obtain ⟨c1, c2, c3, c4, c5, c6, c7⟩ := cut_bodyP w hx (by omega)
  exact ⟨by omega, e, c3, c4, c6, fun y hy => ⟨c5 y hy, c7 y hy⟩⟩
end WPs2
section WPs3
theorem exF_farP {g : GS} (w : PWF g) : ∀ (n m : Nat) (x : Int), SYr (gR g) x → sl (gL g) x ≤ n → sl (gL g) x ≤ m → exF (gR g) n x = exF (gR g) m x
  | 0, m, x, hx, h, _ => by have := (w.sl1 hx).1; omega
  | n + 1, 0, x, hx, _, h => by have := (w.sl1 hx).1; omega
  | n + 1, m + 1, x, hx, h1, h2 => by
    rw [exF, exF]
    by_cases q : x < 26
    · rw [if_pos q, if_pos q]
    · rw [if_neg q, if_neg q]
      obtain ⟨-, -, -, -, -, h6⟩ := rule_bodyP w hx (by omega)
      exact flatMap_cong (fun y hy => exF_farP w n m y (h6 y hy).1 (by have := (h6 y hy).2; omega) (by have := (h6 y hy).2; omega))
end WPs3
section WPs4
theorem ex_ruleP {g : GS} (w : PWF g) {x : Int} (hx : SYr (gR g) x) (h : 26 ≤ x) : ex g x = exL g (gR g ((x - 26).toNat + 1)) := by
  have h1 := (w.sl1 hx).1
  obtain ⟨-, -, -, -, -, h6⟩ := rule_bodyP w hx h
  unfold ex exL
  obtain ⟨n, hn⟩ : ∃ n : Nat, (sl (gL g) x).toNat = n + 1 := ⟨(sl (gL g) x).toNat - 1, by omega⟩
  rw [hn, exF, if_neg (by omega)]
  refine flatMap_cong (fun y hy => ?_)
  have h3 := (h6 y hy).2
  have h4 := (w.sl1 (h6 y hy).1).1
  exact exF_farP w n _ y (h6 y hy).1 (by omega) (by omega)
end WPs4
section WPs5
theorem ex_lenP {g : GS} (w : PWF g) : ∀ (n : Nat) (x : Int), SYr (gR g) x → sl (gL g) x ≤ n → ((ex g x).length : Int) = sl (gL g) x ∧ ∀ y ∈ ex g x, 0 ≤ y ∧ y < 26
  | 0, x, hx, h => by have := (w.sl1 hx).1; omega
  | n + 1, x, hx, h => by
    by_cases q : x < 26
    · rw [ex_letter g q, sl_26 q]
      exact ⟨rfl, fun y hy => by rw [List.mem_singleton.mp hy]; exact ⟨hx.1, q⟩⟩
    · obtain ⟨-, -, -, h4, -, h6⟩ := rule_bodyP w hx (by omega)
      rw [ex_ruleP w hx (by omega)]
      refine ⟨by rw [exL_len' (fun y hy => (ex_lenP w n y (h6 y hy).1 (by have := (h6 y hy).2; omega)).1), h4], fun y hy => ?_⟩
      unfold exL at hy
      obtain ⟨z, hz, hyz⟩ := List.mem_flatMap.mp hy
      exact (ex_lenP w n z (h6 z hz).1 (by have := (h6 z hz).2; omega)).2 y hyz
end WPs5
section WPs6
theorem exL_lenP {g : GS} (w : PWF g) {l : List Int} (h : ∀ x ∈ l, SYr (gR g) x) : ((exL g l).length : Int) = ll (gL g) l :=
  exL_len' (fun x hx => (ex_lenP w (sl (gL g) x).toNat x (h x hx) (by have := (w.sl1 (h x hx)).1; omega)).1)
end WPs6
section WPs7
theorem exL_letP {g : GS} (w : PWF g) {l : List Int} (h : ∀ x ∈ l, SYr (gR g) x) : ∀ y ∈ exL g l, 0 ≤ y ∧ y < 26 := fun y hy => by
  obtain ⟨z, hz, hyz⟩ := List.mem_flatMap.mp hy
  exact (ex_lenP w (sl (gL g) z).toNat z (h z hz) (by have := (w.sl1 (h z hz)).1; omega)).2 y hyz
end WPs7
theorem gTx_lenP {g : GS} (w : PWF g) : (gTx g).length = (ll (gL g) (gR g 0)).toNat := by
  have h1 := exL_lenP w (w.1 0 (by omega))
  unfold gTx
  omega
section WPs8
theorem CHN.pushP {g : GS} (w : PWF g) {i pl : Nat} {st : List (Nat × Nat)} (h : CHN g ((i, pl) :: st)) (hpl : pl < (gR g i).length) {x : Int} (hx : x = (gR g i).getD pl (-1)) (h26 : 26 ≤ x) : CHN g (((x - 26).toNat + 1, 0) :: (i, pl + 1) :: st) := by
  obtain ⟨h1, h2, h3, h4, h5, h6⟩ := h
  have hxs : SYr (gR g) x := w.1 i h1 x (by rw [hx]; exact getD_mem hpl)
  obtain ⟨b1, b2, b3, -, -, -⟩ := rule_bodyP w hxs h26
  refine And.intro (by omega) (And.intro (Nat.zero_le _) (And.intro (fun z => by cases z) (And.intro (fun _ => ⟨by omega, b3⟩) (And.intro (fun q hq hq0 => ?_) ⟨h1, hpl, h3, h4, h5, h6⟩))))
  have key : i ≠ 0 → gL g ((x - 26).toNat) < gL g (i - 1) := fun hi => by
    have hne : gR g (i - 1 + 1) ≠ [] := by
      rw [show i - 1 + 1 = i by omega]
      intro e
      rw [e] at hpl
      simp at hpl
    have hb := w.2.1 (i - 1) (by omega) hne
    rw [show i - 1 + 1 = i by omega] at hb
    rw [← b2, hb.2.1]
    have hm : x ∈ gR g i := by rw [hx]; exact getD_mem hpl
    obtain ⟨l1, l2, e2⟩ := List.append_of_mem hm
    have hge : ∀ z ∈ gR g i, 1 ≤ sl (gL g) z := fun z hz => (w.sl1' h1 hz).1
    have hb1 := hb.1
    rw [e2] at hb1 hge ⊢
    rw [ll_app, ll_cons]
    have g1 := ll_ge (L := gL g) (l := l1) (fun z hz => hge z (by simp [hz]))
    have g2 := ll_ge (L := gL g) (l := l2) (fun z hz => hge z (by simp [hz]))
    simp at hb1
    omega
  rcases List.mem_cons.mp hq with z | z
  · rw [z] at hq0 ⊢
    exact key hq0
  · have hst : st ≠ [] := fun e => by rw [e] at z; exact absurd z List.not_mem_nil
    have hi : i ≠ 0 := by have := (h4 hst).1; omega
    have a1 := key hi
    have a2 := h5 q z hq0
    show gL g ((x - 26).toNat + 1 - 1) < _
    rw [show (x - 26).toNat + 1 - 1 = (x - 26).toNat by omega]
    omega
end WPs8
section WPs9
theorem mcS_nnP {g : GS} (w : PWF g) : ∀ {st : List (Nat × Nat)}, CHN g st → 0 ≤ mcS g st
  | [], _ => Int.le_refl _
  | (i, pl) :: st, h => by
    have ih := mcS_nnP w h.2.2.2.2.2
    have := ll_ge (L := gL g) (l := (gR g i).drop pl) (fun x hx => (w.sl1' h.1 (List.drop_subset _ _ hx)).1)
    unfold mcS
    omega
end WPs9
section WPs10
theorem t_unfoldP {I : Mem} {t : Nat} {g : GS} (h : GC I t g) (w : PWF g) : Tr (f_Sv_unfold t I) (fun _ J => TXT J (gTx g) ∧ Fm FSV I J) := by
  have ht := h.1
  have h00 := w.lle (i := 0) (by omega)
  have hTl := gTx_lenP w
  have hT4 : (ll (gL g) (gR g 0)).toNat ≤ 400 := by have := w.2.2; omega
  unfold f_Sv_unfold
  rw [if_pos ht]
  show Tr (bnd (whl (f_Sv_unfold_w16 t) (0, 0) (sI (sI I 5 0 7 0) 18 5 0 0)) (fun _ J78 => some ((), J78))) _
  refine tr_call (P := fun _ J => TXT J (gTx g) ∧ Fm FSV I J) (tr_whl (fun n s J => ∃ (st : List (Nat × Nat)) (out : List Int) (mv : Nat), s = ((st.length : Int) - 1, (mv : Int)) ∧ mv + n ≤ 2000 ∧ mcS g st ≤ n ∧ STK J st ∧ CHN g st ∧ out ++ remS g st = gTx g ∧ J 5 0 7 = (out.length : Int) ∧ (∀ j : Nat, j < out.length → J 18 3 j = out.getD j (-1)) ∧ Fm FSV I J) ?_ 1300 _ _ ⟨[(0, 0)], [], 0, rfl, by omega, ?_, ⟨by show sI (sI I 5 0 7 0) 18 5 0 0 18 5 0 = 0; rw [sI_self], fun z => absurd rfl z, trivial⟩, ⟨by omega, Nat.zero_le _, fun _ => rfl, fun z => absurd rfl z, fun q hq => absurd hq List.not_mem_nil, trivial⟩, by simp [remS, gTx], by rw [sI_ne (by omega), sI_self]; rfl, fun j hj => absurd hj (Nat.not_lt_zero j), (Fm.sI (by decide) (by omega) (by omega) (Or.inl rfl)).trans (Fm.sI (by decide) (by omega) (by omega) (Or.inr rfl))⟩) (fun _ _ q => tr_ret q)
  · rintro n s J ⟨st, out, mv, rfl, hmv, hn, hS, hC, hO, h7, h3, hF⟩
    have hlen := hC.len
    have hG := h.fsv hF
    unfold f_Sv_unfold_w16
    dsimp only
    rw [w32_of (x := (mv : Int)) (by omega) (by omega), if_pos (by omega), w32_of (x := (st.length : Int) - 1) (by omega) (by omega)]
    match st, hS, hC, hO, hn, hlen with
    | [], _, _, hO, _, _ =>
      rw [if_pos (by simp)]
      have hO : out = gTx g := by simpa [remS] using hO
      refine tr_ret ⟨⟨?_, by omega, ?_⟩, hF⟩
      · rw [← hO]; exact h7
      · rw [← hO]; exact h3
    | (i, pl) :: st, hS, hC, hO, hn, hlen =>
      have hC' := hC
      obtain ⟨s1, s2, s3⟩ := hS
      obtain ⟨c1, c2, c3, c4, c5, c6⟩ := hC
      have hrow := hG.2.1 i c1
      have hl4 := hrow.len
      have hmn := mcS_nnP w c6
      rw [List.length_cons] at hlen
      have hd : (((i, pl) :: st).length : Int) - 1 = (st.length : Int) := by rw [List.length_cons]; omega
      rw [hd, if_neg (by omega)]
      have key : Tr (f_Sv_unfold_j47 t (st.length : Int) (mv : Int) (rix t i) J) (LQ (fun s' J' => ∃ m : Nat, m < n ∧ ∃ (st : List (Nat × Nat)) (out : List Int) (mv : Nat), s' = ((st.length : Int) - 1, (mv : Int)) ∧ mv + m ≤ 2000 ∧ mcS g st ≤ m ∧ STK J' st ∧ CHN g st ∧ out ++ remS g st = gTx g ∧ J' 5 0 7 = (out.length : Int) ∧ (∀ j : Nat, j < out.length → J' 18 3 j = out.getD j (-1)) ∧ Fm FSV I J') (fun _ J => TXT J (gTx g) ∧ Fm FSV I J)) := by
        unfold f_Sv_unfold_j47
        rw [if_pos hrow.1, w32_of (x := (st.length : Int)) (by omega) (by omega), if_pos (by omega), Int.toNat_natCast, s1, row_at hrow (by omega), bnd_some, s1]
        have fS : ∀ {K : Mem} {k i s : Nat} {v : Int}, k = 18 → Fm FSV K (sI K k i s v) := fun hk => Fm.sI (by omega) (by omega) (by omega) (Or.inr hk)
        by_cases q : pl < (gR g i).length
        · have hxs : SYr (gR g) ((gR g i).getD pl (-1)) := w.1 i c1 _ (getD_mem q)
          have hx0 := hxs.1
          have hx6 := hxs.2.1
          have hsx := w.sl1 hxs
          have hdr := drop_at (l := gR g i) (d := -1) q
          generalize hx : (gR g i).getD pl (-1) = x at *
          rw [remS, hdr, exL_cons] at hO
          rw [mcS, hdr, ll_cons, List.length_cons] at hn
          have hge := ll_ge (L := gL g) (l := (gR g i).drop (pl + 1)) (fun y hy => (w.sl1' c1 (List.drop_subset _ _ hy)).1)
          obtain ⟨n, rfl⟩ : ∃ k : Nat, n = k + 1 := ⟨n - 1, by omega⟩
          rw [w32_of (x := x) (by omega) (by omega)]
          show Tr (if x = -1 then _ else _) _
          rw [if_neg (by omega)]
          by_cases q2 : x < 26
          · rw [if_pos q2]
            rw [ex_letter g q2] at hO
            rw [sl_26 q2] at hn
            have hol : out.length < 400 := by
              have := congrArg List.length hO
              rw [List.length_append, List.length_append, List.length_append, List.length_singleton] at this
              omega
            have k7 : sI J 18 5 st.length ((pl : Int) + 1) 5 0 7 = (out.length : Int) := by rw [sI_ne (by omega)]; exact h7
            unfold f_Sv_addLetter
            show Tr (bnd (if w32 (sI J 18 5 st.length ((pl : Int) + 1) 5 0 7) < 400 then (if 0 ≤ w32 (sI J 18 5 st.length ((pl : Int) + 1) 5 0 7) ∧ w32 (sI J 18 5 st.length ((pl : Int) + 1) 5 0 7) < 400 then some ((), sI (sI (sI J 18 5 st.length ((pl : Int) + 1)) 18 3 (w32 (sI J 18 5 st.length ((pl : Int) + 1) 5 0 7)).toNat x) 5 0 7 (sI (sI J 18 5 st.length ((pl : Int) + 1)) 18 3 (w32 (sI J 18 5 st.length ((pl : Int) + 1) 5 0 7)).toNat x 5 0 7 + 1)) else none) else some ((), sI J 18 5 st.length ((pl : Int) + 1))) (fun _ J22 => some (Sum.inl ((st.length : Int), (mv : Int) + 1), J22))) _
            rw [k7, w32_of (x := (out.length : Int)) (by omega) (by omega), if_pos (by omega), if_pos (by omega), Int.toNat_natCast, bnd_some, sI_ne (by omega), k7]
            refine tr_ret ⟨n, by omega, (i, pl + 1) :: st, out ++ [x], mv + 1, ?_, by omega, by rw [mcS]; omega, ?_, ⟨c1, q, c3, c4, c5, c6⟩, by rw [remS, ← hO]; simp, ?_, fun j hj => ?_, hF.trans ((fS rfl).trans ((fS rfl).trans (Fm.sI (by decide) (by omega) (by omega) (Or.inl rfl))))⟩
            · rw [List.length_cons]; exact Prod.ext (by show (st.length : Int) = _; omega) rfl
            · refine ⟨?_, fun z => ?_, s3.of (fun d hd => ⟨?_, ?_⟩)⟩
              · rw [sI_ne (by omega), sI_ne (by omega), sI_self]; rfl
              · rw [sI_ne (by omega), sI_ne (by omega), sI_ne (by omega)]; exact s2 z
              · rw [sI_ne (by omega), sI_ne (by omega), sI_ne (by omega)]
              · rw [sI_ne (by omega), sI_ne (by omega), sI_ne (by omega)]
            · rw [sI_self, List.length_append]; rfl
            · rw [List.length_append, List.length_singleton] at hj
              rw [sI_ne (by omega)]
              by_cases e : j = out.length
              · subst e; rw [sI_self, getD_r (Nat.le_refl _), Nat.sub_self]; rfl
              · rw [sI_ne (by omega), sI_ne (by omega), h3 j (by omega), getD_l (by omega)]
          · rw [if_neg q2]
            have hC2 := hC'.pushP w q hx.symm (by omega)
            have hlen2 := hC2.len
            rw [List.length_cons, List.length_cons] at hlen2
            obtain ⟨b1, b2, b3, b4, b5, b6⟩ := rule_bodyP w hxs (by omega)
            rw [ex_ruleP w hxs (by omega)] at hO
            rw [if_pos (by omega), w32_of (x := (st.length : Int) + 1) (by omega) (by omega), if_pos (by omega), tn1]
            refine tr_ret ⟨n, by omega, ((x - 26).toNat + 1, 0) :: (i, pl + 1) :: st, out, mv + 1, ?_, by omega, ?_, ?_, hC2, ?_, ?_, fun j hj => ?_, hF.trans ((fS rfl).trans ((fS rfl).trans (fS rfl)))⟩
            · rw [List.length_cons, List.length_cons]; exact Prod.ext (by show (st.length : Int) + 1 = _; omega) rfl
            · rw [mcS, mcS, List.drop_zero, b4]; omega
            · refine ⟨?_, fun _ => ?_, ?_, fun z => ?_, s3.of (fun d hd => ⟨?_, ?_⟩)⟩
              · rw [List.length_cons, sI_self]; rfl
              · rw [List.length_cons, sI_ne (by omega), sI_self]; omega
              · rw [sI_ne (by omega), sI_ne (by omega), sI_self]; rfl
              · rw [sI_ne (by omega), sI_ne (by omega), sI_ne (by omega)]; exact s2 z
              · rw [sI_ne (by omega), sI_ne (by omega), sI_ne (by omega)]
              · rw [sI_ne (by omega), sI_ne (by omega), sI_ne (by omega)]
            · rw [remS, remS, List.drop_zero, ← hO]; simp
            · rw [sI_ne (by omega), sI_ne (by omega), sI_ne (by omega)]; exact h7
            · rw [sI_ne (by omega), sI_ne (by omega), sI_ne (by omega)]; exact h3 j hj
        · have hdn : (gR g i).drop pl = [] := List.drop_eq_nil_of_le (by omega)
          rw [remS, hdn, exL_nil, List.nil_append] at hO
          rw [mcS, hdn, ll_nil, List.length_nil] at hn
          rw [getD_out (by omega)]
          show Tr (if w32 (-1) = -1 then _ else _) _
          rw [if_pos (by decide)]
          refine tr_ret ⟨(n - 1), by omega, st, out, mv + 1, Prod.ext (by show (st.length : Int) + -1 = _; omega) rfl, by omega, by omega, s3.of (fun d hd => ⟨sI_ne (by omega), sI_ne (by omega)⟩), c6, hO, ?_, fun j hj => ?_, hF.trans (fS rfl)⟩
          · rw [sI_ne (by omega)]; exact h7
          · rw [sI_ne (by omega)]; exact h3 j hj
      by_cases q0 : st = []
      · have hi : i = 0 := c3 q0
        subst hi
        rw [if_pos (by rw [q0]; rfl)]
        exact key
      · have hpos := List.length_pos_iff.mpr q0
        obtain ⟨c41, -⟩ := c4 q0
        rw [if_neg (by omega), if_pos (by omega), Int.toNat_natCast, s2 q0, show (i : Int) - 1 = ((i - 1 : Nat) : Int) by omega, g_body ht (r := i - 1) (by omega), bnd_some, show i - 1 + 1 = i by omega, if_pos hrow.1]
        exact key
  · rw [mcS, List.drop_zero]
    show _ + 0 ≤ ((1300 : Nat) : Int)
    omega

end WPs10
section WPs11
theorem dpF_farP {g : GS} (w : PWF g) : ∀ (n m : Nat) (x : Int), SYr (gR g) x → sl (gL g) x ≤ n → sl (gL g) x ≤ m → dpF (gR g) n x = dpF (gR g) m x
  | 0, m, x, hx, h, _ => by have := (w.sl1 hx).1; omega
  | n + 1, 0, x, hx, _, h => by have := (w.sl1 hx).1; omega
  | n + 1, m + 1, x, hx, h1, h2 => by
    rw [dpF, dpF]
    by_cases q : x < 26
    · rw [if_pos q, if_pos q]
    · rw [if_neg q, if_neg q]
      obtain ⟨-, -, -, -, -, h6⟩ := rule_bodyP w hx (by omega)
      rw [mxd_congr (fun y hy => dpF_farP w n m y (h6 y hy).1 (by have := (h6 y hy).2; omega) (by have := (h6 y hy).2; omega))]
end WPs11
section WPs12
theorem dp_ruleP {g : GS} (w : PWF g) {x : Int} (hx : SYr (gR g) x) (h : 26 ≤ x) : dp g x = 1 + mxd (dp g) (gR g ((x - 26).toNat + 1)) := by
  have h1 := (w.sl1 hx).1
  obtain ⟨-, -, -, -, -, h6⟩ := rule_bodyP w hx h
  have e : dp g x = dpF (gR g) (sl (gL g) x).toNat x := rfl
  obtain ⟨n, hn⟩ : ∃ n : Nat, (sl (gL g) x).toNat = n + 1 := ⟨(sl (gL g) x).toNat - 1, by omega⟩
  rw [e, hn, dpF, if_neg (by omega)]
  rw [mxd_congr (h := dp g) (fun y hy => ?_)]
  have h3 := (h6 y hy).2
  have h4 := (w.sl1 (h6 y hy).1).1
  exact dpF_farP w n _ y (h6 y hy).1 (by omega) (by omega)
end WPs12
section WPs13
theorem dp_rngP {g : GS} (w : PWF g) : ∀ (n : Nat) (x : Int), SYr (gR g) x → sl (gL g) x ≤ n → 0 ≤ dp g x ∧ dp g x ≤ sT (fun r => bI (gR g (r + 1) ≠ [] ∧ gL g r ≤ sl (gL g) x)) 40
  | 0, x, hx, h => by have := (w.sl1 hx).1; omega
  | n + 1, x, hx, h => by
    have nn : ∀ c : Int, 0 ≤ sT (fun r => bI (gR g (r + 1) ≠ [] ∧ gL g r ≤ c)) 40 := fun c => (sT_rng (c := 1) (fun k _ => by have := bI_01 (gR g (k + 1) ≠ [] ∧ gL g k ≤ c); omega)).1
    by_cases q : x < 26
    · rw [dp_letter g q]; exact ⟨Int.le_refl _, nn _⟩
    · obtain ⟨b1, b2, b3, b4, b5, b6⟩ := rule_bodyP w hx (by omega)
      rw [dp_ruleP w hx (by omega)]
      have hup : sT (fun r => bI (gR g (r + 1) ≠ [] ∧ gL g r ≤ sl (gL g) x - 1)) 40 + 1 ≤ sT (fun r => bI (gR g (r + 1) ≠ [] ∧ gL g r ≤ sl (gL g) x)) 40 := by
        have h1 := sT_up (f := fun r => if r = (x - 26).toNat then 0 else bI (gR g (r + 1) ≠ [] ∧ gL g r ≤ sl (gL g) x)) (h := fun r => bI (gR g (r + 1) ≠ [] ∧ gL g r ≤ sl (gL g) x)) (r := (x - 26).toNat) b1 (fun j _ hj => by rw [if_neg hj])
        have h2 : sT (fun r => bI (gR g (r + 1) ≠ [] ∧ gL g r ≤ sl (gL g) x - 1)) 40 ≤ sT (fun r => if r = (x - 26).toNat then 0 else bI (gR g (r + 1) ≠ [] ∧ gL g r ≤ sl (gL g) x)) 40 := sT_le (fun j _ => by
          by_cases e : j = (x - 26).toNat
          · rw [if_pos e, bI_neg (fun z => by have := z.2; rw [e, ← b2] at this; omega)]; exact Int.le_refl _
          · rw [if_neg e]
            by_cases z : gR g (j + 1) ≠ [] ∧ gL g j ≤ sl (gL g) x - 1
            · rw [bI_pos z, bI_pos ⟨z.1, by omega⟩]; exact Int.le_refl _
            · rw [bI_neg z]
              have := bI_01 (gR g (j + 1) ≠ [] ∧ gL g j ≤ sl (gL g) x)
              omega)
        rw [if_pos rfl, bI_pos ⟨b3, by rw [b2]; exact Int.le_refl _⟩] at h1
        omega
      have hm := mT_le (f := fun j => dp g ((gR g ((x - 26).toNat + 1)).getD j (-1))) (n := (gR g ((x - 26).toNat + 1)).length) (nn (sl (gL g) x - 1)) (fun j hj => by
        have hy := b6 _ (getD_mem (d := -1) hj)
        have h3 := (dp_rngP w n _ hy.1 (by omega)).2
        refine Int.le_trans h3 (sT_le (fun r _ => ?_))
        by_cases z : gR g (r + 1) ≠ [] ∧ gL g r ≤ sl (gL g) ((gR g ((x - 26).toNat + 1)).getD j (-1))
        · rw [bI_pos z, bI_pos ⟨z.1, by omega⟩]; exact Int.le_refl _
        · rw [bI_neg z]
          have := bI_01 (gR g (r + 1) ≠ [] ∧ gL g r ≤ sl (gL g) x - 1)
          omega)
      unfold mxd
      omega
end WPs13
section WPs14
theorem dp_40P {g : GS} (w : PWF g) {x : Int} (hx : SYr (gR g) x) : 0 ≤ dp g x ∧ dp g x ≤ 40 := by
  have h1 := (w.sl1 hx).1
  have h := dp_rngP w (sl (gL g) x).toNat x hx (by omega)
  have h2 := (sT_rng (f := fun r => bI (gR g (r + 1) ≠ [] ∧ gL g r ≤ sl (gL g) x)) (c := 1) (n := 40) (fun k _ => by have := bI_01 (gR g (k + 1) ≠ [] ∧ gL g k ≤ sl (gL g) x); omega)).2
  omega
end WPs14
section WPs15
variable {I : Mem} {g : GS}
theorem PLN.symP {J : Mem} (h : PLN J g) (w : PWF g) {x : Int} (hx : SYr (gR g) x) : J 27 5 x.toNat = 0 ∨ (J 27 5 x.toNat = sl (gL g) x ∧ J 27 6 x.toNat = dp g x) := by
  have h0 := hx.1
  have h6 := hx.2.1
  by_cases q : x < 26
  · right
    have := h.1 x.toNat (by omega)
    rw [sl_26 q, dp_letter g q]
    exact this
  · have := h.2 (x - 26).toNat (by omega)
    rw [show 26 + (x - 26).toNat = x.toNat by omega] at this
    rcases this with z | ⟨-, z1, z2⟩
    · exact Or.inl z
    · right
      refine ⟨by rw [z1]; unfold sl; rw [if_neg q], by rw [z2]; congr 1; omega⟩
end WPs15
section WPs16
variable {I : Mem} {g : GS}
theorem t_mlengthOfP (h : GW I g) (w : PWF g) (hP : PLN I g) {i : Nat} (hi : i < 41) : Tr (f_M_lengthOf (i : Int) I) (fun x J => ((x = 0 ∧ ∃ y ∈ gR g i, I 27 5 y.toNat = 0) ∨ (x = ll (gL g) (gR g i) ∧ J 26 0 10 = mxd (dp g) (gR g i) ∧ ∀ y ∈ gR g i, I 27 5 y.toNat ≠ 0)) ∧ Fm (fun k i s => k = 26 ∧ i = 0 ∧ s = 10) I J) := by
  have hl4 := w.len400 i hi
  have hs := w.1 i hi
  have hsy := w.sy hi
  unfold f_M_lengthOf
  show Tr (whl (f_M_lengthOf_w9 (i : Int)) (0, 0) (sI I 26 0 10 0)) _
  refine tr_cnt (fun k => (ll (gL g) ((gR g i).take k), (k : Int))) (fun k J => J 26 0 10 = mT (fun j => dp g ((gR g i).getD j (-1))) k ∧ (∀ j : Nat, j < k → I 27 5 ((gR g i).getD j (-1)).toNat ≠ 0) ∧ Fm (fun k i s => k = 26 ∧ i = 0 ∧ s = 10) I J) (gR g i).length (by simp [ll]) ⟨sI_self .., fun j hj => absurd hj (Nat.not_lt_zero j), Fm.sI (by decide) (by omega) (by omega) ⟨rfl, rfl, rfl⟩⟩ ?_ ?_
  · rintro k J hk ⟨k1, k2, k3⟩
    have hG := h.fm k3 (fun s hs => by omega)
    have q := hsy.at hk
    have hm := getD_mem (d := -1) hk
    have hx := hs _ hm
    have hdr := dp_40P w hx
    have hmt := mT_le (f := fun j => dp g ((gR g i).getD j (-1))) (c := 40) (by decide) (n := k) (fun j hj => (dp_40P w (hs _ (getD_mem (by omega)))).2)
    have hsl := w.sl1 hx
    unfold f_M_lengthOf_w9
    dsimp only
    rw [m_many hG hi, bnd_some, w32_of (x := (k : Int)) (by omega) (by omega), w32_of (x := ((gR g i).length : Int)) (by omega) (by omega), if_pos (by omega), m_at hG hi hk, bnd_some, w32_of (x := (gR g i).getD k (-1)) (by omega) (by omega), if_pos (by omega)]
    have e5 : J 27 5 ((gR g i).getD k (-1)).toNat = I 27 5 ((gR g i).getD k (-1)).toNat := k3.at (by decide) (by omega)
    have e6 : J 27 6 ((gR g i).getD k (-1)).toNat = I 27 6 ((gR g i).getD k (-1)).toNat := k3.at (by decide) (by omega)
    rw [e5, e6]
    rcases hP.symP w hx with z | ⟨z1, z2⟩
    · rw [z, if_pos (by decide)]
      exact tr_ret ⟨Or.inl ⟨rfl, _, hm, z⟩, k3⟩
    · rw [z1, z2, w32_of (x := sl (gL g) _) (by omega) (by omega), if_neg (by omega)]
      refine tr_ret ⟨?_, ?_, fun j hj => ?_, k3.trans (Fm.sI (by decide) (by omega) (by omega) ⟨rfl, rfl, rfl⟩)⟩
      · rw [take_at (d := -1) hk, ll_app, ll_cons, ll_nil, Int.add_zero]; rfl
      · rw [sI_self, k1]
        unfold imx
        rw [w32_of (x := mT _ k) (by omega) (by omega), w32_of (x := dp g _) (by omega) (by omega)]
        rfl
      · by_cases e : j = k
        · rw [e, z1]; omega
        · exact k2 j (by omega)
  · rintro J ⟨k1, k2, k3⟩
    have hG := h.fm k3 (fun s hs => by omega)
    unfold f_M_lengthOf_w9
    dsimp only
    rw [m_many hG hi, bnd_some, w32_of (x := ((gR g i).length : Int)) (by omega) (by omega), if_neg (by omega)]
    refine tr_ret ⟨Or.inr ⟨by rw [List.take_length], k1, fun y hy => ?_⟩, k3⟩
    obtain ⟨j, hj, ej⟩ := List.mem_iff_getElem.mp hy
    have := k2 j hj
    rw [show (gR g i).getD j (-1) = y by simp [List.getD_eq_getElem?_getD, hj, ej]] at this
    exact this
end WPs16
section WPs17
variable {I : Mem} {g : GS}
theorem t_laysLengthsP (h : GW I g) (w : PWF g) : Tr (f_M_laysLengths I) (fun _ J => LN J g ∧ GW J g ∧ Fm FL I J) := by
  unfold f_M_laysLengths
  refine tr_call (P := fun _ J => (∀ x : Nat, x < 66 → J 27 5 x = (if x < 26 then 1 else 0) ∧ J 27 6 x = 0) ∧ Fm FL I J) (tr_cnt (fun k => (k : Int)) (fun k J => (∀ x : Nat, x < k → J 27 5 x = (if x < 26 then 1 else 0) ∧ J 27 6 x = 0) ∧ Fm FL I J) 66 rfl ⟨fun x hx => absurd hx (Nat.not_lt_zero x), Fm.refl _ _⟩ ?_ ?_) ?_
  · rintro k J hk ⟨k1, k2⟩
    unfold f_M_laysLengths_w2
    rw [w32_of (by omega) (by omega), if_pos (by omega), m_oneI, bnd_some, if_pos (by omega), Int.toNat_natCast]
    refine tr_ret ⟨rfl, fun x hx => ?_, k2.trans ((Fm.sI (by decide) (by omega) (by omega) (Or.inl ⟨rfl, Or.inl rfl⟩)).trans (Fm.sI (by decide) (by omega) (by omega) (Or.inl ⟨rfl, Or.inr rfl⟩)))⟩
    by_cases e : x = k
    · subst e
      rw [sI_ne (by omega), sI_self, sI_self]
      refine ⟨?_, rfl⟩
      by_cases z : x < 26
      · rw [bI_pos (by omega), if_pos z]
      · rw [bI_neg (by omega), if_neg z]
    · rw [sI_ne (by omega), sI_ne (by omega), sI_ne (by omega), sI_ne (by omega)]
      exact k1 x (by omega)
  · rintro J ⟨k1, k2⟩
    unfold f_M_laysLengths_w2
    rw [if_neg (by decide)]
    exact tr_ret ⟨k1, k2⟩
  rintro _ J1 ⟨z1, f1⟩
  have hP1 : PLN J1 g := ⟨fun x hx => by have := z1 x (by omega); rw [if_pos hx] at this; exact this, fun r hr => Or.inl (by have := (z1 (26 + r) (by omega)).1; rw [if_neg (by omega)] at this; exact this)⟩
  have zr : ∀ J : Mem, 0 ≤ zcN J g ∧ zcN J g ≤ 40 := fun J => by
    have := sT_rng (f := fun r => bI (gR g (r + 1) ≠ [] ∧ J 27 5 (26 + r) = 0)) (c := 1) (n := 40) (fun k _ => by have := bI_01 (gR g (k + 1) ≠ [] ∧ J 27 5 (26 + k) = 0); omega)
    unfold zcN; omega
  refine tr_call (P := fun _ J => LN J g ∧ GW J g ∧ Fm FL I J) (tr_whl (fun n s J => ∃ m : Nat, (m : Int) = zcN J g ∧ (s = 1 ∧ n = 2 * m + 1 ∨ s = 0 ∧ n = 2 * m ∧ LN J g) ∧ PLN J g ∧ Fm FL I J) ?_ (2 * (zcN J1 g).toNat + 1) _ _ ⟨(zcN J1 g).toNat, by have := zr J1; omega, Or.inl ⟨rfl, rfl⟩, hP1, f1⟩) (fun _ _ q => tr_ret q)
  rintro n s J ⟨m, hm, hs, hP, hF⟩
  have hGJ : GW J g := h.fm hF (fun s hs z => by unfold FL at z; omega)
  unfold f_M_laysLengths_w43
  rcases hs with ⟨rfl, rfl⟩ | ⟨rfl, rfl, hL⟩
  · rw [if_neg (by decide)]
    -- a pass
    refine tr_call (P := fun x K => PLN K g ∧ Fm FL I K ∧ ((x = 1 ∧ zcN K g < zcN J g) ∨ (x = 0 ∧ zcN K g = zcN J g ∧ LN K g))) (tr_whl (fun n s K => ∃ (k : Nat) (fl : Int), n = 40 - k ∧ k ≤ 40 ∧ s = (fl, (k : Int)) ∧ PLN K g ∧ Fm FL I K ∧ ((fl = 1 ∧ zcN K g < zcN J g) ∨ (fl = 0 ∧ (∀ r : Nat, r < 40 → K 27 5 (26 + r) = J 27 5 (26 + r)) ∧ ∀ r : Nat, r < k → gR g (r + 1) ≠ [] → J 27 5 (26 + r) = 0 → ∃ y ∈ gR g (r + 1), J 27 5 y.toNat = 0))) ?_ 40 _ _ ⟨0, 0, rfl, by omega, rfl, hP, hF, Or.inr ⟨rfl, fun _ _ => rfl, fun r hr => absurd hr (Nat.not_lt_zero r)⟩⟩) ?_
    · rintro n s K ⟨k, fl, rfl, hk, rfl, hPK, hFK, hfl⟩
      have hGK : GW K g := h.fm hFK (fun s hs z => by unfold FL at z; omega)
      unfold f_M_laysLengths_w51
      dsimp only
      rw [w32_of (x := (k : Int)) (by omega) (by omega)]
      have flr : -1 ≤ fl ∧ fl ≤ 1 := by rcases hfl with z | z <;> omega
      by_cases q : k < 40
      · rw [if_pos (by omega), m_isHere hGK q, bnd_some]
        -- go on without a change
        have skip : (gR g (k + 1) = [] ∨ K 27 5 (26 + k) ≠ 0) → Tr (some (Sum.inl (fl, (k : Int) + 1), K)) (LQ (fun s' K' => ∃ m : Nat, m < 40 - k ∧ ∃ (k : Nat) (fl : Int), m = 40 - k ∧ k ≤ 40 ∧ s' = (fl, (k : Int)) ∧ PLN K' g ∧ Fm FL I K' ∧ ((fl = 1 ∧ zcN K' g < zcN J g) ∨ (fl = 0 ∧ (∀ r : Nat, r < 40 → K' 27 5 (26 + r) = J 27 5 (26 + r)) ∧ ∀ r : Nat, r < k → gR g (r + 1) ≠ [] → J 27 5 (26 + r) = 0 → ∃ y ∈ gR g (r + 1), J 27 5 y.toNat = 0))) (fun (x : Int) (K : Mem) => PLN K g ∧ Fm FL I K ∧ ((x = 1 ∧ zcN K g < zcN J g) ∨ (x = 0 ∧ zcN K g = zcN J g ∧ LN K g)))) := by
          intro hq
          refine tr_ret ⟨40 - (k + 1), by omega, k + 1, fl, rfl, by omega, rfl, hPK, hFK, ?_⟩
          rcases hfl with z | ⟨z1, z2, z3⟩
          · exact Or.inl z
          · refine Or.inr ⟨z1, z2, fun r hr hn h0 => ?_⟩
            by_cases e : r = k
            · subst e
              rcases hq with y | y
              · exact absurd y hn
              · exact absurd (by rw [z2 r q]; exact h0) y
            · exact z3 r (by omega) hn h0
        by_cases e : gR g (k + 1) = []
        · rw [if_pos (wb_neg (fun z => z e))]
          exact skip (Or.inl e)
        · have hsr : SYr (gR g) (26 + (k : Int)) := ⟨by omega, by omega, fun _ => by rw [show (26 + (k : Int) - 26).toNat = k by omega]; exact e⟩
          have hbody := w.2.1 k q e
          have hdpr := dp_ruleP w hsr (by omega)
          rw [show (26 + (k : Int) - 26).toNat = k by omega] at hdpr
          rw [if_neg (wb_pos e), w32_of (x := 26 + (k : Int)) (by omega) (by omega), if_pos (by omega), show ((26 : Int) + (k : Int)).toNat = 26 + k by omega]
          by_cases q5 : K 27 5 (26 + k) = 0
          · rw [q5, if_neg (by decide), show (k : Int) + 1 = ((k + 1 : Nat) : Int) from rfl]
            refine tr_call (t_mlengthOfP hGK w hPK (i := k + 1) (by omega)) ?_
            rintro x L ⟨hx, fL⟩
            have e10 : sI L 27 5 (26 + k) x 26 0 10 = L 26 0 10 := sI_ne (by omega)
            show Tr (if w32 fl = 0 then (if 0 < w32 (sI (sI L 27 5 (26 + k) x) 27 6 (26 + k) (sI L 27 5 (26 + k) x 26 0 10 + 1) 27 5 (26 + k)) then some (Sum.inl (1, ((k + 1 : Nat) : Int)), sI (sI L 27 5 (26 + k) x) 27 6 (26 + k) (sI L 27 5 (26 + k) x 26 0 10 + 1)) else some (Sum.inl (0, ((k + 1 : Nat) : Int)), sI (sI L 27 5 (26 + k) x) 27 6 (26 + k) (sI L 27 5 (26 + k) x 26 0 10 + 1))) else some (Sum.inl (1, ((k + 1 : Nat) : Int)), sI (sI L 27 5 (26 + k) x) 27 6 (26 + k) (sI L 27 5 (26 + k) x 26 0 10 + 1))) _
            rw [e10]
            generalize hM : sI (sI L 27 5 (26 + k) x) 27 6 (26 + k) (L 26 0 10 + 1) = M
            have m5 : M 27 5 (26 + k) = x := by rw [← hM, sI_ne (by omega), sI_self]
            have m6 : M 27 6 (26 + k) = L 26 0 10 + 1 := by rw [← hM, sI_self]
            have mo : ∀ y : Nat, y ≠ 26 + k → M 27 5 y = K 27 5 y ∧ M 27 6 y = K 27 6 y := fun y hy => by
              rw [← hM, sI_ne (by omega), sI_ne (by omega), sI_ne (by omega), sI_ne (by omega), fL.at (by decide) (by omega), fL.at (by decide) (by omega)]
              exact ⟨rfl, rfl⟩
            have fM : Fm FL I M := by
              rw [← hM]
              exact (hFK.trans (fL.mono (fun a b c z => Or.inr ⟨z.1, z.2.2⟩))).trans ((Fm.sI (by decide) (by omega) (by omega) (Or.inl ⟨rfl, Or.inl rfl⟩)).trans (Fm.sI (by decide) (by omega) (by omega) (Or.inl ⟨rfl, Or.inr rfl⟩)))
            rw [w32_of (x := fl) (by omega) (by omega), m5]
            rcases hx with ⟨rfl, y, hy, hy0⟩ | ⟨rfl, hd, hall⟩
            · -- still none
              have hPM : PLN M g := ⟨fun x hx => by rw [(mo x (by omega)).1, (mo x (by omega)).2]; exact hPK.1 x hx, fun r hr => by
                by_cases z : r = k
                · subst z; exact Or.inl m5
                · rw [(mo _ (by omega)).1, (mo _ (by omega)).2]; exact hPK.2 r hr⟩
              have hz5 : ∀ r : Nat, r < 40 → M 27 5 (26 + r) = K 27 5 (26 + r) := fun r hr => by
                by_cases z : r = k
                · subst z; rw [m5, q5]
                · exact (mo _ (by omega)).1
              have hzc : zcN M g = zcN K g := by
                unfold zcN
                exact sT_congr (fun r hr => by rw [hz5 r hr])
              have hnx : ∀ f2 : Int, f2 = fl → Tr (some (Sum.inl (f2, ((k + 1 : Nat) : Int)), M)) (LQ (fun s' K' => ∃ m : Nat, m < 40 - k ∧ ∃ (k : Nat) (fl : Int), m = 40 - k ∧ k ≤ 40 ∧ s' = (fl, (k : Int)) ∧ PLN K' g ∧ Fm FL I K' ∧ ((fl = 1 ∧ zcN K' g < zcN J g) ∨ (fl = 0 ∧ (∀ r : Nat, r < 40 → K' 27 5 (26 + r) = J 27 5 (26 + r)) ∧ ∀ r : Nat, r < k → gR g (r + 1) ≠ [] → J 27 5 (26 + r) = 0 → ∃ y ∈ gR g (r + 1), J 27 5 y.toNat = 0))) (fun (x : Int) (K : Mem) => PLN K g ∧ Fm FL I K ∧ ((x = 1 ∧ zcN K g < zcN J g) ∨ (x = 0 ∧ zcN K g = zcN J g ∧ LN K g)))) := by
                rintro f2 rfl
                refine tr_ret ⟨40 - (k + 1), by omega, k + 1, f2, rfl, by omega, rfl, hPM, fM, ?_⟩
                rcases hfl with z | ⟨z1, z2, z3⟩
                · exact Or.inl ⟨z.1, by rw [hzc]; exact z.2⟩
                · refine Or.inr ⟨z1, fun r hr => by rw [hz5 r hr]; exact z2 r hr, fun r hr hn h0 => ?_⟩
                  by_cases e2 : r = k
                  · subst e2
                    refine ⟨y, hy, ?_⟩
                    have hyS := w.1 (r + 1) (by omega) y hy
                    have y0 := hyS.1
                    have y6 := hyS.2.1
                    by_cases yl : y < 26
                    · have := (hPK.1 y.toNat (by omega)).1
                      rw [hy0] at this; cases this
                    · rw [show y.toNat = 26 + (y.toNat - 26) by omega, ← z2 _ (by omega), show 26 + (y.toNat - 26) = y.toNat by omega]
                      exact hy0
                  · exact z3 r (by omega) hn h0
              by_cases f0 : fl = 0
              · rw [if_pos f0, if_neg (by decide)]; exact hnx 0 f0.symm
              · rw [if_neg f0]; exact hnx 1 (by rcases hfl with z | z; exact z.1.symm; exact absurd z.1 f0)
            · -- found
              have hlen1 : ll (gL g) (gR g (k + 1)) = gL g k := hbody.2.1.symm
              rw [hlen1] at m5 ⊢
              have hPM : PLN M g := ⟨fun x hx => by rw [(mo x (by omega)).1, (mo x (by omega)).2]; exact hPK.1 x hx, fun r hr => by
                by_cases z : r = k
                · subst z; exact Or.inr ⟨e, m5, by rw [m6, hd, hdpr]; omega⟩
                · rw [(mo _ (by omega)).1, (mo _ (by omega)).2]; exact hPK.2 r hr⟩
              have hzc : zcN M g < zcN K g := by
                unfold zcN
                rw [sT_up (f := fun r => bI (gR g (r + 1) ≠ [] ∧ K 27 5 (26 + r) = 0)) (h := fun r => bI (gR g (r + 1) ≠ [] ∧ M 27 5 (26 + r) = 0)) (r := k) q (fun j _ hj => by
                  show bI (gR g (j + 1) ≠ [] ∧ M 27 5 (26 + j) = 0) = bI (gR g (j + 1) ≠ [] ∧ K 27 5 (26 + j) = 0)
                  rw [(mo (26 + j) (by omega)).1])]
                rw [bI_neg (fun z => by have := z.2; rw [m5] at this; omega), bI_pos ⟨e, q5⟩]
                omega
              have hzle : zcN K g ≤ zcN J g := by
                rcases hfl with z | ⟨z1, z2, z3⟩
                · omega
                · unfold zcN
                  rw [sT_congr (fun r hr => by rw [z2 r hr])]
                  exact Int.le_refl _
              have hnx : Tr (some (Sum.inl (1, ((k + 1 : Nat) : Int)), M)) (LQ (fun s' K' => ∃ m : Nat, m < 40 - k ∧ ∃ (k : Nat) (fl : Int), m = 40 - k ∧ k ≤ 40 ∧ s' = (fl, (k : Int)) ∧ PLN K' g ∧ Fm FL I K' ∧ ((fl = 1 ∧ zcN K' g < zcN J g) ∨ (fl = 0 ∧ (∀ r : Nat, r < 40 → K' 27 5 (26 + r) = J 27 5 (26 + r)) ∧ ∀ r : Nat, r < k → gR g (r + 1) ≠ [] → J 27 5 (26 + r) = 0 → ∃ y ∈ gR g (r + 1), J 27 5 y.toNat = 0))) (fun (x : Int) (K : Mem) => PLN K g ∧ Fm FL I K ∧ ((x = 1 ∧ zcN K g < zcN J g) ∨ (x = 0 ∧ zcN K g = zcN J g ∧ LN K g)))) :=
                tr_ret ⟨40 - (k + 1), by omega, k + 1, 1, rfl, by omega, rfl, hPM, fM, Or.inl ⟨rfl, by omega⟩⟩
              rw [w32_of (x := gL g k) (by omega) (by omega)]
              by_cases f0 : fl = 0
              · rw [if_pos f0, if_pos (by omega)]; exact hnx
              · rw [if_neg f0]; exact hnx
          · have h5 : 0 < w32 (K 27 5 (26 + k)) := by
              rcases hPK.2 k q with z | ⟨-, z, -⟩
              · exact absurd z q5
              · rw [z, w32_of (by omega) (by omega)]; omega
            rw [if_pos h5]
            exact skip (Or.inr q5)
      · rw [if_neg (by omega)]
        have hk : k = 40 := by omega
        subst hk
        refine tr_ret ⟨hPK, hFK, ?_⟩
        rcases hfl with z | ⟨z1, z2, z3⟩
        · exact Or.inl z
        · refine Or.inr ⟨z1, by unfold zcN; exact sT_congr (fun r hr => by rw [z2 r hr]), hPK.1, ?_⟩
          -- no rule without a length is left
          have none0 : ∀ n : Nat, ∀ r : Nat, r < 40 → gR g (r + 1) ≠ [] → gL g r ≤ n → J 27 5 (26 + r) ≠ 0 := by
            intro n
            induction n with
            | zero => intro r hr hn hle; have := (w.2.1 r hr hn).2.2.2; omega
            | succ n ih =>
              intro r hr hn hle h0
              obtain ⟨y, hy, hy0⟩ := z3 r hr hn h0
              have hyS := w.1 (r + 1) (by omega) y hy
              have y0 := hyS.1
              have y6 := hyS.2.1
              have hsr : SYr (gR g) (26 + (r : Int)) := ⟨by omega, by omega, fun _ => by rw [show (26 + (r : Int) - 26).toNat = r by omega]; exact hn⟩
              by_cases yl : y < 26
              · have := (hP.1 y.toNat (by omega)).1
                rw [hy0] at this; cases this
              · obtain ⟨-, b2, -, -, -, b6⟩ := rule_bodyP w hsr (by omega)
                rw [show (26 + (r : Int) - 26).toNat = r by omega] at b2 b6
                have c2 := (b6 y hy).2
                have hyb := rule_bodyP w hyS (by omega)
                refine ih (y - 26).toNat hyb.1 hyb.2.2.1 (by rw [← hyb.2.1]; omega) ?_
                rw [show 26 + (y - 26).toNat = y.toNat by omega]
                exact hy0
          intro r hr hn
          have hne := none0 400 r hr hn (by have := (w.2.1 r hr hn).2.2.1; omega)
          rcases hPK.2 r hr with z | ⟨-, z, z'⟩
          · rw [z2 r hr] at z; exact absurd z hne
          · exact ⟨z, z'⟩
    · rintro x K ⟨p1, p2, p3⟩
      have hzk := zr K
      rcases p3 with ⟨rfl, z⟩ | ⟨rfl, z, hL⟩
      · exact tr_ret ⟨2 * (zcN K g).toNat + 1, by omega, (zcN K g).toNat, by omega, Or.inl ⟨rfl, rfl⟩, p1, p2⟩
      · exact tr_ret ⟨2 * m, by omega, m, by omega, Or.inr ⟨rfl, rfl, hL⟩, p1, p2⟩
  · rw [if_pos (by decide)]
    exact tr_ret ⟨hL, hGJ, hF⟩
end WPs17
section WPs18
variable {I : Mem} {g : GS}
theorem t_munfoldsP (h : GW I g) (w : PWF g) : Tr (f_M_unfolds I) (fun x J => x = ((gTx g).length : Int) ∧ UNF J g (gTx g) ∧ Fm FUN I J) := by
  have hTl := gTx_lenP w
  have hT4 : (ll (gL g) (gR g 0)).toNat ≤ 400 := by have := w.2.2; omega
  have h00 := w.lle (i := 0) (by omega)
  have hgT : ((gTx g).length : Int) = ll (gL g) (gR g 0) := by have := (w.lle (i := 0) (by decide)).1; omega
  have hpre : ∀ k : Nat, ll (gL g) (gR g 0) = ll (gL g) ((gR g 0).take k) + ll (gL g) ((gR g 0).drop k) := fun k => by rw [← ll_app, List.take_append_drop]
  have hdl : ∀ k : Nat, ((exL g ((gR g 0).drop k)).length : Int) = ll (gL g) ((gR g 0).drop k) := fun k => exL_lenP w (fun x hx => w.1 0 (by omega) x (List.drop_subset _ _ hx))
  have hdn : ∀ k : Nat, 0 ≤ ll (gL g) ((gR g 0).drop k) := fun k => by
    have := ll_ge (L := gL g) (l := (gR g 0).drop k) (fun x hx => (w.sl1' (by omega) (List.drop_subset _ _ hx)).1)
    omega
  unfold f_M_unfolds
  refine tr_call (P := fun x J => x = ((gTx g).length : Int) ∧ UNF J g (gTx g) ∧ Fm FUN I J) (tr_whl (fun n s J => ∃ (k : Nat) (out : List Int), n = (gR g 0).length - k ∧ k ≤ (gR g 0).length ∧ s = ((out.length : Int), (k : Int)) ∧ out ++ exL g ((gR g 0).drop k) = gTx g ∧ UNF J g out ∧ Fm FUN I J) ?_ (gR g 0).length _ _ ⟨0, [], rfl, Nat.zero_le _, rfl, by rw [List.drop_zero]; rfl, fun q hq => absurd hq (Nat.not_lt_zero q), Fm.refl _ _⟩) (fun _ _ q => tr_ret q)
  rintro n s J ⟨k, out, rfl, hk, rfl, hO, hU, hF⟩
  have hG := h.fun_ hF
  have emany : f_M_many 0 J = some (((gR g 0).length : Int), J) := m_many hG (i := 0) (by omega)
  unfold f_M_unfolds_w4
  dsimp only
  rw [emany, bnd_some, w32_of (x := (k : Int)) (by omega) (by omega), w32_of (x := ((gR g 0).length : Int)) (by omega) (by omega)]
  have hOl := congrArg List.length hO
  rw [List.length_append] at hOl
  have hdk := hdl k
  have hpk := hpre k
  by_cases q : k < (gR g 0).length
  · rw [if_pos (by omega)]
    have hx : SYr (gR g) ((gR g 0).getD k (-1)) := w.1 0 (by omega) _ (getD_mem q)
    have hdk1 := hdl (k + 1)
    have hpk1 := hpre (k + 1)
    have hdn1 := hdn (k + 1)
    have hdrop := drop_at (l := gR g 0) (d := -1) q
    -- the machine on one symbol
    show Tr (bnd (whl (f_M_unfolds_w29 (k : Int)) ((out.length : Int), 0) (sI (sI J 27 9 0 0) 27 10 0 (k : Int))) (fun r121 J122 => some (Sum.inl (r121, (k : Int) + 1), J122))) _
    have fS : ∀ {K : Mem} {i s : Nat} {v : Int}, 7 ≤ i ∧ i ≤ 10 → Fm FUN K (sI K 27 i s v) := fun hi => Fm.sI (by omega) (by omega) (by omega) ⟨rfl, hi.1, hi.2⟩
    refine tr_call (P := fun x K => ∃ out' : List Int, x = (out'.length : Int) ∧ out' ++ exL g ((gR g 0).drop (k + 1)) = gTx g ∧ UNF K g out' ∧ Fm FUN I K) (tr_whl (fun n s K => ∃ out' : List Int, UNF K g out' ∧ Fm FUN I K ∧ ((s = ((out'.length : Int), -1) ∧ out' ++ exL g ((gR g 0).drop (k + 1)) = gTx g) ∨ (s = ((out'.length : Int), 0) ∧ out' ++ exL g ((gR g 0).drop k) = gTx g ∧ K 27 9 0 = 0 ∧ K 27 10 0 = (k : Int) ∧ mcS g [(0, k)] + 1 ≤ n) ∨ (∃ (i pl : Nat) (W : List (Nat × Nat)), s = ((out'.length : Int), (W.length : Int) + 1) ∧ out' ++ remS g ((i, pl) :: W) ++ exL g ((gR g 0).drop (k + 1)) = gTx g ∧ ll (gL g) ((gR g 0).take k) ≤ out'.length ∧ CHN g ((i, pl) :: (W ++ [(0, k + 1)])) ∧ K 27 9 (W.length + 1) = (i : Int) ∧ K 27 10 (W.length + 1) = (pl : Int) ∧ MSL K W ∧ mcS g ((i, pl) :: W) + 1 ≤ n))) ?_ 3000 _ _ ⟨out, ?_, ?_, Or.inr (Or.inl ⟨rfl, hO, by rw [sI_ne (by omega), sI_self], sI_self .., ?_⟩)⟩) ?_
    · rintro n s K ⟨out', hU', hF', hs⟩
      have hGK := h.fun_ hF'
      unfold f_M_unfolds_w29
      -- a letter, or a rule, is there
      rcases hs with ⟨rfl, hO'⟩ | ⟨rfl, hO', k9, k10, hn⟩ | ⟨i, pl, W, rfl, hO', hlow, hC, k9, k10, hW, hn⟩
      · dsimp only
        rw [if_pos (by decide)]
        exact tr_ret ⟨out', rfl, hO', hU', hF'⟩
      · dsimp only
        rw [if_neg (by decide), if_neg (by decide)]
        have hOl' := congrArg List.length hO'
        rw [List.length_append] at hOl'
        rw [hdrop, exL_cons] at hO'
        rw [mcS, mcS, hdrop, ll_cons, List.length_cons] at hn
        have hmc1 := ll_ge (L := gL g) (l := (gR g 0).drop (k + 1)) (fun y hy => (w.sl1' (by omega) (List.drop_subset _ _ hy)).1)
        have eat : f_M_at 0 (k : Int) K = some ((gR g 0).getD k (-1), K) := m_at hGK (i := 0) (by omega) q
        unfold f_M_unfolds_j60 f_M_unfolds_j61
        rw [if_pos (by decide), show w32 0 = 0 from rfl, if_pos (by decide)]
        show Tr (bnd (f_M_at (K 27 9 0) (K 27 10 0) K) _) _
        rw [k9, k10, eat, bnd_some]
        generalize hxe : (gR g 0).getD k (-1) = x at *
        have hsx := w.sl1 hx
        have hx0 := hx.1
        have hx6 := hx.2.1
        unfold f_M_unfolds_j88
        rw [if_pos (by decide), w32_of (x := x) (by omega) (by omega)]
        by_cases q2 : x < 26
        · rw [ex_letter g q2] at hO'
          rw [if_pos q2, w32_of (x := (out'.length : Int)) (by omega) (by omega), if_pos (by omega), Int.toNat_natCast]
          show Tr (if 0 < w32 0 then _ else some (Sum.inl ((out'.length : Int) + 1, -1), sI (sI K 27 7 out'.length x) 27 8 out'.length (k : Int))) _
          rw [if_neg (by decide)]
          have f2 : Fm (fun a b c => a = 27 ∧ (b = 7 ∨ b = 8) ∧ c = out'.length) K (sI (sI K 27 7 out'.length x) 27 8 out'.length (k : Int)) := (Fm.sI (by decide) (by omega) (by omega) ⟨rfl, Or.inl rfl, rfl⟩).trans (Fm.sI (by decide) (by omega) (by omega) ⟨rfl, Or.inr rfl, rfl⟩)
          have hsl := sl_26 (L := gL g) q2
          have e2 : ll (gL g) ((gR g 0).drop k) = 1 + ll (gL g) ((gR g 0).drop (k + 1)) := by rw [hdrop, ll_cons, hsl]
          refine tr_ret ⟨n - 1, by omega, out' ++ [x], hU'.snoc q (by omega) (by omega) f2 (by rw [sI_ne (by omega), sI_self]) (sI_self ..), hF'.trans (f2.mono (fun a b c z => ⟨z.1, by omega, by omega⟩)), Or.inl ⟨Prod.ext (by rw [List.length_append]; rfl) rfl, by rw [← hO']; simp⟩⟩
        · obtain ⟨b1, b2, b3, b4, b5, b6⟩ := rule_bodyP w hx (by omega)
          rw [ex_ruleP w hx (by omega)] at hO'
          rw [if_neg q2]
          show Tr (if 0 ≤ w32 (0 + 1) ∧ w32 (0 + 1) < 42 then _ else none) _
          rw [if_pos (by decide), show (w32 ((0 : Int) + 1)).toNat = 1 from by decide]
          have hC0 : CHN g [(0, k)] := ⟨by omega, by omega, fun _ => rfl, fun z => absurd rfl z, fun q hq => absurd hq List.not_mem_nil, trivial⟩
          have hxg : x = (gR g 0).getD k (-1) := hxe.symm
          have hC1 := hC0.pushP w q hxg (by omega)
          refine tr_ret ⟨n - 1, by omega, out', fun q' hq' => ?_, hF'.trans ((fS ⟨by omega, by omega⟩).trans (fS ⟨by omega, by omega⟩)), Or.inr (Or.inr ⟨(x - 26).toNat + 1, 0, [], rfl, ?_, by omega, hC1, ?_, ?_, trivial, ?_⟩)⟩
          · rw [sI_ne (by omega), sI_ne (by omega), sI_ne (by omega), sI_ne (by omega)]; exact hU' q' hq'
          · rw [remS, remS, List.drop_zero, List.append_nil, List.append_assoc]; exact hO'
          · show sI (sI K 27 9 1 (x - 26 + 1)) 27 10 1 0 27 9 1 = _
            rw [sI_ne (by decide), sI_self]; omega
          · exact sI_self ..
          · rw [mcS, mcS, List.drop_zero, b4]; omega
      · have hlen := hC.len
        rw [List.length_cons, List.length_append, List.length_singleton] at hlen
        obtain ⟨c1, c2, c3, c4, c5, c6⟩ := hC
        have hC : CHN g ((i, pl) :: (W ++ [(0, k + 1)])) := ⟨c1, c2, c3, c4, c5, c6⟩
        have hWn := mcS_nnP w c6
        rw [mcS_app] at hWn
        have hOl' := congrArg List.length hO'
        rw [List.length_append, List.length_append] at hOl'
        have em := m_many hGK c1
        have hil := w.len400 i c1
        have hmcW : 0 ≤ mcS g W := by
          -- every part is at least one
          have key : ∀ V : List (Nat × Nat), CHN g (V ++ [(0, k + 1)]) → 0 ≤ mcS g V := by
            intro V
            induction V with
            | nil => intro _; exact Int.le_refl _
            | cons a V ih =>
              intro hV
              obtain ⟨i', pl'⟩ := a
              have h1 := ih hV.2.2.2.2.2
              have h2 := ll_ge (L := gL g) (l := (gR g i').drop pl') (fun x hx => (w.sl1' hV.1 (List.drop_subset _ _ hx)).1)
              rw [mcS]
              omega
          exact key W c6
        dsimp only
        rw [w32_of (x := (W.length : Int) + 1) (by omega) (by omega), if_neg (by omega), if_pos (by omega), if_pos (by omega), tn1, k9, em, bnd_some, k10, w32_of (x := (pl : Int)) (by omega) (by omega), w32_of (x := ((gR g i).length : Int)) (by omega) (by omega)]
        by_cases qo : pl = (gR g i).length
        · have hdn' : (gR g i).drop pl = [] := List.drop_eq_nil_of_le (by omega)
          rw [remS, hdn', exL_nil, List.nil_append] at hO'
          rw [mcS, hdn', ll_nil, List.length_nil] at hn
          rw [if_pos (by omega)]
          unfold f_M_unfolds_j61
          rw [if_neg (by decide)]
          unfold f_M_unfolds_j88
          rw [if_neg (by decide), show (W.length : Int) + 1 + (-1) = (W.length : Int) by omega, w32_of (x := (W.length : Int)) (by omega) (by omega)]
          match W, hW, hC, hO', hn, hmcW with
          | [], _, _, hO', hn, _ =>
            rw [if_neg (by simp)]
            refine tr_ret ⟨n - 1, by omega, out', hU', hF', Or.inl ⟨rfl, by simpa [remS] using hO'⟩⟩
          | (i', pl') :: W, hW, hC, hO', hn, hmcW =>
            obtain ⟨w1, w2, w3⟩ := hW
            rw [if_pos (by rw [List.length_cons]; omega), if_pos (by rw [List.length_cons] at hlen ⊢; omega), Int.toNat_natCast, List.length_cons]
            refine tr_ret ⟨n - 1, by omega, out', fun q' hq' => ?_, hF'.trans (fS ⟨by omega, by omega⟩), Or.inr (Or.inr ⟨i', pl', W, Prod.ext rfl (by show ((W.length + 1 : Nat) : Int) = _; omega), hO', hlow, hC.2.2.2.2.2, ?_, ?_, w3.of (fun d hd => ⟨?_, ?_⟩), by omega⟩)⟩
            · rw [sI_ne (by omega), sI_ne (by omega)]; exact hU' q' hq'
            · rw [sI_ne (by omega)]; exact w1
            · rw [sI_self]; exact w2
            · rw [sI_ne (by omega)]
            · rw [sI_ne (by omega)]
        · have qi : pl < (gR g i).length := by omega
          have hdi := drop_at (l := gR g i) (d := -1) qi
          have hxi : SYr (gR g) ((gR g i).getD pl (-1)) := w.1 i c1 _ (getD_mem qi)
          have eat := m_at hGK c1 qi
          rw [if_neg (by omega)]
          unfold f_M_unfolds_j60 f_M_unfolds_j61
          rw [if_pos (by decide), w32_of (x := (W.length : Int) + 1) (by omega) (by omega), if_pos (by omega), tn1, k9, k10, eat, bnd_some]
          rw [remS, hdi, exL_cons] at hO'
          rw [mcS, hdi, ll_cons, List.length_cons] at hn
          have hge := ll_ge (L := gL g) (l := (gR g i).drop (pl + 1)) (fun y hy => (w.sl1' c1 (List.drop_subset _ _ hy)).1)
          have hxe : (gR g i).getD pl (-1) = (gR g i).getD pl (-1) := rfl
          generalize hxx : (gR g i).getD pl (-1) = x at *
          have hx0 := hxi.1
          have hx6 := hxi.2.1
          have hsx := w.sl1 hxi
          have hol : (out'.length : Int) < ll (gL g) ((gR g 0).take (k + 1)) := by
            have h1 := congrArg List.length hO'
            simp only [List.length_append] at h1
            have h2 := (ex_lenP w (sl (gL g) x).toNat x hxi (by omega)).1
            omega
          unfold f_M_unfolds_j88
          rw [if_pos (by decide), w32_of (x := x) (by omega) (by omega)]
          by_cases q2 : x < 26
          · rw [ex_letter g q2] at hO'
            rw [sl_26 q2] at hn
            have f2 : Fm (fun a b c => a = 27 ∧ (b = 7 ∨ b = 8) ∧ c = out'.length) K (sI (sI K 27 7 out'.length x) 27 8 out'.length (k : Int)) := (Fm.sI (by decide) (by omega) (by omega) ⟨rfl, Or.inl rfl, rfl⟩).trans (Fm.sI (by decide) (by omega) (by omega) ⟨rfl, Or.inr rfl, rfl⟩)
            have hU2 := hU'.snoc q hlow hol f2 (by rw [sI_ne (by omega), sI_self]) (sI_self ..)
            rw [if_pos q2, w32_of (x := (out'.length : Int)) (by omega) (by omega), if_pos (by omega), Int.toNat_natCast]
            show Tr (if 0 < w32 ((W.length : Int) + 1) then (if 0 ≤ w32 ((W.length : Int) + 1) ∧ w32 ((W.length : Int) + 1) < 42 then some (Sum.inl ((out'.length : Int) + 1, (W.length : Int) + 1), sI (sI (sI K 27 7 out'.length x) 27 8 out'.length (k : Int)) 27 10 (w32 ((W.length : Int) + 1)).toNat (sI (sI K 27 7 out'.length x) 27 8 out'.length (k : Int) 27 10 (w32 ((W.length : Int) + 1)).toNat + 1)) else none) else some (Sum.inl ((out'.length : Int) + 1, -1), sI (sI K 27 7 out'.length x) 27 8 out'.length (k : Int))) _
            rw [w32_of (x := (W.length : Int) + 1) (by omega) (by omega), if_pos (by omega), if_pos (by omega), tn1, sI_ne (by omega), sI_ne (by omega), k10]
            refine tr_ret ⟨n - 1, by omega, out' ++ [x], fun q' hq' => ?_, (hF'.trans (f2.mono (fun a b c z => ⟨z.1, by omega, by omega⟩))).trans (fS ⟨by omega, by omega⟩), Or.inr (Or.inr ⟨i, pl + 1, W, Prod.ext (by rw [List.length_append]; rfl) rfl, by rw [remS, ← hO']; simp, by rw [List.length_append, List.length_singleton]; omega, ⟨c1, qi, c3, c4, c5, c6⟩, ?_, ?_, hW.of (fun d hd => ⟨?_, ?_⟩), by rw [mcS]; omega⟩)⟩
            · rw [sI_ne (by omega), sI_ne (I := sI (sI K 27 7 out'.length x) 27 8 out'.length (k : Int)) (by omega)]; exact hU2 q' hq'
            · rw [sI_ne (by omega), sI_ne (by omega), sI_ne (by omega)]; exact k9
            · rw [sI_self]; rfl
            · rw [sI_ne (by omega), sI_ne (by omega), sI_ne (by omega)]
            · rw [sI_ne (by omega), sI_ne (by omega), sI_ne (by omega)]
          · obtain ⟨b1, b2, b3, b4, b5, b6⟩ := rule_bodyP w hxi (by omega)
            have hC2 := hC.pushP w qi hxx.symm (by omega)
            have hl2 := hC2.len
            rw [List.length_cons, List.length_cons, List.length_append, List.length_singleton] at hl2
            rw [ex_ruleP w hxi (by omega)] at hO'
            rw [if_neg q2, w32_of (x := (W.length : Int) + 1 + 1) (by omega) (by omega), if_pos (by omega), show ((W.length : Int) + 1 + 1).toNat = W.length + 2 by omega]
            refine tr_ret ⟨n - 1, by omega, out', fun q' hq' => ?_, hF'.trans ((fS ⟨by omega, by omega⟩).trans (fS ⟨by omega, by omega⟩)), Or.inr (Or.inr ⟨(x - 26).toNat + 1, 0, (i, pl + 1) :: W, Prod.ext rfl (by rw [List.length_cons]; show (W.length : Int) + 1 + 1 = _; omega), by rw [remS, remS, List.drop_zero, ← hO']; simp, hlow, hC2, ?_, ?_, ⟨?_, ?_, hW.of (fun d hd => ⟨?_, ?_⟩)⟩, by rw [mcS, mcS, List.drop_zero, b4]; omega⟩)⟩
            · rw [sI_ne (by omega), sI_ne (by omega), sI_ne (by omega), sI_ne (by omega)]; exact hU' q' hq'
            · rw [List.length_cons, sI_ne (by omega), sI_self]; omega
            · rw [List.length_cons, sI_self]; rfl
            · rw [sI_ne (by omega), sI_ne (by omega)]; exact k9
            · rw [sI_ne (by omega), sI_ne (by omega), k10]; rfl
            · rw [sI_ne (by omega), sI_ne (by omega)]
            · rw [sI_ne (by omega), sI_ne (by omega)]
    · exact fun q' hq' => by rw [sI_ne (by omega), sI_ne (by omega), sI_ne (by omega), sI_ne (by omega)]; exact hU q' hq'
    · exact hF.trans ((fS ⟨by omega, by omega⟩).trans (fS ⟨by omega, by omega⟩))
    · rw [mcS, mcS]
      have := hdl k
      omega
    rintro x K ⟨out', rfl, hO', hU', hF'⟩
    exact tr_ret ⟨(gR g 0).length - (k + 1), by omega, k + 1, out', rfl, by omega, rfl, hO', hU', hF'⟩
  · have hk2 : k = (gR g 0).length := by omega
    subst hk2
    rw [List.drop_length, exL_nil, List.append_nil] at hO
    subst hO
    rw [if_neg (by omega)]
    exact tr_ret ⟨rfl, hU, hF⟩
end WPs18
end
section
/-! ===== setups: what they say; the class's items ===== -/
def letL (l : List Int) : List Int := l.map (fun b => b - 97)
def itm (bs : List Int) (L : Nat → Int) (k : Nat) (l : List Int) (p : Nat) : Option (List Int × Nat) :=
  if tK bs p = 1 then (if 400 < ll L l + ((tE bs p - tF bs p : Nat) : Int) then none else some (l ++ letL (tkL bs p), tE bs p))
  else (if nbE bs (tE bs p) 0 39 = 0 ∧ l.length < 400 ∧ nV bs (tE bs p) < (k : Int) ∧ ll L l + L (nV bs (tE bs p)).toNat ≤ 400 ∧ tK bs (tE bs (tE bs p)) = 5 then some (l ++ [26 + nV bs (tE bs p)], tE bs (tE bs (tE bs p))) else none)
def itL (bs : List Int) (L : Nat → Int) (k : Nat) : Nat → List Int → Nat → Option (List Int × Nat)
  | 0, l, p => some (l, p)
  | n + 1, l, p => if tK bs p = 1 ∨ tK bs p = 4 then (match itm bs L k l p with
      | none => none
      | some s => itL bs L k n s.1 s.2) else some (l, p)
def items (bs : List Int) (L : Nat → Int) (k p : Nat) : Option (List Int × Nat) := if tK bs p = 1 ∨ tK bs p = 4 then itL bs L k 601 [] p else none
/-- the told rules' lengths; a row made of letters and told rules -/
def LR (L : Nat → Int) (k : Nat) : Prop := k ≤ 40 ∧ ∀ r : Nat, r < k → 1 ≤ L r ∧ L r ≤ 400
def LI (L : Nat → Int) (k : Nat) (l : List Int) : Prop := (∀ x ∈ l, 0 ≤ x ∧ x < 26 + (k : Int)) ∧ ll L l ≤ 400
theorem LI.len {L : Nat → Int} {k : Nat} {l : List Int} (hL : LR L k) (h : LI L k l) : (l.length : Int) ≤ ll L l := by
  refine ll_ge (fun x hx => ?_)
  have := h.1 x hx
  unfold sl
  by_cases q : x < 26
  · rw [if_pos q]; omega
  · rw [if_neg q]; exact (hL.2 _ (by omega)).1
theorem ll_let {L : Nat → Int} : ∀ {l : List Int}, (∀ b ∈ l, b < 26) → ll L l = (l.length : Int)
  | [], _ => rfl
  | x :: l, h => by
    rw [ll_cons, ll_let (fun b hb => h b (List.mem_cons_of_mem _ hb)), sl_26 (h x List.mem_cons_self), List.length_cons]
    omega
theorem letL_rng {bs : List Int} {p : Nat} (hp : p ≤ bs.length) (h : tK bs p = 1) : ∀ x ∈ letL (tkL bs p), 0 ≤ x ∧ x < 26 := by
  intro x hx
  obtain ⟨b, hb, rfl⟩ := List.mem_map.mp hx
  obtain ⟨j, hj, e⟩ := List.getElem_of_mem hb
  have hl := tkL_len hp
  have e2 : (tkL bs p).getD j 0 = b := by rw [← e]; simp [List.getD_eq_getElem?_getD, hj]
  rw [tkL_at (by omega)] at e2
  have hk := kd_1 (by rw [tK_all (Or.inl h) (j := tF bs p + j) (by omega) (by omega)]; exact h)
  rw [e2] at hk
  omega
theorem letL_len (l : List Int) : (letL l).length = l.length := List.length_map ..
theorem itm_inv {bs : List Int} {L : Nat → Int} {k : Nat} {l : List Int} {p : Nat} {s : List Int × Nat} (hL : LR L k) (hp : p ≤ bs.length) (h : LI L k l) (ht : tK bs p = 1 ∨ tK bs p = 4) (e : itm bs L k l p = some s) : LI L k s.1 ∧ p < s.2 ∧ s.2 ≤ bs.length := by
  have hE := tE_le hp
  have hG := tE_gt (bs := bs) (p := p) (by omega) hp
  have hE2 := tE_le hE.2.1
  have hE3 := tE_le hE2.2.1
  unfold itm at e
  by_cases q : tK bs p = 1
  · rw [if_pos q] at e
    by_cases c : 400 < ll L l + ((tE bs p - tF bs p : Nat) : Int)
    · rw [if_pos c] at e; cases e
    · rw [if_neg c] at e
      cases e
      have hr := letL_rng hp q
      have e2 : ll L (letL (tkL bs p)) = ((tE bs p - tF bs p : Nat) : Int) := by rw [ll_let (fun b hb => (hr b hb).2), letL_len, tkL_len hp]
      refine ⟨⟨fun x hx => ?_, ?_⟩, by show p < tE bs p; omega, by show tE bs p ≤ bs.length; omega⟩
      · rcases List.mem_append.mp hx with z | z
        · exact h.1 x z
        · have := hr x z; omega
      · show ll L (l ++ letL (tkL bs p)) ≤ 400
        rw [ll_app, e2]; omega
  · rw [if_neg q] at e
    by_cases c : nbE bs (tE bs p) 0 39 = 0 ∧ l.length < 400 ∧ nV bs (tE bs p) < (k : Int) ∧ ll L l + L (nV bs (tE bs p)).toNat ≤ 400 ∧ tK bs (tE bs (tE bs p)) = 5
    · rw [if_pos c] at e
      cases e
      obtain ⟨c1, c2, c3, c4, c5⟩ := c
      have hv : 0 ≤ nV bs (tE bs p) := by
        unfold nbE at c1
        split at c1
        · cases c1
        · split at c1
          · omega
          · cases c1
      refine ⟨⟨fun x hx => ?_, ?_⟩, by show p < tE bs (tE bs (tE bs p)); omega, by show tE bs (tE bs (tE bs p)) ≤ bs.length; omega⟩
      · rcases List.mem_append.mp hx with z | z
        · exact h.1 x z
        · rw [List.mem_singleton.mp z]; omega
      · show ll L (l ++ [26 + nV bs (tE bs p)]) ≤ 400
        rw [ll_app, ll_cons, ll_nil]
        unfold sl
        rw [if_neg (by omega), show 26 + nV bs (tE bs p) - 26 = nV bs (tE bs p) by omega]
        omega
    · rw [if_neg c] at e; cases e
theorem nb_val {bs : List Int} {p : Nat} {lo hi : Int} (h : nbE bs p lo hi = 0) : tK bs p = 2 ∧ lo ≤ nV bs p ∧ nV bs p ≤ hi := by
  unfold nbE at h
  by_cases q : tK bs p = 2
  · rw [if_neg (by omega)] at h
    by_cases c : lo ≤ nV bs p ∧ nV bs p ≤ hi
    · exact ⟨q, c⟩
    · rw [if_neg c] at h; cases h
  · rw [if_pos q] at h; cases h
theorem gsR2 (g : GS) (i : Nat) (l m : List Int) : gsR (gsR g i l) i m = gsR g i m := by
  unfold gsR
  have : up (up (gR g) i l) i m = up (gR g) i m := funext (fun j => by
    by_cases q : j = i
    · subst q; rw [up_self, up_self]
    · rw [up_ne q, up_ne q, up_ne q])
  show (up (up (gR g) i l) i m, gT g, gL g, gA g, gN g) = _
  rw [this]
section SETC
variable {I J : Mem} {bs : List Int} {g : GS} {i k p : Nat} {l : List Int}
/-- the class reads a row of the trial grammar -/
def CI (I : Mem) (bs : List Int) (g : GS) (i k : Nat) (l : List Int) (p : Nat) : Prop := BfC I bs ∧ GC I 1 (gsR g i l) ∧ TC I bs p ∧ I 7 0 3 = ll (gL g) l ∧ I 7 0 2 = (k : Int)
abbrev FRd : FP := fun k i s => FG 1 k i s ∨ FSx k i s ∨ (k = 7 ∧ s = 3)
def OKC (K : Mem) (bs : List Int) (g : GS) (i k : Nat) (x : Int) : Option (List Int × Nat) → Prop
  | some s => x = 1 ∧ CI K bs g i k s.1 s.2
  | none => x = 0 ∧ ∃ g' : GS, GC K 1 g'
theorem t_gput {t : Nat} {v : Int} (h : GC I t (gsR g i l)) (hi : i < 41) (hl : l.length < 400) : Tr (f_Row_put (rix t i) v I) (fun _ J => GC J t (gsR g i (l ++ [v])) ∧ Fm (FR (rix t i)) I J) := by
  have hr := h.2.1 i hi
  rw [show gR (gsR g i l) i = l from up_self _ _ _] at hr
  refine tr_mono (t_put hr hl v) ?_
  rintro _ K ⟨a, f⟩
  have := h.row hi a f
  rw [gsR2] at this
  exact ⟨this, f⟩
theorem GC.s67 {t : Nat} (h : GC I t g) (f : Fm (fun k _ _ => k = 6 ∨ k = 7) I J) : GC J t g := h.fm f (fun k i s z q => by unfold FG at z; omega)
theorem GC.sx {t : Nat} (h : GC I t g) (f : Fm FSx I J) : GC J t g := h.fm f (fun k i s z q => by unfold FG at z; unfold FSx at q; omega)
theorem fsx_rd : ∀ k i s : Nat, FSx k i s → FRd k i s := fun _ _ _ z => Or.inr (Or.inl z)
theorem fr_rd (hi : i < 41) : ∀ a b c : Nat, FR (rix 1 i) a b c → FRd a b c := fun a b c z => Or.inl (FR_FG hi a b c z)
theorem BfC.rd (h : BfC I bs) (f : Fm FRd I J) : BfC J bs := h.fm f (by unfold FRd FG FSx; omega) (fun s => by unfold FRd FG FSx; omega)
theorem TC.fm {F : FP} (h : TC I bs p) (f : Fm F I J) (hn : ∀ s : Nat, 2 ≤ s → s ≤ 4 → ¬ F 6 0 s) : TC J bs p := ⟨by rw [f.at (by decide) (hn 2 (by decide) (by decide))]; exact h.1, by rw [f.at (by decide) (hn 3 (by decide) (by decide))]; exact h.2.1, by rw [f.at (by decide) (hn 4 (by decide) (by decide))]; exact h.2.2⟩
theorem t_readLetters (hl : bs.length ≤ 600) (hr : ∀ b ∈ bs, 1 ≤ b ∧ b ≤ 255) (hL : LR (gL g) k) (hi : i < 41) (hp : p ≤ bs.length) (hI : LI (gL g) k l) (ht : tK bs p = 1) (h : CI I bs g i k l p) : Tr (f_Set_readLetters (rix 1 i) I) (fun x K => OKC K bs g i k x (itm bs (gL g) k l p) ∧ Fm FRd I K) := by
  obtain ⟨hB, hG, hT, h3, h2⟩ := h
  have hE := tE_le hp
  have hll := hI.len hL
  have hl4 := hI.2
  have hlen := tkL_len hp
  have h43 := rix_lt (t := 1) (by decide) hi
  unfold f_Set_readLetters itm
  rw [if_pos h43, hT.2.1, hT.2.2, h3, if_pos ht, w32_of (x := ll (gL g) l + (((tE bs p : Nat) : Int) - ((tF bs p : Nat) : Int))) (by omega) (by omega)]
  by_cases c : 400 < ll (gL g) l + ((tE bs p - tF bs p : Nat) : Int)
  · rw [if_pos (by omega), if_pos c]
    refine tr_call (t_fail 5) ?_
    rintro x K ⟨rfl, g1, g2⟩
    rw [if_pos (Or.inl rfl)]
    exact tr_ret ⟨⟨rfl, _, hG.sx (g2.mono fec_sx)⟩, g2.mono (fun a b c z => fsx_rd _ _ _ (fec_sx _ _ _ z))⟩
  · rw [if_neg (by omega), if_neg c]
    refine tr_call (P := fun _ K => GC K 1 (gsR g i (l ++ letL (tkL bs p))) ∧ Fm (FR (rix 1 i)) I K) (tr_cnt (fun j => (j : Int)) (fun j K => GC K 1 (gsR g i (l ++ letL ((tkL bs p).take j))) ∧ Fm (FR (rix 1 i)) I K) (tE bs p - tF bs p) rfl ⟨by show GC I 1 (gsR g i (l ++ [])); rw [List.append_nil]; exact hG, Fm.refl _ _⟩ ?_ ?_) ?_
    · rintro j K hj ⟨hGK, f⟩
      have hBK : BfC K bs := hB.fm f (by unfold FR; omega) (fun s => by unfold FR; omega)
      have e3 : K 6 0 3 = ((tF bs p : Nat) : Int) := by rw [f.at (by decide) (by unfold FR; omega)]; exact hT.2.1
      unfold f_Set_readLetters_w31
      rw [w32_of (x := (j : Int)) (by omega) (by omega), w32_of (x := ((tE bs p : Nat) : Int) - ((tF bs p : Nat) : Int)) (by omega) (by omega), if_pos (by omega), e3, show ((tF bs p : Nat) : Int) + (j : Int) = ((tF bs p + j : Nat) : Int) from by omega, c_byteAt hBK hl (by omega), bnd_some]
      refine tr_call (t_gput hGK hi ?_) ?_
      · rw [List.length_append, letL_len, List.length_take]; omega
      · rintro _ M ⟨a, f2⟩
        refine tr_ret ⟨rfl, ?_, f.trans f2⟩
        rw [take_at (d := 0) (by omega), letL, List.map_append, ← List.append_assoc]
        show GC M 1 (gsR g i (l ++ letL ((tkL bs p).take j) ++ [(tkL bs p).getD j 0 - 97]))
        rw [tkL_at hj]
        exact a
    · rintro K ⟨hGK, f⟩
      unfold f_Set_readLetters_w31
      rw [w32_of (x := ((tE bs p - tF bs p : Nat) : Int)) (by omega) (by omega), w32_of (x := ((tE bs p : Nat) : Int) - ((tF bs p : Nat) : Int)) (by omega) (by omega), if_neg (by omega)]
      rw [List.take_of_length_le (by omega)] at hGK
      exact tr_ret ⟨hGK, f⟩
    · rintro _ K ⟨hGK, f⟩
      have e3 : K 6 0 3 = ((tF bs p : Nat) : Int) := by rw [f.at (by decide) (by unfold FR; omega)]; exact hT.2.1
      have e4 : K 6 0 4 = ((tE bs p : Nat) : Int) := by rw [f.at (by decide) (by unfold FR; omega)]; exact hT.2.2
      have e7 : K 7 0 3 = ll (gL g) l := by rw [f.at (by decide) (by unfold FR; omega)]; exact h3
      have e2 : K 7 0 2 = (k : Int) := by rw [f.at (by decide) (by unfold FR; omega)]; exact h2
      try dsimp only [ltI]
      rw [e7]
      have f1 : Fm (fun k _ s => k = 7 ∧ s = 3) K (sI K 7 0 3 (ll (gL g) l + (((tE bs p : Nat) : Int) - ((tF bs p : Nat) : Int)))) := Fm.sI (by decide) (by omega) (by omega) ⟨rfl, rfl⟩
      have a3 : (sI K 7 0 3 (ll (gL g) l + (((tE bs p : Nat) : Int) - ((tF bs p : Nat) : Int)))) 7 0 3 = ll (gL g) (l ++ letL (tkL bs p)) := by
        rw [sI_self, ll_app, ll_let (fun b hb => (letL_rng hp ht b hb).2), letL_len, hlen]
        omega
      generalize sI K 7 0 3 (ll (gL g) l + (((tE bs p : Nat) : Int) - ((tF bs p : Nat) : Int))) = M at f1 a3
      have hBM : BfC M bs := (hB.fm f (by unfold FR; omega) (fun s => by unfold FR; omega)).fm f1 (by omega) (fun s => by omega)
      have hTM : TC M bs p := (hT.fm f (fun s _ _ => by unfold FR; omega)).fm f1 (fun s _ _ => by omega)
      refine tr_call (t_advS hBM hl hr hp hTM) ?_
      rintro _ N ⟨hTN, f2⟩
      refine tr_ret ⟨⟨rfl, hBM.sx f2, ((hGK.fm f1 (fun k i s z q => by unfold FG at z; omega)).sx f2), hTN, ?_, ?_⟩, (f.mono (fr_rd hi)).trans ((f1.mono (fun a b c z => Or.inr (Or.inr z))).trans (f2.mono fsx_rd))⟩
      · rw [f2.at (by decide) (by unfold FSx; omega), a3]
      · rw [f2.at (by decide) (by unfold FSx; omega), f1.at (by decide) (by omega), e2]
theorem t_readRule (hl : bs.length ≤ 600) (hr : ∀ b ∈ bs, 1 ≤ b ∧ b ≤ 255) (hL : LR (gL g) k) (hi : i < 41) (hp : p ≤ bs.length) (hI : LI (gL g) k l) (ht : tK bs p = 4) (h : CI I bs g i k l p) : Tr (f_Set_readRule (rix 1 i) I) (fun x K => OKC K bs g i k x (itm bs (gL g) k l p) ∧ Fm FRd I K) := by
  obtain ⟨hB, hG, hT, h3, h2⟩ := h
  have hE := tE_le hp
  have hll := hI.len hL
  have hl4 := hI.2
  have h43 := rix_lt (t := 1) (by decide) hi
  have hE2 := tE_le hE.2.1
  unfold f_Set_readRule itm
  rw [if_pos h43, if_neg (show ¬ tK bs p = 1 by omega), show wLow 0 = 0 from rfl, show wHig 0 = 39 from rfl]
  refine tr_call (t_advS hB hl hr hp hT) ?_
  rintro _ J1 ⟨t1, f1⟩
  refine tr_call (t_readNumber (hB.sx f1) hl hr hE.2.1 t1 (by omega) (by omega)) ?_
  rintro x J2 ⟨rfl, n1, n2, t2, f2⟩
  have f12 := f1.trans f2
  have hB2 := hB.sx f12
  have hG2 := hG.sx f12
  have bad : ∀ (c : Prop) [Decidable c] (M : Mem) (s : List Int × Nat), ¬ c → (∃ g' : GS, GC M 1 g') → OKC M bs g i k 0 (if c then some s else none) := fun c _ M s hc hM => by
    rw [if_neg hc]
    exact ⟨rfl, hM⟩
  by_cases c1 : nbE bs (tE bs p) 0 39 = 0
  · obtain ⟨v1, v2, v3⟩ := nb_val c1
    have e5 := n1 c1
    have hrow := hG2.2.1 i hi
    rw [show gR (gsR g i l) i = l from up_self _ _ _] at hrow
    have e7 : J2 7 0 2 = (k : Int) := by rw [f12.at (by decide) (by unfold FSx; omega)]; exact h2
    have e73 : J2 7 0 3 = ll (gL g) l := by rw [f12.at (by decide) (by unfold FSx; omega)]; exact h3
    have hk40 := hL.1
    rw [if_neg (wb_pos c1), hrow.2.1, e5, e7, w32_of (x := (l.length : Int)) (by omega) (by omega), w32_of (x := nV bs (tE bs p)) (by omega) (by omega), w32_of (x := (k : Int)) (by omega) (by omega)]
    by_cases c2 : l.length < 400
    · rw [if_pos (by omega)]
      by_cases c3 : nV bs (tE bs p) < (k : Int)
      · have hs : sl (gL (gsR g i l)) (26 + nV bs (tE bs p)) = gL g (nV bs (tE bs p)).toNat := by
          unfold sl
          rw [if_neg (by omega), show 26 + nV bs (tE bs p) - 26 = nV bs (tE bs p) by omega]
          rfl
        have hLr := hL.2 (nV bs (tE bs p)).toNat (by omega)
        rw [if_pos c3, g_lengthOf hG2 (by omega), bnd_some, hs]
        try dsimp only [ltI]
        rw [e73]
        have f3 : Fm (fun k _ s => k = 7 ∧ s = 3) J2 (sI J2 7 0 3 (ll (gL g) l + gL g (nV bs (tE bs p)).toNat)) := Fm.sI (by decide) (by omega) (by omega) ⟨rfl, rfl⟩
        have a3 : (sI J2 7 0 3 (ll (gL g) l + gL g (nV bs (tE bs p)).toNat)) 7 0 3 = ll (gL g) l + gL g (nV bs (tE bs p)).toNat := sI_self _ _ _ _ _
        generalize sI J2 7 0 3 (ll (gL g) l + gL g (nV bs (tE bs p)).toNat) = J3 at f3 a3
        have f123 : Fm FRd I J3 := (f12.mono fsx_rd).trans (f3.mono (fun a b c z => Or.inr (Or.inr z)))
        have hG3 : GC J3 1 (gsR g i l) := hG2.fm f3 (fun k i s z q => by unfold FG at z; omega)
        rw [a3, w32_of (x := ll (gL g) l + gL g (nV bs (tE bs p)).toNat) (by omega) (by omega)]
        by_cases c4 : ll (gL g) l + gL g (nV bs (tE bs p)).toNat ≤ 400
        · have hT3 : TC J3 bs (tE bs p) := t2.fm f3 (fun s _ _ => by omega)
          have hB3 : BfC J3 bs := hB2.fm f3 (by omega) (fun s => by omega)
          rw [if_neg (by omega)]
          refine tr_call (t_gput hG3 hi c2) ?_
          rintro _ J4 ⟨hG4, f4⟩
          have hT4 : TC J4 bs (tE bs p) := hT3.fm f4 (fun s _ _ => by unfold FR; omega)
          have hB4 : BfC J4 bs := hB3.fm f4 (by unfold FR; omega) (fun s => by unfold FR; omega)
          refine tr_call (t_advS hB4 hl hr hE.2.1 hT4) ?_
          rintro _ J5 ⟨hT5, f5⟩
          refine tr_call (t_pass (hB4.sx f5) hl hr hE2.2.1 hT5 (a := 5) (by omega)) ?_
          rintro x J6 ⟨rfl, y1, y2, f6⟩
          have fend : Fm FRd I J6 := f123.trans ((f4.mono (fr_rd hi)).trans ((f5.trans f6).mono fsx_rd))
          have hG6 := hG4.sx (f5.trans f6)
          rw [if_pos (bI_01 _)]
          by_cases c5 : tK bs (tE bs (tE bs p)) = 5
          · refine tr_ret ⟨?_, fend⟩
            rw [if_pos ⟨c1, c2, c3, c4, c5⟩]
            refine ⟨bI_pos c5, (hB4.sx f5).sx f6, hG6, y1 c5, ?_, ?_⟩
            · rw [(f5.trans f6).at (by decide) (by unfold FSx; omega), f4.at (by decide) (by unfold FR; omega), a3, ll_app, ll_cons, ll_nil]
              have hs2 : sl (gL g) (26 + nV bs (tE bs p)) = gL g (nV bs (tE bs p)).toNat := hs
              rw [hs2]
              omega
            · rw [(f5.trans f6).at (by decide) (by unfold FSx; omega), f4.at (by decide) (by unfold FR; omega), f3.at (by decide) (by omega), e7]
          · refine tr_ret ⟨?_, fend⟩
            rw [bI_neg c5]
            exact bad _ _ _ (fun z => c5 z.2.2.2.2) ⟨_, hG6⟩
        · rw [if_pos (by omega)]
          refine tr_call (t_failAt 5 _) ?_
          rintro x K ⟨rfl, g1, g2⟩
          rw [if_pos (Or.inl rfl)]
          exact tr_ret ⟨bad _ _ _ (fun z => c4 z.2.2.2.1) ⟨_, hG3.sx (g2.mono fec_sx)⟩, f123.trans (g2.mono (fun a b c z => fsx_rd _ _ _ (fec_sx _ _ _ z)))⟩
      · rw [if_neg c3]
        refine tr_call (t_fail 4) ?_
        rintro x K ⟨rfl, g1, g2⟩
        rw [if_pos (Or.inl rfl)]
        exact tr_ret ⟨bad _ _ _ (fun z => c3 z.2.2.1) ⟨_, hG2.sx (g2.mono fec_sx)⟩, (f12.trans (g2.mono fec_sx)).mono fsx_rd⟩
    · rw [if_neg (by omega)]
      refine tr_call (t_failAt 5 _) ?_
      rintro x K ⟨rfl, g1, g2⟩
      rw [if_pos (Or.inl rfl)]
      exact tr_ret ⟨bad _ _ _ (fun z => c2 z.2.1) ⟨_, hG2.sx (g2.mono fec_sx)⟩, (f12.trans (g2.mono fec_sx)).mono fsx_rd⟩
  · rw [if_pos (wb_neg c1)]
    exact tr_ret ⟨bad _ _ _ (fun z => c1 z.1) ⟨_, hG2⟩, f12.mono fsx_rd⟩
/-- the items of a row -/
theorem t_itemsL (hl : bs.length ≤ 600) (hr : ∀ b ∈ bs, 1 ≤ b ∧ b ≤ 255) (hL : LR (gL g) k) (hi : i < 41) : ∀ (n m p : Nat) (l : List Int) (I : Mem), m ≤ p → p ≤ bs.length → bs.length - p < n → LI (gL g) k l → CI I bs g i k l p → Tr (whl (f_Set_readItems_w7 (rix 1 i)) (m : Int) I) (fun x K => OKC K bs g i k x (if m = 0 ∧ ¬ (tK bs p = 1 ∨ tK bs p = 4) then none else itL bs (gL g) k n l p) ∧ Fm FRd I K) := by
  intro n
  induction n with
  | zero => intro m p l I _ _ h; omega
  | succ n ih =>
    intro m p l I hm hp hn hI h
    obtain ⟨hB, hG, hT, h3, h2⟩ := id h
    have hkr := tK_rng bs p
    have next : (tK bs p = 1 ∨ tK bs p = 4) → ∀ {e : Option (Int × Mem)}, Tr e (fun x K => OKC K bs g i k x (itm bs (gL g) k l p) ∧ Fm FRd I K) → Tr (bnd e fun x K => if w32 x = 0 then some ((Sum.inr 0 : Int ⊕ Int), K) else some (Sum.inl ((m : Int) + 1), K)) (fun y K => LQ (fun s' J' => Tr (whl (f_Set_readItems_w7 (rix 1 i)) s' J') (fun x K => OKC K bs g i k x (if m = 0 ∧ ¬ (tK bs p = 1 ∨ tK bs p = 4) then none else itL bs (gL g) k (n + 1) l p) ∧ Fm FRd I K)) (fun x K => OKC K bs g i k x (if m = 0 ∧ ¬ (tK bs p = 1 ∨ tK bs p = 4) then none else itL bs (gL g) k (n + 1) l p) ∧ Fm FRd I K) y K) := by
      intro ht e he
      refine tr_call he ?_
      rintro x K ⟨hk, f⟩
      have e1 : (if m = 0 ∧ ¬ (tK bs p = 1 ∨ tK bs p = 4) then none else itL bs (gL g) k (n + 1) l p) = (match itm bs (gL g) k l p with
          | none => none
          | some s => itL bs (gL g) k n s.1 s.2) := by
        rw [if_neg (fun z => z.2 ht)]
        show (if tK bs p = 1 ∨ tK bs p = 4 then _ else _) = _
        rw [if_pos ht]
      cases hc : itm bs (gL g) k l p with
      | none =>
        rw [hc] at hk e1
        obtain ⟨rfl, hg⟩ := hk
        rw [if_pos (by decide)]
        refine tr_ret ?_
        show OKC K bs g i k 0 _ ∧ Fm FRd I K
        rw [e1]
        exact ⟨⟨rfl, hg⟩, f⟩
      | some s =>
        rw [hc] at hk e1
        obtain ⟨rfl, hc2⟩ := hk
        obtain ⟨i1, i2, i3⟩ := itm_inv hL hp hI ht hc
        rw [if_neg (by decide)]
        refine tr_ret ?_
        have := ih (m + 1) s.2 s.1 K (by omega) i3 (by omega) i1 hc2
        rw [if_neg (fun z => by omega)] at this
        refine tr_mono this ?_
        rintro x M ⟨a, b⟩
        rw [e1]
        exact ⟨a, f.trans b⟩
    have step : Tr (f_Set_readItems_w7 (rix 1 i) (m : Int) I) (fun y K => LQ (fun s' J' => Tr (whl (f_Set_readItems_w7 (rix 1 i)) s' J') (fun x K => OKC K bs g i k x (if m = 0 ∧ ¬ (tK bs p = 1 ∨ tK bs p = 4) then none else itL bs (gL g) k (n + 1) l p) ∧ Fm FRd I K)) (fun x K => OKC K bs g i k x (if m = 0 ∧ ¬ (tK bs p = 1 ∨ tK bs p = 4) then none else itL bs (gL g) k (n + 1) l p) ∧ Fm FRd I K) y K) := by
      unfold f_Set_readItems_w7
      rw [w32_of (x := (m : Int)) (by omega) (by omega), if_neg (by omega), c_is hT (by omega), bnd_some]
      by_cases q1 : tK bs p = 1
      · rw [if_neg (wb_pos q1)]
        exact next (Or.inl q1) (t_readLetters hl hr hL hi hp hI q1 h)
      · rw [if_pos (wb_neg q1), c_is hT (by omega), bnd_some]
        by_cases q4 : tK bs p = 4
        · rw [if_neg (wb_pos q4)]
          exact next (Or.inr q4) (t_readRule hl hr hL hi hp hI q4 h)
        · have hno : ¬ (tK bs p = 1 ∨ tK bs p = 4) := by omega
          rw [if_pos (wb_neg q4)]
          by_cases q0 : m = 0
          · rw [if_neg (by omega)]
            refine tr_call (t_fail 1) ?_
            rintro x K ⟨rfl, g1, g2⟩
            rw [if_pos (by decide)]
            refine tr_ret ?_
            show OKC K bs g i k 0 _ ∧ Fm FRd I K
            rw [if_pos ⟨q0, hno⟩]
            exact ⟨⟨rfl, _, hG.sx (g2.mono fec_sx)⟩, g2.mono (fun a b c z => fsx_rd _ _ _ (fec_sx _ _ _ z))⟩
          · rw [if_pos (by omega)]
            refine tr_ret ?_
            show OKC I bs g i k 1 _ ∧ Fm FRd I I
            rw [if_neg (fun z => q0 z.1)]
            show OKC I bs g i k 1 (if tK bs p = 1 ∨ tK bs p = 4 then _ else _) ∧ Fm FRd I I
            rw [if_neg hno]
            exact ⟨⟨rfl, h⟩, Fm.refl _ _⟩
    obtain ⟨y, K, e, hy⟩ := step
    rw [whl_eq, e]
    cases y with
    | inl s => exact hy
    | inr r => exact tr_ret (Q := fun x K => OKC K bs g i k x _ ∧ Fm FRd I K) hy
theorem t_readItems (hl : bs.length ≤ 600) (hr : ∀ b ∈ bs, 1 ≤ b ∧ b ≤ 255) (hL : LR (gL g) k) (hi : i < 41) (hp : p ≤ bs.length) (hB : BfC I bs) (hG : GC I 1 g) (h0 : gR g i = []) (hT : TC I bs p) (h2 : I 7 0 2 = (k : Int)) : Tr (f_Set_readItems (rix 1 i) I) (fun x K => OKC K bs g i k x (items bs (gL g) k p) ∧ Fm FRd I K) := by
  unfold f_Set_readItems
  rw [if_pos (rix_lt (by decide) hi)]
  try dsimp only [ltI]
  have f1 : Fm (fun k _ s => k = 7 ∧ s = 3) I (sI I 7 0 3 0) := Fm.sI (by decide) (by omega) (by omega) ⟨rfl, rfl⟩
  have hc : CI (sI I 7 0 3 0) bs g i k [] p := by
    refine ⟨hB.fm f1 (by omega) (fun s => by omega), ?_, hT.fm f1 (fun s _ _ => by omega), sI_self _ _ _ _ _, by rw [sI_ne (by omega)]; exact h2⟩
    refine GC.congr (hG.fm f1 (fun k i s z q => by unfold FG at z; omega)) (fun j hj => ?_) rfl (fun _ _ => rfl) (fun _ _ => rfl) (fun _ _ => rfl)
    show up (gR g) i [] j = gR g j
    by_cases q : j = i
    · subst q; rw [up_self, h0]
    · rw [up_ne q]
  refine tr_mono (t_itemsL hl hr hL hi 601 0 p [] _ (Nat.zero_le _) hp (by omega) ⟨fun x hx => absurd hx List.not_mem_nil, by rw [ll_nil]; omega⟩ hc) ?_
  rintro x K ⟨a, f⟩
  refine ⟨?_, (f1.mono (fun a b c z => Or.inr (Or.inr z))).trans f⟩
  unfold items
  by_cases q : tK bs p = 1 ∨ tK bs p = 4
  · rw [if_pos q]
    rw [if_neg (fun z => z.2 q)] at a
    exact a
  · rw [if_neg q]
    rw [if_pos ⟨rfl, q⟩] at a
    exact a
end SETC
end
section
/-! ===== the reference's items ===== -/
section SETM
variable {I J : Mem} {bs : List Int} {g : GS} {i k p : Nat} {l : List Int}
def MI (I : Mem) (bs : List Int) (g : GS) (i k : Nat) (l : List Int) (p : Nat) : Prop := BfM I bs ∧ GW I (gsR g i l) ∧ TM I bs p ∧ I 26 0 25 = 0 ∧ I 26 0 29 = ll (gL g) l ∧ ∀ r : Nat, r < k → I 27 5 (26 + r) = gL g r
abbrev FRq : FP := fun k i s => FW k i s ∨ FMx k i s ∨ (k = 26 ∧ i = 0 ∧ s = 29)
def ERR (K : Mem) : Prop := 1 ≤ K 26 0 25 ∧ K 26 0 25 ≤ 5
theorem ERR.of {c : Int} (b : I 26 0 25 = c) (h : 1 ≤ c ∧ c ≤ 5) : ERR I := by unfold ERR; rw [b]; exact h
theorem ERR.ne (h : ERR I) : w32 (I 26 0 25) ≠ 0 := by
  unfold ERR at h
  rw [w32_of (by omega) (by omega)]
  omega
def OKM (K : Mem) (bs : List Int) (g : GS) (i k : Nat) : Option (List Int × Nat) → Prop
  | some s => MI K bs g i k s.1 s.2
  | none => ERR K
theorem fmx_rm : ∀ k i s : Nat, FMx k i s → FRq k i s := fun _ _ _ z => Or.inr (Or.inl z)
theorem fem_rm : ∀ k i s : Nat, FEm k i s → FRq k i s := fun _ _ _ z => Or.inr (Or.inl (fem_mx _ _ _ z))
theorem GW.mx (h : GW I g) (f : Fm FMx I J) : GW J g := h.fm f (fun s _ => by unfold FMx; omega)
theorem BfM.rm (h : BfM I bs) (f : Fm FRq I J) : BfM J bs := h.fm f (by unfold FRq FW FMx; omega) (fun s => by unfold FRq FW FMx; omega)
theorem TM.fm {F : FP} (h : TM I bs p) (f : Fm F I J) (hn : ∀ s : Nat, 21 ≤ s → s ≤ 24 → ¬ F 26 0 s) : TM J bs p := ⟨by rw [f.at (by decide) (hn 23 (by decide) (by decide))]; exact h.1, by rw [f.at (by decide) (hn 21 (by decide) (by decide))]; exact h.2.1, by rw [f.at (by decide) (hn 22 (by decide) (by decide))]; exact h.2.2.1, fun z => by rw [f.at (by decide) (hn 24 (by decide) (by decide))]; exact h.2.2.2 z⟩
theorem km_1 (bs : List Int) (p : Nat) : w32 (kmT (tK bs p)) = 1 ↔ tK bs p = 1 := by
  have hkr := tK_rng bs p
  rcases (show tK bs p = 0 ∨ tK bs p = 1 ∨ tK bs p = 2 ∨ tK bs p = 3 ∨ tK bs p = 4 ∨ tK bs p = 5 ∨ tK bs p = 6 by omega) with z | z | z | z | z | z | z <;> rw [z] <;> decide
theorem km_2 (bs : List Int) (p : Nat) : w32 (kmT (tK bs p)) = 2 ↔ tK bs p = 2 := by
  have hkr := tK_rng bs p
  rcases (show tK bs p = 0 ∨ tK bs p = 1 ∨ tK bs p = 2 ∨ tK bs p = 3 ∨ tK bs p = 4 ∨ tK bs p = 5 ∨ tK bs p = 6 by omega) with z | z | z | z | z | z | z <;> rw [z] <;> decide
theorem km_0 (bs : List Int) (p : Nat) : w32 (kmT (tK bs p)) = 0 ↔ tK bs p = 0 := by
  have hkr := tK_rng bs p
  rcases (show tK bs p = 0 ∨ tK bs p = 1 ∨ tK bs p = 2 ∨ tK bs p = 3 ∨ tK bs p = 4 ∨ tK bs p = 5 ∨ tK bs p = 6 by omega) with z | z | z | z | z | z | z <;> rw [z] <;> decide
theorem fwr_rm : ∀ a b c : Nat, FWR i a b c → FRq a b c := fun a b c z => Or.inl (FWR_FW a b c z)
theorem t_mputR {v : Int} (h : GW I (gsR g i l)) (hi : i < 41) (hl : l.length < 400) : Tr (f_M_adds (i : Int) v I) (fun _ J => GW J (gsR g i (l ++ [v])) ∧ Fm (FWR i) I J) := by
  have e : gR (gsR g i l) i = l := up_self _ _ _
  refine tr_mono (t_madds h hi (by rw [e]; exact hl) v) ?_
  rintro _ K ⟨a, f⟩
  rw [e, gsR2] at a
  exact ⟨a, f⟩
theorem t_wordItem (hl : bs.length ≤ 600) (hr : ∀ b ∈ bs, 1 ≤ b ∧ b ≤ 255) (hL : LR (gL g) k) (hi : i < 41) (hp : p ≤ bs.length) (hI : LI (gL g) k l) (h : MI I bs g i k l p) : Tr (f_M_wordItem (i : Int) I) (fun _ K => OKM K bs g i k (if tK bs p = 1 then itm bs (gL g) k l p else none) ∧ Fm FRq I K) := by
  obtain ⟨hB, hG, hT, he, h29, h5⟩ := h
  have hE := tE_le hp
  have hll := hI.len hL
  have hl4 := hI.2
  have hlen := tkL_len hp
  have er : gR (gsR g i l) i = l := up_self _ _ _
  unfold f_M_wordItem
  rw [hT.1]
  by_cases ht : tK bs p = 1
  · rw [if_pos ((km_1 bs p).mpr ht), mf_0 he (by decide), bnd_some, if_pos (by decide), m_many hG hi, bnd_some, er, hT.2.1, hT.2.2.1, h29, if_pos ht]
    unfold itm
    rw [if_pos ht, w32_of (x := (l.length : Int) + (((tE bs p : Nat) : Int) - ((tF bs p : Nat) : Int))) (by omega) (by omega), w32_of (x := ll (gL g) l + (((tE bs p : Nat) : Int) - ((tF bs p : Nat) : Int))) (by omega) (by omega)]
    by_cases c : 400 < ll (gL g) l + ((tE bs p - tF bs p : Nat) : Int)
    · rw [if_pos c]
      have key : Tr (f_M_wordItem_j53 (i : Int) I) (fun _ K => OKM K bs g i k none ∧ Fm FRq I K) := by
        unfold f_M_wordItem_j53 f_M_wordItem_j58
        refine tr_call (mf_1 he (by decide) (by decide)) ?_
        rintro x K ⟨rfl, b, f⟩
        rw [if_neg (by decide)]
        refine tr_ret ⟨?_, f.mono fem_rm⟩
        exact ERR.of b (by decide)
      by_cases c1 : 400 < (l.length : Int) + (((tE bs p : Nat) : Int) - ((tF bs p : Nat) : Int))
      · rw [if_pos c1]; exact key
      · rw [if_neg c1, if_pos (by omega)]; exact key
    · rw [if_neg c, if_neg (by omega), if_neg (by omega)]
      unfold f_M_wordItem_j58
      rw [mf_0 he (by decide), bnd_some, if_pos (by decide)]
      refine tr_call (P := fun _ K => GW K (gsR g i (l ++ letL (tkL bs p))) ∧ Fm (FWR i) I K) (tr_cnt (fun j => (j : Int)) (fun j K => GW K (gsR g i (l ++ letL ((tkL bs p).take j))) ∧ Fm (FWR i) I K) (tE bs p - tF bs p) rfl ⟨by show GW I (gsR g i (l ++ [])); rw [List.append_nil]; exact hG, Fm.refl _ _⟩ ?_ ?_) ?_
      · rintro j K hj ⟨hGK, f⟩
        have hBK : BfM K bs := hB.fm f (by unfold FWR; omega) (fun s => by unfold FWR; omega)
        have e1 : K 26 0 21 = ((tF bs p : Nat) : Int) := by rw [f.at (by decide) (by unfold FWR; omega)]; exact hT.2.1
        have e2 : K 26 0 22 = ((tE bs p : Nat) : Int) := by rw [f.at (by decide) (by unfold FWR; omega)]; exact hT.2.2.1
        unfold f_M_wordItem_w68
        rw [e1, e2, w32_of (x := (j : Int)) (by omega) (by omega), w32_of (x := ((tE bs p : Nat) : Int) - ((tF bs p : Nat) : Int)) (by omega) (by omega), if_pos (by omega), show ((tF bs p : Nat) : Int) + (j : Int) = ((tF bs p + j : Nat) : Int) from by omega, w32_of (x := ((tF bs p + j : Nat) : Int)) (by omega) (by omega), if_pos (by omega), Int.toNat_natCast, hBK.2 _ (by omega)]
        refine tr_call (t_mputR hGK hi ?_) ?_
        · rw [List.length_append, letL_len, List.length_take]; omega
        · rintro _ M ⟨a, f2⟩
          refine tr_ret ⟨rfl, ?_, f.trans f2⟩
          rw [take_at (d := 0) (by omega), letL, List.map_append, ← List.append_assoc]
          show GW M (gsR g i (l ++ letL ((tkL bs p).take j) ++ [(tkL bs p).getD j 0 - 97]))
          rw [tkL_at hj]
          exact a
      · rintro K ⟨hGK, f⟩
        have e1 : K 26 0 21 = ((tF bs p : Nat) : Int) := by rw [f.at (by decide) (by unfold FWR; omega)]; exact hT.2.1
        have e2 : K 26 0 22 = ((tE bs p : Nat) : Int) := by rw [f.at (by decide) (by unfold FWR; omega)]; exact hT.2.2.1
        unfold f_M_wordItem_w68
        rw [e1, e2, w32_of (x := ((tE bs p - tF bs p : Nat) : Int)) (by omega) (by omega), w32_of (x := ((tE bs p : Nat) : Int) - ((tF bs p : Nat) : Int)) (by omega) (by omega), if_neg (by omega)]
        rw [List.take_of_length_le (by omega)] at hGK
        exact tr_ret ⟨hGK, f⟩
      · rintro _ K ⟨hGK, f⟩
        have fk : ∀ s : Nat, K 26 0 s = I 26 0 s := fun s => f.at (by decide) (by unfold FWR; omega)
        try dsimp only [ltI]
        rw [fk 29, fk 22, fk 21, h29, hT.2.1, hT.2.2.1]
        have f1 : Fm (fun k i s => k = 26 ∧ i = 0 ∧ s = 29) K (sI K 26 0 29 (ll (gL g) l + (((tE bs p : Nat) : Int) - ((tF bs p : Nat) : Int)))) := Fm.sI (by decide) (by omega) (by omega) ⟨rfl, rfl, rfl⟩
        have a3 : (sI K 26 0 29 (ll (gL g) l + (((tE bs p : Nat) : Int) - ((tF bs p : Nat) : Int)))) 26 0 29 = ll (gL g) (l ++ letL (tkL bs p)) := by
          rw [sI_self, ll_app, ll_let (fun b hb => (letL_rng hp ht b hb).2), letL_len, hlen]
          omega
        generalize sI K 26 0 29 (ll (gL g) l + (((tE bs p : Nat) : Int) - ((tF bs p : Nat) : Int))) = M at f1 a3
        have hBM : BfM M bs := (hB.fm f (by unfold FWR; omega) (fun s => by unfold FWR; omega)).fm f1 (by omega) (fun s => by omega)
        have hTM : TM M bs p := (hT.fm f (fun s _ _ => by unfold FWR; omega)).fm f1 (fun s _ _ => by omega)
        refine tr_call (tm_advS hBM hl hr hp hTM) ?_
        rintro _ N ⟨hTN, e25, f2⟩
        refine tr_ret ⟨⟨hBM.mx f2, (hGK.fm f1 (fun s _ z => by omega)).mx f2, hTN, ?_, ?_, fun r hrk => ?_⟩, (f.mono fwr_rm).trans ((f1.mono (fun a b c z => Or.inr (Or.inr z))).trans (f2.mono fmx_rm))⟩
        · rw [e25, f1.at (by decide) (by omega), fk 25, he]
        · rw [f2.at (by decide) (by unfold FMx; omega), a3]
        · rw [f2.at (by decide) (by unfold FMx; omega), f1.at (by decide) (by omega), f.at (by decide) (by unfold FWR; omega)]
          exact h5 r hrk
  · rw [if_neg (fun z => ht ((km_1 bs p).mp z)), if_neg ht]
    refine tr_call (mf_1 he (by decide) (by decide)) ?_
    rintro x K ⟨rfl, b, f⟩
    rw [if_neg (by decide)]
    refine tr_ret ⟨?_, f.mono fem_rm⟩
    exact ERR.of b (by decide)
theorem t_ruleItem (hl : bs.length ≤ 600) (hr : ∀ b ∈ bs, 1 ≤ b ∧ b ≤ 255) (hL : LR (gL g) k) (hi : i < 41) (hp : p ≤ bs.length) (hI : LI (gL g) k l) (ht : tK bs p = 4) (h : MI I bs g i k l p) : Tr (f_M_ruleItem (i : Int) (k : Int) I) (fun _ K => OKM K bs g i k (itm bs (gL g) k l p) ∧ Fm FRq I K) := by
  obtain ⟨hB, hG, hT, he, h29, h5⟩ := h
  have hE := tE_le hp
  have hll := hI.len hL
  have hl4 := hI.2
  have hE2 := tE_le hE.2.1
  have hk40 := hL.1
  have er : gR (gsR g i l) i = l := up_self _ _ _
  have bad : ∀ (c : Prop) [Decidable c] (M : Mem) (s : List Int × Nat), ¬ c → ERR M → OKM M bs g i k (if c then some s else none) := fun c _ M s hc hM => by
    rw [if_neg hc]
    exact hM
  unfold f_M_ruleItem itm
  rw [if_neg (show ¬ tK bs p = 1 by omega)]
  refine tr_call (tm_advS hB hl hr hp hT) ?_
  rintro _ J1 ⟨t1, e1, f1⟩
  have he1 : J1 26 0 25 = 0 := e1.trans he
  rw [t1.1]
  by_cases c2 : tK bs (tE bs p) = 2
  · have hv := nV_rng c2
    rw [if_pos ((km_2 bs _).mpr c2), mf_0 he1 (by decide), bnd_some, if_pos (by decide), t1.2.2.2 c2, w32_of (x := nV bs (tE bs p)) (by omega) (by omega)]
    by_cases c39 : nV bs (tE bs p) < 40
    · have hnb : nbE bs (tE bs p) 0 39 = 0 := by
        unfold nbE
        rw [if_neg (by omega), if_pos (by omega)]
      rw [if_pos c39, mf_0 he1 (by decide), bnd_some, if_pos (by decide), t1.2.2.2 c2, w32_of (x := nV bs (tE bs p)) (by omega) (by omega), w32_of (x := (k : Int)) (by omega) (by omega)]
      by_cases c3 : nV bs (tE bs p) < (k : Int)
      · have hG1 := hG.mx f1
        have hLr := hL.2 (nV bs (tE bs p)).toNat (by omega)
        have e29 : J1 26 0 29 = ll (gL g) l := by rw [f1.at (by decide) (by unfold FMx; omega)]; exact h29
        have e5 : ∀ r : Nat, r < k → J1 27 5 (26 + r) = gL g r := fun r hrk => by rw [f1.at (by decide) (by unfold FMx; omega)]; exact h5 r hrk
        have ev : (26 + nV bs (tE bs p)).toNat = 26 + (nV bs (tE bs p)).toNat := by omega
        rw [if_pos c3, mf_0 he1 (by decide), bnd_some, if_pos (by decide), m_many hG1 hi, bnd_some, er, t1.2.2.2 c2, w32_of (x := (l.length : Int)) (by omega) (by omega), w32_of (x := 26 + nV bs (tE bs p)) (by omega) (by omega), ev, e29, e5 _ (by omega)]
        by_cases c4 : l.length = 400
        · rw [if_pos (by omega)]
          try dsimp only [ltI]
          refine tr_ret ⟨bad _ _ _ (fun z => by have := z.2.1; omega) ?_, (f1.mono fmx_rm).trans ((Fm.sI (by decide) (by omega) (by omega) (Or.inr (Or.inl ⟨rfl, rfl, by omega, by omega⟩))).trans (Fm.sI (by decide) (by omega) (by omega) (Or.inr (Or.inl ⟨rfl, rfl, by omega, by omega⟩))))⟩
          exact ERR.of (by rw [sI_ne (by omega), sI_self]) (by decide)
        · rw [if_neg (by omega), if_pos (by omega), w32_of (x := ll (gL g) l + gL g (nV bs (tE bs p)).toNat) (by omega) (by omega)]
          by_cases c5 : 400 < ll (gL g) l + gL g (nV bs (tE bs p)).toNat
          · rw [if_pos c5]
            try dsimp only [ltI]
            refine tr_ret ⟨bad _ _ _ (fun z => by have := z.2.2.2.1; omega) ?_, (f1.mono fmx_rm).trans ((Fm.sI (by decide) (by omega) (by omega) (Or.inr (Or.inl ⟨rfl, rfl, by omega, by omega⟩))).trans (Fm.sI (by decide) (by omega) (by omega) (Or.inr (Or.inl ⟨rfl, rfl, by omega, by omega⟩))))⟩
            exact ERR.of (by rw [sI_ne (by omega), sI_self]) (by decide)
          · rw [if_neg c5]
            refine tr_call (t_mputR hG1 hi (by omega)) ?_
            rintro _ J2 ⟨hG2, f2⟩
            have fk : ∀ s : Nat, J2 26 0 s = J1 26 0 s := fun s => f2.at (by decide) (by unfold FWR; omega)
            have e52 : J2 27 5 (26 + (nV bs (tE bs p)).toNat) = gL g (nV bs (tE bs p)).toNat := by rw [f2.at (by decide) (by unfold FWR; omega)]; exact e5 _ (by omega)
            try dsimp only [ltI]
            rw [fk 29, e29, e52]
            have f3 : Fm (fun k i s => k = 26 ∧ i = 0 ∧ s = 29) J2 (sI J2 26 0 29 (ll (gL g) l + gL g (nV bs (tE bs p)).toNat)) := Fm.sI (by decide) (by omega) (by omega) ⟨rfl, rfl, rfl⟩
            have a3 : (sI J2 26 0 29 (ll (gL g) l + gL g (nV bs (tE bs p)).toNat)) 26 0 29 = ll (gL g) l + gL g (nV bs (tE bs p)).toNat := sI_self _ _ _ _ _
            generalize sI J2 26 0 29 (ll (gL g) l + gL g (nV bs (tE bs p)).toNat) = J3 at f3 a3
            have hB3 : BfM J3 bs := ((hB.mx f1).fm f2 (by unfold FWR; omega) (fun s => by unfold FWR; omega)).fm f3 (by omega) (fun s => by omega)
            have hT3 : TM J3 bs (tE bs p) := (t1.fm f2 (fun s _ _ => by unfold FWR; omega)).fm f3 (fun s _ _ => by omega)
            have hG3 := hG2.fm f3 (fun s _ z => by omega)
            refine tr_call (tm_advS hB3 hl hr hE.2.1 hT3) ?_
            rintro _ J4 ⟨hT4, e4, f4⟩
            have he4 : J4 26 0 25 = 0 := by rw [e4, f3.at (by decide) (by omega), fk 25, he1]
            refine tr_call (t_takesSign (hB3.mx f4) hl hr hE2.2.1 hT4 he4 (c := 41) (k := 5) (by omega)) ?_
            rintro _ J5 ⟨y1, y2, f5⟩
            have fend : Fm FRq I J5 := (f1.mono fmx_rm).trans ((f2.mono fwr_rm).trans ((f3.mono (fun a b c z => Or.inr (Or.inr z))).trans ((f4.trans f5).mono fmx_rm)))
            by_cases c6 : tK bs (tE bs (tE bs p)) = 5
            · obtain ⟨y3, y4⟩ := y1 c6
              refine tr_ret ⟨?_, fend⟩
              rw [if_pos ⟨hnb, by omega, c3, by omega, c6⟩]
              refine ⟨hB3.mx (f4.trans f5), hG3.mx (f4.trans f5), y3, y4, ?_, fun r hrk => ?_⟩
              · rw [(f4.trans f5).at (by decide) (by unfold FMx; omega), a3, ll_app, ll_cons, ll_nil]
                have hs2 : sl (gL g) (26 + nV bs (tE bs p)) = gL g (nV bs (tE bs p)).toNat := by
                  unfold sl
                  rw [if_neg (by omega), show 26 + nV bs (tE bs p) - 26 = nV bs (tE bs p) by omega]
                rw [hs2]
                omega
              · rw [(f4.trans f5).at (by decide) (by unfold FMx; omega), f3.at (by decide) (by omega), f2.at (by decide) (by unfold FWR; omega)]
                exact e5 r hrk
            · refine tr_ret ⟨bad _ _ _ (fun z => c6 z.2.2.2.2) ?_, fend⟩
              exact ERR.of (y2 c6) (by decide)
      · rw [if_neg c3]
        refine tr_call (mf_1 he1 (by decide) (by decide)) ?_
        rintro x K ⟨rfl, b, f⟩
        rw [if_neg (by decide)]
        exact tr_ret ⟨bad _ _ _ (fun z => c3 z.2.2.1) (ERR.of b (by decide)), (f1.mono fmx_rm).trans (f.mono fem_rm)⟩
    · rw [if_neg c39]
      refine tr_call (mf_1 he1 (by decide) (by decide)) ?_
      rintro x K ⟨rfl, b, f⟩
      rw [if_neg (by decide)]
      exact tr_ret ⟨bad _ _ _ (fun z => by have := (nb_val z.1).2.2; omega) (ERR.of b (by decide)), (f1.mono fmx_rm).trans (f.mono fem_rm)⟩
  · rw [if_neg (fun z => c2 ((km_2 bs _).mp z))]
    refine tr_call (mf_1 he1 (by decide) (by decide)) ?_
    rintro x K ⟨rfl, b, f⟩
    rw [if_neg (by decide)]
    exact tr_ret ⟨bad _ _ _ (fun z => c2 (nb_val z.1).1) (ERR.of b (by decide)), (f1.mono fmx_rm).trans (f.mono fem_rm)⟩
theorem itL_stop {L : Nat → Int} (h : ¬ (tK bs p = 1 ∨ tK bs p = 4)) : ∀ n : Nat, itL bs L k n l p = some (l, p)
  | 0 => rfl
  | n + 1 => by
    show (if tK bs p = 1 ∨ tK bs p = 4 then _ else _) = _
    rw [if_neg h]
theorem w11_err (a b : Int) (he : w32 (I 26 0 25) ≠ 0) {s : Int} : whl (f_M_items_w11 a b) s I = some ((), I) := by
  rw [whl_eq]
  unfold f_M_items_w11
  by_cases q : w32 s = 0
  · rw [if_pos q]
  · rw [if_neg q, if_neg he]
theorem w11_0 (a b : Int) : whl (f_M_items_w11 a b) 0 I = some ((), I) := by
  rw [whl_eq]
  unfold f_M_items_w11
  rw [if_pos (by decide)]
theorem t_mitemsL (hl : bs.length ≤ 600) (hr : ∀ b ∈ bs, 1 ≤ b ∧ b ≤ 255) (hL : LR (gL g) k) (hi : i < 41) : ∀ (n p : Nat) (l : List Int) (I : Mem), p ≤ bs.length → bs.length - p < n → LI (gL g) k l → MI I bs g i k l p → Tr (whl (f_M_items_w11 (i : Int) (k : Int)) 1 I) (fun _ K => OKM K bs g i k (if tK bs p = 1 ∨ tK bs p = 4 then itL bs (gL g) k n l p else none) ∧ Fm FRq I K) := by
  intro n
  induction n with
  | zero => intro p l I _ h; omega
  | succ n ih =>
    intro p l I hp hn hI h
    obtain ⟨hB, hG, hT, he, h29, h5⟩ := id h
    have hkr := tK_rng bs p
    -- behind an item
    have next : ∀ (o : Option (List Int × Nat)), (o = if tK bs p = 1 ∨ tK bs p = 4 then itm bs (gL g) k l p else none) → ∀ {e : Option (Unit × Mem)}, Tr e (fun _ K => OKM K bs g i k o ∧ Fm FRq I K) → Tr (bnd e fun _ K => f_M_items_j45 (i : Int) (k : Int) K) (fun y K => LQ (fun s' J' => Tr (whl (f_M_items_w11 (i : Int) (k : Int)) s' J') (fun _ K => OKM K bs g i k (if tK bs p = 1 ∨ tK bs p = 4 then itL bs (gL g) k (n + 1) l p else none) ∧ Fm FRq I K)) (fun _ K => OKM K bs g i k (if tK bs p = 1 ∨ tK bs p = 4 then itL bs (gL g) k (n + 1) l p else none) ∧ Fm FRq I K) y K) := by
      intro o ho e hc
      refine tr_call hc ?_
      rintro _ K ⟨hk, f⟩
      unfold f_M_items_j45
      cases o with
      | none =>
        have hres : (if tK bs p = 1 ∨ tK bs p = 4 then itL bs (gL g) k (n + 1) l p else none) = none := by
          by_cases q : tK bs p = 1 ∨ tK bs p = 4
          · rw [if_pos q] at ho ⊢
            show (if tK bs p = 1 ∨ tK bs p = 4 then _ else _) = _
            rw [if_pos q, ← ho]
          · rw [if_neg q]
        have hkE : ERR K := hk
        have hk := hkE.ne
        have fin : ∀ s : Int, Tr (whl (f_M_items_w11 (i : Int) (k : Int)) s K) (fun _ K => OKM K bs g i k (if tK bs p = 1 ∨ tK bs p = 4 then itL bs (gL g) k (n + 1) l p else none) ∧ Fm FRq I K) := fun s => by
          rw [w11_err _ _ hk, hres]
          exact tr_ret ⟨hkE, f⟩
        by_cases q : w32 (K 26 0 23) = 1
        · rw [if_pos q]
          exact tr_ret (fin 1)
        · rw [if_neg q, m_isSignE hk, bnd_some, if_pos (by decide)]
          exact tr_ret (fin 0)
      | some s =>
        have hq : tK bs p = 1 ∨ tK bs p = 4 := by
          refine Classical.byContradiction fun q => ?_
          rw [if_neg q] at ho
          cases ho
        rw [if_pos hq] at ho
        obtain ⟨i1, i2, i3⟩ := itm_inv hL hp hI hq ho.symm
        have hres : (if tK bs p = 1 ∨ tK bs p = 4 then itL bs (gL g) k (n + 1) l p else none) = itL bs (gL g) k n s.1 s.2 := by
          rw [if_pos hq]
          show (if tK bs p = 1 ∨ tK bs p = 4 then _ else _) = _
          rw [if_pos hq, ← ho]
        have hk : MI K bs g i k s.1 s.2 := hk
        obtain ⟨kB, kG, kT, ke, k29, k5⟩ := id hk
        rw [kT.1]
        have go : tK bs s.2 = 1 ∨ tK bs s.2 = 4 → Tr (whl (f_M_items_w11 (i : Int) (k : Int)) 1 K) (fun _ K => OKM K bs g i k (if tK bs p = 1 ∨ tK bs p = 4 then itL bs (gL g) k (n + 1) l p else none) ∧ Fm FRq I K) := fun z => by
          refine tr_mono (ih s.2 s.1 K i3 (by omega) i1 hk) ?_
          rintro _ M ⟨a, b⟩
          rw [if_pos z] at a
          rw [hres]
          exact ⟨a, f.trans b⟩
        by_cases q1 : tK bs s.2 = 1
        · rw [if_pos ((km_1 bs _).mpr q1)]
          exact tr_ret (go (Or.inl q1))
        · rw [if_neg (fun z => q1 ((km_1 bs _).mp z)), m_isSign kB hl hr i3 kT ke (c := 40) (k := 4) (by omega), bnd_some]
          by_cases q4 : tK bs s.2 = 4
          · rw [if_neg (wb_pos q4)]
            exact tr_ret (go (Or.inr q4))
          · rw [if_pos (wb_neg q4)]
            refine tr_ret ?_
            show Tr (whl (f_M_items_w11 (i : Int) (k : Int)) 0 K) _
            rw [w11_0, hres, itL_stop (by omega)]
            exact tr_ret ⟨hk, f⟩
    have step : Tr (f_M_items_w11 (i : Int) (k : Int) 1 I) (fun y K => LQ (fun s' J' => Tr (whl (f_M_items_w11 (i : Int) (k : Int)) s' J') (fun _ K => OKM K bs g i k (if tK bs p = 1 ∨ tK bs p = 4 then itL bs (gL g) k (n + 1) l p else none) ∧ Fm FRq I K)) (fun _ K => OKM K bs g i k (if tK bs p = 1 ∨ tK bs p = 4 then itL bs (gL g) k (n + 1) l p else none) ∧ Fm FRq I K) y K) := by
      unfold f_M_items_w11
      rw [if_neg (by decide), he, if_pos (by decide), m_isSign hB hl hr hp hT he (c := 40) (k := 4) (by omega), bnd_some]
      by_cases q4 : tK bs p = 4
      · rw [if_neg (wb_pos q4)]
        exact next _ (by rw [if_pos (Or.inr q4)]) (t_ruleItem hl hr hL hi hp hI q4 h)
      · rw [if_pos (wb_neg q4)]
        refine next _ ?_ (t_wordItem hl hr hL hi hp hI h)
        by_cases q1 : tK bs p = 1
        · rw [if_pos q1, if_pos (Or.inl q1)]
        · rw [if_neg q1, if_neg (by omega)]
    obtain ⟨y, K, e, hy⟩ := step
    rw [whl_eq, e]
    cases y with
    | inl s => exact hy
    | inr r => exact tr_ret (Q := fun _ K => OKM K bs g i k _ ∧ Fm FRq I K) hy
abbrev FRn : FP := fun k i s => FRq k i s ∨ FL k i s
theorem t_mitems (hl : bs.length ≤ 600) (hr : ∀ b ∈ bs, 1 ≤ b ∧ b ≤ 255) (hL : LR (gL g) k) (hi : i < 41) (hp : p ≤ bs.length) (hB : BfM I bs) (hG : GW I g) (w : PWF g) (hne : ∀ r : Nat, r < k → gR g (r + 1) ≠ []) (h0 : gR g i = []) (hT : TM I bs p) (he : I 26 0 25 = 0) : Tr (f_M_items (i : Int) (k : Int) I) (fun _ K => OKM K bs g i k (items bs (gL g) k p) ∧ Fm FRn I K) := by
  unfold f_M_items
  try dsimp only [ltI]
  have f1 : Fm (fun k i s => k = 26 ∧ i = 0 ∧ s = 29) I (sI I 26 0 29 0) := Fm.sI (by decide) (by omega) (by omega) ⟨rfl, rfl, rfl⟩
  have e29 : (sI I 26 0 29 0) 26 0 29 = 0 := sI_self _ _ _ _ _
  generalize sI I 26 0 29 0 = J at f1 e29
  have hGJ : GW J g := hG.fm f1 (fun s _ z => by omega)
  refine tr_call (t_laysLengthsP hGJ w) ?_
  rintro _ K ⟨hLN, hGK, f2⟩
  have hBK : BfM K bs := (hB.fm f1 (by omega) (fun s => by omega)).fm f2 (by unfold FL; omega) (fun s => by unfold FL; omega)
  have hTK : TM K bs p := (hT.fm f1 (fun s _ _ => by omega)).fm f2 (fun s _ _ => by unfold FL; omega)
  have hk40 := hL.1
  have hc : MI K bs g i k [] p := by
    refine ⟨hBK, ?_, hTK, ?_, ?_, fun r hrk => (hLN.2 r (by omega) (hne r hrk)).1⟩
    · refine GW.congr hGK (fun j hj => ?_) rfl (fun _ _ => rfl) (fun _ _ => rfl)
      show up (gR g) i [] j = gR g j
      by_cases q : j = i
      · subst q; rw [up_self, h0]
      · rw [up_ne q]
    · rw [f2.at (by decide) (by unfold FL; omega), f1.at (by decide) (by omega), he]
    · rw [f2.at (by decide) (by unfold FL; omega), e29]; rfl
  refine tr_call (P := fun _ M => OKM M bs g i k (items bs (gL g) k p) ∧ Fm FRn I M) (tr_mono (t_mitemsL hl hr hL hi 601 p [] K hp (by omega) ⟨fun x hx => absurd hx List.not_mem_nil, by rw [ll_nil]; omega⟩ hc) ?_) (fun _ _ q => tr_ret q)
  rintro _ M ⟨a, f⟩
  exact ⟨a, (f1.mono (fun a b c z => Or.inl (Or.inr (Or.inr z)))).trans ((f2.mono (fun a b c z => Or.inr z)).trans (f.mono (fun a b c z => Or.inl z)))⟩
end SETM
end
section
/-! ===== setups, second part: rules, start, statements; the class's reading ===== -/
def NR (g : GS) : Prop := (2 ≤ gN g 0 ∧ gN g 0 ≤ 9) ∧ (0 ≤ gN g 1 ∧ gN g 1 ≤ 2) ∧ (0 ≤ gN g 2 ∧ gN g 2 ≤ 1)
def PG (g : GS) (k : Nat) : Prop := k ≤ 40 ∧ (∀ r : Nat, r < k → 2 ≤ (gR g (r + 1)).length ∧ gL g r = ll (gL g) (gR g (r + 1)) ∧ gL g r ≤ 400 ∧ 1 ≤ gL g r ∧ ∀ x ∈ gR g (r + 1), 0 ≤ x ∧ x < 26 + (r : Int)) ∧ (∀ r : Nat, k ≤ r → r < 40 → gR g (r + 1) = []) ∧ gR g 0 = [] ∧ NR g
theorem PG.lr {g : GS} {k : Nat} (h : PG g k) : LR (gL g) k := ⟨h.1, fun r hr => ⟨(h.2.1 r hr).2.2.2.1, (h.2.1 r hr).2.2.1⟩⟩
theorem PG.ne {g : GS} {k : Nat} (h : PG g k) : ∀ r : Nat, r < k → gR g (r + 1) ≠ [] := fun r hr e => by
  have := (h.2.1 r hr).1
  rw [e] at this
  exact absurd this (by decide)
/-- a grammar whose rules are told, with a row at its start -/
theorem PG.wpS {g : GS} {k : Nat} (h : PG g k) {l : List Int} (hI : LI (gL g) k l) : PWF (gsR g 0 l) := by
  have sym : ∀ (n : Nat) (x : Int), n ≤ k → 0 ≤ x → x < 26 + (n : Int) → SYr (gR (gsR g 0 l)) x := fun n x hn h0 h1 => by
    have hk := h.1
    refine ⟨h0, by omega, fun h26 => ?_⟩
    show up (gR g) 0 l ((x - 26).toNat + 1) ≠ []
    rw [up_ne (by omega)]
    exact h.ne _ (by omega)
  refine ⟨fun i hi x hx => ?_, fun r hr hn => ?_, ?_⟩
  · have hx : x ∈ up (gR g) 0 l i := hx
    by_cases q : i = 0
    · subst q
      rw [up_self] at hx
      have := hI.1 x hx
      exact sym k x (Nat.le_refl _) this.1 this.2
    · rw [up_ne q] at hx
      obtain ⟨r, rfl⟩ : ∃ r : Nat, i = r + 1 := ⟨i - 1, by omega⟩
      by_cases hrk : r < k
      · have := (h.2.1 r hrk).2.2.2.2 x hx
        exact sym r x (by omega) this.1 this.2
      · rw [h.2.2.1 r (by omega) (by omega)] at hx
        exact absurd hx List.not_mem_nil
  · have e : gR (gsR g 0 l) (r + 1) = gR g (r + 1) := up_ne (f := gR g) (k := 0) (v := l) (j := r + 1) (by omega)
    rw [e] at hn ⊢
    have hrk : r < k := by
      refine Classical.byContradiction fun q => hn (h.2.2.1 r (by omega) hr)
    obtain ⟨a, b, c, d, -⟩ := h.2.1 r hrk
    exact ⟨a, b, c, d⟩
  · show ll (gL g) (up (gR g) 0 l 0) ≤ 400
    rw [up_self]
    exact hI.2
theorem PG.wp {g : GS} {k : Nat} (h : PG g k) : PWF g := by
  have hw := h.wpS (l := []) ⟨fun x hx => absurd hx List.not_mem_nil, by rw [ll_nil]; decide⟩
  have e : gsR g 0 [] = g := by
    unfold gsR
    have : up (gR g) 0 [] = gR g := funext (fun j => by
      by_cases q : j = 0
      · subst q; rw [up_self, h.2.2.2.1]
      · rw [up_ne q])
    rw [this]
  rw [e] at hw
  exact hw
theorem itm_grow {bs : List Int} {L : Nat → Int} {k : Nat} {l : List Int} {p : Nat} {s : List Int × Nat} (hp : p ≤ bs.length) (ht : tK bs p = 1 ∨ tK bs p = 4) (e : itm bs L k l p = some s) : l.length < s.1.length := by
  have hG := tE_gt (bs := bs) (p := p) (by omega) hp
  unfold itm at e
  by_cases q : tK bs p = 1
  · rw [if_pos q] at e
    by_cases c : 400 < ll L l + ((tE bs p - tF bs p : Nat) : Int)
    · rw [if_pos c] at e; cases e
    · rw [if_neg c] at e
      cases e
      show l.length < (l ++ letL (tkL bs p)).length
      rw [List.length_append, letL_len, tkL_len hp]
      omega
  · rw [if_neg q] at e
    by_cases c : nbE bs (tE bs p) 0 39 = 0 ∧ l.length < 400 ∧ nV bs (tE bs p) < (k : Int) ∧ ll L l + L (nV bs (tE bs p)).toNat ≤ 400 ∧ tK bs (tE bs (tE bs p)) = 5
    · rw [if_pos c] at e
      cases e
      show l.length < (l ++ [26 + nV bs (tE bs p)]).length
      rw [List.length_append]
      show l.length < l.length + 1
      omega
    · rw [if_neg c] at e; cases e
theorem itL_inv {bs : List Int} {L : Nat → Int} {k : Nat} (hL : LR L k) : ∀ (n : Nat) (l : List Int) (p : Nat) (s : List Int × Nat), p ≤ bs.length → LI L k l → itL bs L k n l p = some s → LI L k s.1 ∧ p ≤ s.2 ∧ s.2 ≤ bs.length ∧ l.length ≤ s.1.length
  | 0, l, p, s, hp, hI, e => by cases e; exact ⟨hI, Nat.le_refl _, hp, Nat.le_refl _⟩
  | n + 1, l, p, s, hp, hI, e => by
    have e : (if tK bs p = 1 ∨ tK bs p = 4 then (match itm bs L k l p with
      | none => none
      | some s => itL bs L k n s.1 s.2) else some (l, p)) = some s := e
    by_cases q : tK bs p = 1 ∨ tK bs p = 4
    · rw [if_pos q] at e
      cases hc : itm bs L k l p with
      | none => rw [hc] at e; cases e
      | some s' =>
        rw [hc] at e
        obtain ⟨i1, i2, i3⟩ := itm_inv hL hp hI q hc
        have i4 := itm_grow hp q hc
        obtain ⟨j1, j2, j3, j4⟩ := itL_inv hL n s'.1 s'.2 s i3 i1 e
        exact ⟨j1, by omega, j3, by omega⟩
    · rw [if_neg q] at e
      cases e
      exact ⟨hI, Nat.le_refl _, hp, Nat.le_refl _⟩
theorem items_inv {bs : List Int} {L : Nat → Int} {k p : Nat} {s : List Int × Nat} (hL : LR L k) (hp : p ≤ bs.length) (e : items bs L k p = some s) : LI L k s.1 ∧ p < s.2 ∧ s.2 ≤ bs.length ∧ 1 ≤ s.1.length := by
  have hI : LI L k [] := ⟨fun x hx => absurd hx List.not_mem_nil, by rw [ll_nil]; decide⟩
  unfold items at e
  by_cases q : tK bs p = 1 ∨ tK bs p = 4
  · rw [if_pos q] at e
    have e : (if tK bs p = 1 ∨ tK bs p = 4 then (match itm bs L k [] p with
      | none => none
      | some s => itL bs L k 600 s.1 s.2) else some ([], p)) = some s := e
    rw [if_pos q] at e
    cases hc : itm bs L k [] p with
    | none => rw [hc] at e; cases e
    | some s' =>
      rw [hc] at e
      obtain ⟨i1, i2, i3⟩ := itm_inv hL hp hI q hc
      have i4 := itm_grow hp q hc
      obtain ⟨j1, j2, j3, j4⟩ := itL_inv hL 600 s'.1 s'.2 s i3 i1 e
      exact ⟨j1, by omega, j3, by omega⟩
  · rw [if_neg q] at e; cases e
/-- a rule's line -/
def rlN (bs : List Int) (g : GS) (k p : Nat) : Option (GS × Nat) := match items bs (gL g) k (tE bs p) with
  | none => none
  | some s => if tK bs s.2 = 3 ∧ 2 ≤ s.1.length then some (gsL (gsR g (k + 1) s.1) k (ll (gL g) s.1), tE bs s.2) else none
def rls (bs : List Int) : Nat → GS → Nat → Nat → Option (GS × Nat × Nat)
  | 0, _, _, _ => none
  | n + 1, g, k, p => if wd bs p = 0 then (if k = 40 then none else (match rlN bs g k p with
      | none => none
      | some s => rls bs n s.1 (k + 1) s.2)) else some (g, k, p)
theorem PG.rl {bs : List Int} {g : GS} {k p : Nat} {l : List Int} (h : PG g k) (hk : k < 40) (hI : LI (gL g) k l) (h2 : 2 ≤ l.length) : PG (gsL (gsR g (k + 1) l) k (ll (gL g) l)) (k + 1) := by
  have hlen := hI.len h.lr
  have hl4 := hI.2
  have slc : ∀ x : Int, 0 ≤ x → x < 26 + (k : Int) → sl (up (gL g) k (ll (gL g) l)) x = sl (gL g) x := fun x h0 h1 => sl_up (by omega) h0
  refine ⟨by omega, fun r hr => ?_, fun r h1 h3 => ?_, ?_, h.2.2.2.2⟩
  · show 2 ≤ (up (gR g) (k + 1) l (r + 1)).length ∧ up (gL g) k (ll (gL g) l) r = ll (up (gL g) k (ll (gL g) l)) (up (gR g) (k + 1) l (r + 1)) ∧ up (gL g) k (ll (gL g) l) r ≤ 400 ∧ 1 ≤ up (gL g) k (ll (gL g) l) r ∧ ∀ x ∈ up (gR g) (k + 1) l (r + 1), 0 ≤ x ∧ x < 26 + (r : Int)
    by_cases q : r = k
    · subst q
      rw [up_self, up_self]
      exact ⟨h2, (ll_congr (fun x hx => slc x (hI.1 x hx).1 (hI.1 x hx).2)).symm, hl4, by omega, fun x hx => hI.1 x hx⟩
    · rw [up_ne (by omega), up_ne q]
      obtain ⟨a, b, c, d, e⟩ := h.2.1 r (by omega)
      refine ⟨a, ?_, c, d, e⟩
      rw [ll_congr (fun x hx => slc x (e x hx).1 (by have := (e x hx).2; omega))]
      exact b
  · show up (gR g) (k + 1) l (r + 1) = []
    rw [up_ne (by omega)]
    exact h.2.2.1 r (by omega) h3
  · show up (gR g) (k + 1) l 0 = []
    rw [up_ne (by omega)]
    exact h.2.2.2.1
def stP (bs : List Int) (g : GS) (k p : Nat) : Option (GS × Nat) := if wd bs p = 1 then (match items bs (gL g) k (tE bs p) with
  | none => none
  | some s => some (gsR g 0 s.1, s.2)) else none
def wj (w : Nat) : Nat := if w = 3 then 0 else if w = 4 then 1 else 2
def stm (bs : List Int) (g : GS) (f : Nat → Bool) (q : Nat) : Option (GS × (Nat → Bool) × Nat) :=
  if (wd bs q = 3 ∨ wd bs q = 4 ∨ wd bs q = 2) ∧ f (wj (wd bs q)) = false ∧ nbE bs (tE bs q) (wLow (wd bs q)) (wHig (wd bs q)) = 0 then some (gsN g (wj (wd bs q)) (nV bs (tE bs q)), (fun j => if j = wj (wd bs q) then true else f j), tE bs (tE bs q)) else none
def sts (bs : List Int) : Nat → GS → (Nat → Bool) → Nat → Option GS
  | 0, _, _, _ => none
  | n + 1, g, f, p => if tK bs p = 0 then some g else if tK bs p = 3 then (match stm bs g f (tE bs p) with
      | none => none
      | some s => sts bs n s.1 s.2.1 s.2.2) else none
def setP (bs : List Int) : Option GS := match rls bs 41 g0 0 0 with
  | none => none
  | some s => match stP bs s.1 s.2.1 s.2.2 with
    | none => none
    | some t => sts bs 601 t.1 (fun _ => false) t.2
/-- a grammar as it is told, but for its text -/
def TG (g : GS) : Prop := PWF g ∧ NR g ∧ 1 ≤ (gR g 0).length
theorem TG.stmP {bs : List Int} {g : GS} {f : Nat → Bool} {q : Nat} {s : GS × (Nat → Bool) × Nat} (h : TG g) (hq : q ≤ bs.length) (e : stm bs g f q = some s) : TG s.1 ∧ q ≤ s.2.2 ∧ s.2.2 ≤ bs.length := by
  unfold stm at e
  by_cases c : (wd bs q = 3 ∨ wd bs q = 4 ∨ wd bs q = 2) ∧ f (wj (wd bs q)) = false ∧ nbE bs (tE bs q) (wLow (wd bs q)) (wHig (wd bs q)) = 0
  · rw [if_pos c] at e
    cases e
    have hE := tE_le hq
    have hE2 := tE_le hE.2.1
    obtain ⟨c1, -, c3⟩ := c
    obtain ⟨-, v1, v2⟩ := nb_val c3
    refine ⟨⟨h.1, ?_, h.2.2⟩, by show q ≤ tE bs (tE bs q); omega, by show tE bs (tE bs q) ≤ bs.length; omega⟩
    obtain ⟨n0, n1, n2⟩ := h.2.1
    show (2 ≤ up (gN g) (wj (wd bs q)) (nV bs (tE bs q)) 0 ∧ up (gN g) (wj (wd bs q)) (nV bs (tE bs q)) 0 ≤ 9) ∧ (0 ≤ up (gN g) (wj (wd bs q)) (nV bs (tE bs q)) 1 ∧ up (gN g) (wj (wd bs q)) (nV bs (tE bs q)) 1 ≤ 2) ∧ (0 ≤ up (gN g) (wj (wd bs q)) (nV bs (tE bs q)) 2 ∧ up (gN g) (wj (wd bs q)) (nV bs (tE bs q)) 2 ≤ 1)
    rcases c1 with c1 | c1 | c1 <;> rw [c1] at v1 v2 ⊢
    · rw [show wj 3 = 0 from rfl, up_self, up_ne (by decide), up_ne (by decide)]
      exact ⟨⟨v1, v2⟩, n1, n2⟩
    · rw [show wj 4 = 1 from rfl, up_self, up_ne (by decide), up_ne (by decide)]
      exact ⟨n0, ⟨v1, v2⟩, n2⟩
    · rw [show wj 2 = 2 from rfl, up_self, up_ne (by decide), up_ne (by decide)]
      exact ⟨n0, n1, ⟨v1, v2⟩⟩
  · rw [if_neg c] at e; cases e
theorem TG.wf {g : GS} (h : TG g) : WF (gBegin g (gTx g)) := by
  obtain ⟨w, n, h1⟩ := h
  have hl := w.lle (i := 0) (by decide)
  have ht := gTx_lenP w
  refine ⟨w.1, w.2.1, ?_, ?_, ?_, n.1, n.2.1, n.2.2⟩
  · show ll (gL g) (gR g 0) = ((gTx g).length : Int)
    omega
  · show 1 ≤ (gTx g).length
    omega
  · show (gTx g).length ≤ 400
    omega
theorem tr_step {σ ρ : Type} {step : σ → Mem → Option ((σ ⊕ ρ) × Mem)} {s : σ} {I : Mem} {Q : ρ → Mem → Prop} (h : Tr (step s I) (LQ (fun s' J => Tr (whl step s' J) Q) Q)) : Tr (whl step s I) Q := by
  obtain ⟨y, K, e, hy⟩ := h
  rw [whl_eq, e]
  cases y with
  | inl s => exact hy
  | inr r => exact tr_ret (Q := Q) hy
section CSET
variable {I J : Mem} {bs : List Int} {g : GS} {i k p : Nat} {l : List Int}
abbrev FRr : FP := fun k i s => FG 1 k i s ∨ FSx k i s ∨ (k = 7 ∧ (s = 2 ∨ s = 3))
theorem frd_r : ∀ k i s : Nat, FRd k i s → FRr k i s := fun k i s z => by unfold FRd at z; unfold FRr; omega
theorem fsx_r : ∀ k i s : Nat, FSx k i s → FRr k i s := fun k i s z => Or.inr (Or.inl z)
theorem BfC.rr (h : BfC I bs) (f : Fm FRr I J) : BfC J bs := h.fm f (by unfold FRr FG FSx; omega) (fun s => by unfold FRr FG FSx; omega)
def OKR (K : Mem) (bs : List Int) (x : Int) : Option (GS × Nat × Nat) → Prop
  | some s => x = 1 ∧ BfC K bs ∧ GC K 1 s.1 ∧ TC K bs s.2.2 ∧ K 7 0 2 = (s.2.1 : Int) ∧ PG s.1 s.2.1 ∧ s.2.2 ≤ bs.length
  | none => x = 0 ∧ ∃ g' : GS, GC K 1 g'
theorem t_readRules (hl : bs.length ≤ 600) (hr : ∀ b ∈ bs, 1 ≤ b ∧ b ≤ 255) : ∀ (n k p : Nat) (g : GS) (I : Mem), k + n = 41 → p ≤ bs.length → PG g k → BfC I bs → GC I 1 g → TC I bs p → I 7 0 2 = (k : Int) → Tr (whl f_Set_readRules_w2 (k : Int) I) (fun x K => OKR K bs x (rls bs n g k p) ∧ Fm FRr I K) := by
  intro n
  induction n with
  | zero => intro k p g I h _ hP; have := hP.1; omega
  | succ n ih =>
    intro k p g I hkn hp hP hB hG hT h2
    have hE := tE_le hp
    have hk40 := hP.1
    refine tr_step ?_
    unfold f_Set_readRules_w2
    rw [w32_of (x := (k : Int)) (by omega) (by omega), if_neg (by omega), c_word hB hl hr hp hT, bnd_some, if_pos (wd_lt bs p)]
    have e0 : rls bs (n + 1) g k p = if wd bs p = 0 then (if k = 40 then none else (match rlN bs g k p with
      | none => none
      | some s => rls bs n s.1 (k + 1) s.2)) else some (g, k, p) := rfl
    rw [e0]
    by_cases q : wd bs p = 0
    · rw [if_pos q, if_pos q]
      by_cases q40 : k = 40
      · rw [if_pos (by omega), if_pos q40]
        refine tr_call (t_fail 5) ?_
        rintro x K ⟨rfl, g1, g2⟩
        rw [if_pos (Or.inl rfl)]
        exact tr_ret ⟨⟨rfl, _, hG.sx (g2.mono fec_sx)⟩, g2.mono (fun a b c z => fsx_r _ _ _ (fec_sx _ _ _ z))⟩
      · rw [if_neg (by omega), if_neg q40]
        refine tr_call (t_advS hB hl hr hp hT) ?_
        rintro _ J1 ⟨t1, f1⟩
        rw [g_body (by decide) (by omega), bnd_some, if_pos (rix_lt (by decide) (by omega))]
        refine tr_call (t_readItems hl hr hP.lr (i := k + 1) (by omega) hE.2.1 (hB.sx f1) (hG.sx f1) (hP.2.2.1 k (Nat.le_refl _) (by omega)) t1 (by rw [f1.at (by decide) (by unfold FSx; omega)]; exact h2)) ?_
        rintro x J2 ⟨ok, f2⟩
        have f12 : Fm FRr I J2 := (f1.mono fsx_r).trans (f2.mono frd_r)
        unfold rlN
        cases hc : items bs (gL g) k (tE bs p) with
        | none =>
          rw [hc] at ok
          obtain ⟨rfl, hg⟩ := ok
          rw [if_pos (by decide)]
          exact tr_ret ⟨⟨rfl, hg⟩, f12⟩
        | some s =>
          rw [hc] at ok
          obtain ⟨rfl, cB, cG, cT, c3, c2⟩ := ok
          obtain ⟨i1, i2, i3, i4⟩ := items_inv hP.lr hE.2.1 hc
          have hE2 := tE_le i3
          rw [if_neg (by decide), c_is cT (by omega), bnd_some]
          -- the end of a line
          have j95 : Tr (f_Set_readRules_j95 (k : Int) J2) (LQ (fun s' J => Tr (whl f_Set_readRules_w2 s' J) (fun x K => OKR K bs x (match (if tK bs s.2 = 3 ∧ 2 ≤ s.1.length then some (gsL (gsR g (k + 1) s.1) k (ll (gL g) s.1), tE bs s.2) else none) with
              | none => none
              | some s => rls bs n s.1 (k + 1) s.2) ∧ Fm FRr I K)) (fun x K => OKR K bs x (match (if tK bs s.2 = 3 ∧ 2 ≤ s.1.length then some (gsL (gsR g (k + 1) s.1) k (ll (gL g) s.1), tE bs s.2) else none) with
              | none => none
              | some s => rls bs n s.1 (k + 1) s.2) ∧ Fm FRr I K)) ∨ (tK bs s.2 = 3 ∧ s.1.length < 2) := by
            by_cases hbad : tK bs s.2 = 3 ∧ s.1.length < 2
            · exact Or.inr hbad
            refine Or.inl ?_
            unfold f_Set_readRules_j95
            refine tr_call (t_pass cB hl hr i3 cT (a := 3) (by omega)) ?_
            rintro x J3 ⟨rfl, y1, y2, f3⟩
            by_cases q3 : tK bs s.2 = 3
            · rw [if_neg (wb_pos q3), if_pos ⟨q3, by omega⟩]
              have hG3 := cG.sx f3
              refine tr_call (t_putLength hG3 (r := k) (by omega) (J3 7 0 3)) ?_
              rintro _ J4 ⟨hG4, f4⟩
              try dsimp only [ltI]
              have e3 : J3 7 0 3 = ll (gL g) s.1 := by rw [f3.at (by decide) (by unfold FSx; omega)]; exact c3
              rw [e3] at hG4
              have f5 : Fm (fun k _ s => k = 7 ∧ s = 2) J4 (sI J4 7 0 2 ((k : Int) + 1)) := Fm.sI (by decide) (by omega) (by omega) ⟨rfl, rfl⟩
              have a2 : (sI J4 7 0 2 ((k : Int) + 1)) 7 0 2 = ((k + 1 : Nat) : Int) := by rw [sI_self]; rfl
              generalize sI J4 7 0 2 ((k : Int) + 1) = J5 at f5 a2
              have f345 : Fm FRr J2 J5 := (f3.mono fsx_r).trans ((f4.mono (fun a b c z => Or.inl z)).trans (f5.mono (fun a b c z => Or.inr (Or.inr (by omega)))))
              have hT5 : TC J5 bs (tE bs s.2) := ((y1 q3).fm f4 (fun s _ _ => by unfold FG; omega)).fm f5 (fun s _ _ => by omega)
              refine tr_ret ?_
              show Tr (whl f_Set_readRules_w2 ((k : Int) + 1) J5) _
              refine tr_mono (ih (k + 1) (tE bs s.2) (gsL (gsR g (k + 1) s.1) k (ll (gL g) s.1)) J5 (by omega) hE2.2.1 (hP.rl (bs := bs) (p := p) (by omega) i1 (by omega)) (cB.rr f345) (hG4.fm f5 (fun k i s z q => by unfold FG at z; omega)) hT5 a2) ?_
              rintro x K ⟨a, b⟩
              exact ⟨a, f12.trans (f345.trans b)⟩
            · rw [if_pos (wb_neg q3), if_neg (fun z => q3 z.1)]
              refine tr_ret ?_
              show OKR J3 bs 0 none ∧ Fm FRr I J3
              exact ⟨⟨rfl, _, cG.sx f3⟩, f12.trans (f3.mono fsx_r)⟩
          by_cases q3 : tK bs s.2 = 3
          · rw [if_neg (wb_pos q3), g_body (by decide) (by omega), bnd_some, if_pos (rix_lt (by decide) (by omega))]
            have hrow := cG.2.1 (k + 1) (by omega)
            rw [show gR (gsR g (k + 1) s.1) (k + 1) = s.1 from up_self _ _ _] at hrow
            have h400 := hrow.len
            rw [hrow.2.1, w32_of (x := (s.1.length : Int)) (by omega) (by omega)]
            by_cases ql : s.1.length < 2
            · rw [if_pos (by omega)]
              refine tr_call (t_fail 3) ?_
              rintro x K ⟨rfl, g1, g2⟩
              rw [if_pos (Or.inl rfl)]
              refine tr_ret ?_
              show OKR K bs 0 (match (if tK bs s.2 = 3 ∧ 2 ≤ s.1.length then some (gsL (gsR g (k + 1) s.1) k (ll (gL g) s.1), tE bs s.2) else none) with
                | none => none
                | some s => rls bs n s.1 (k + 1) s.2) ∧ Fm FRr I K
              rw [if_neg (fun z => by omega)]
              exact ⟨⟨rfl, _, cG.sx (g2.mono fec_sx)⟩, f12.trans (g2.mono (fun a b c z => fsx_r _ _ _ (fec_sx _ _ _ z)))⟩
            · rw [if_neg (by omega)]
              exact j95.elim id (fun z => absurd z.2 ql)
          · rw [if_pos (wb_neg q3)]
            exact j95.elim id (fun z => absurd z.1 q3)
    · rw [if_neg q, if_neg q]
      refine tr_ret ?_
      show OKR I bs 1 (some (g, k, p)) ∧ Fm FRr I I
      exact ⟨⟨rfl, hB, hG, hT, h2, hP, hp⟩, Fm.refl _ _⟩
def OKT (K : Mem) (bs : List Int) (x : Int) : Option (GS × Nat) → Prop
  | some s => x = 1 ∧ BfC K bs ∧ GC K 1 s.1 ∧ TC K bs s.2 ∧ TG s.1 ∧ s.2 ≤ bs.length
  | none => x = 0 ∧ ∃ g' : GS, GC K 1 g'
theorem PG.tg {g : GS} {k : Nat} {s : List Int × Nat} {p : Nat} (h : PG g k) (hp : p ≤ bs.length) (e : items bs (gL g) k p = some s) : TG (gsR g 0 s.1) := by
  obtain ⟨i1, i2, i3, i4⟩ := items_inv h.lr hp e
  refine ⟨h.wpS i1, h.2.2.2.2, ?_⟩
  show 1 ≤ (up (gR g) 0 s.1 0).length
  rw [up_self]
  exact i4
theorem t_readStart (hl : bs.length ≤ 600) (hr : ∀ b ∈ bs, 1 ≤ b ∧ b ≤ 255) (hp : p ≤ bs.length) (hP : PG g k) (hB : BfC I bs) (hG : GC I 1 g) (hT : TC I bs p) (h2 : I 7 0 2 = (k : Int)) : Tr (f_Set_readStart I) (fun x K => OKT K bs x (stP bs g k p) ∧ Fm FRr I K) := by
  have hE := tE_le hp
  unfold f_Set_readStart stP
  rw [c_word hB hl hr hp hT, bnd_some, if_pos (wd_lt bs p)]
  by_cases q : wd bs p = 1
  · rw [if_pos q, if_pos q]
    refine tr_call (t_advS hB hl hr hp hT) ?_
    rintro _ J1 ⟨t1, f1⟩
    refine tr_call (t_readItems hl hr hP.lr (i := 0) (by omega) hE.2.1 (hB.sx f1) (hG.sx f1) hP.2.2.2.1 t1 (by rw [f1.at (by decide) (by unfold FSx; omega)]; exact h2)) ?_
    rintro x J2 ⟨ok, f2⟩
    have f12 : Fm FRr I J2 := (f1.mono fsx_r).trans (f2.mono frd_r)
    cases hc : items bs (gL g) k (tE bs p) with
    | none =>
      rw [hc] at ok
      obtain ⟨rfl, hg⟩ := ok
      rw [if_pos (Or.inl rfl)]
      exact tr_ret ⟨⟨rfl, hg⟩, f12⟩
    | some s =>
      rw [hc] at ok
      obtain ⟨rfl, cB, cG, cT, c3, c2⟩ := ok
      obtain ⟨i1, i2, i3, i4⟩ := items_inv hP.lr hE.2.1 hc
      rw [if_pos (Or.inr rfl)]
      exact tr_ret ⟨⟨rfl, cB, cG, cT, hP.tg hE.2.1 hc, i3⟩, f12⟩
  · rw [if_neg q, if_neg q]
    refine tr_call (t_fail 1) ?_
    rintro x K ⟨rfl, g1, g2⟩
    rw [if_pos (Or.inl rfl)]
    exact tr_ret ⟨⟨rfl, _, hG.sx (g2.mono fec_sx)⟩, g2.mono (fun a b c z => fsx_r _ _ _ (fec_sx _ _ _ z))⟩
/-- what was told already -/
def FLG (I : Mem) (f : Nat → Bool) : Prop := ∀ j : Nat, j < 3 → I 7 0 (4 + j) = if f j = true then 1 else 0
theorem FLG.fm {F : FP} {f : Nat → Bool} (h : FLG I f) (q : Fm F I J) (hn : ∀ s : Nat, 4 ≤ s → s ≤ 6 → ¬ F 7 0 s) : FLG J f := fun j hj => by rw [q.at (by decide) (hn _ (by omega) (by omega))]; exact h j hj
theorem c_isTold {f : Nat → Bool} (h : FLG I f) {w : Nat} (hw : w = 3 ∨ w = 4 ∨ w = 2) : f_Set_isTold w I = some (bI (f (wj w) = true), I) := by
  have h0 : I 7 0 4 = if f 0 = true then 1 else 0 := h 0 (by decide)
  have h1 : I 7 0 5 = if f 1 = true then 1 else 0 := h 1 (by decide)
  have h2 : I 7 0 6 = if f 2 = true then 1 else 0 := h 2 (by decide)
  have b : ∀ c : Prop, [Decidable c] → ((if c then (1 : Int) else 0) = 0 ∨ (if c then (1 : Int) else 0) = 1) := fun c _ => by by_cases q : c <;> simp [q]
  unfold f_Set_isTold
  rcases hw with rfl | rfl | rfl
  · rw [if_pos (by decide), if_pos (by decide), if_pos (by decide), h0, if_pos (b _)]; rfl
  · rw [if_pos (by decide), if_pos (by decide), if_neg (by decide), if_pos (by decide), h1, if_pos (b _)]; rfl
  · rw [if_pos (by decide), if_pos (by decide), if_neg (by decide), if_neg (by decide), h2, if_pos (b _)]; rfl
abbrev FNt : FP := fun k i s => FG 1 k i s ∨ (k = 7 ∧ 4 ≤ s)
theorem t_note1 {f : Nat → Bool} (hG : GC I 1 g) (h : FLG I f) {j : Nat} (hj : j < 3) (v : Int) : Tr (bnd (f_G_putNumber 1 (4 + (j : Int)) v (sI I 7 0 (4 + j) 1)) fun _ K => some ((), K)) (fun _ K => GC K 1 (gsN g j v) ∧ FLG K (fun m => if m = j then true else f m) ∧ Fm FNt I K) := by
  have f1 : Fm (fun k _ s => k = 7 ∧ 4 ≤ s) I (sI I 7 0 (4 + j) 1) := Fm.sI (by decide) (by omega) (by omega) ⟨rfl, by omega⟩
  refine tr_call (t_putNumber (hG.fm f1 (fun k i s z q => by unfold FG at z; omega)) hj v) ?_
  rintro _ K ⟨a, f2⟩
  refine tr_ret ⟨a, fun m hm => ?_, (f1.mono (fun a b c z => Or.inr z)).trans (f2.mono (fun a b c z => Or.inl z))⟩
  rw [f2.at (by decide) (by unfold FG; omega)]
  show (sI I 7 0 (4 + j) 1) 7 0 (4 + m) = if (if m = j then true else f m) = true then 1 else 0
  by_cases q : m = j
  · rw [q, sI_self, if_pos rfl, if_pos rfl]
  · rw [sI_ne (by omega), if_neg q]
    exact h m hm
theorem t_noteTold {f : Nat → Bool} (hG : GC I 1 g) (h : FLG I f) {w : Nat} (hw : w = 3 ∨ w = 4 ∨ w = 2) (v : Int) : Tr (f_Set_noteTold w v I) (fun _ K => GC K 1 (gsN g (wj w) v) ∧ FLG K (fun m => if m = wj w then true else f m) ∧ Fm FNt I K) := by
  unfold f_Set_noteTold
  rcases hw with rfl | rfl | rfl
  · rw [if_pos (by decide), if_pos (by decide), if_pos (by decide)]
    exact t_note1 hG h (j := 0) (by decide) v
  · rw [if_pos (by decide), if_pos (by decide), if_neg (by decide), if_pos (by decide)]
    exact t_note1 hG h (j := 1) (by decide) v
  · rw [if_pos (by decide), if_pos (by decide), if_neg (by decide), if_neg (by decide)]
    exact t_note1 hG h (j := 2) (by decide) v
abbrev FLd : FP := fun k i s => FG 1 k i s ∨ FSx k i s ∨ k = 7
theorem fsx_l : ∀ k i s : Nat, FSx k i s → FLd k i s := fun k i s z => Or.inr (Or.inl z)
theorem BfC.ld (h : BfC I bs) (f : Fm FLd I J) : BfC J bs := h.fm f (by unfold FLd FG FSx; omega) (fun s => by unfold FLd FG FSx; omega)
def OKS (K : Mem) (bs : List Int) (x : Int) : Option (GS × (Nat → Bool) × Nat) → Prop
  | some s => x = 1 ∧ BfC K bs ∧ GC K 1 s.1 ∧ FLG K s.2.1 ∧ TC K bs s.2.2
  | none => x = 0 ∧ ∃ g' : GS, GC K 1 g'
theorem t_readStm (hl : bs.length ≤ 600) (hr : ∀ b ∈ bs, 1 ≤ b ∧ b ≤ 255) {f : Nat → Bool} (hp : p ≤ bs.length) (hB : BfC I bs) (hG : GC I 1 g) (hF : FLG I f) (hT : TC I bs p) : Tr (f_Set_readStatement I) (fun x K => OKS K bs x (stm bs g f p) ∧ Fm FLd I K) := by
  have hE := tE_le hp
  have hE2 := tE_le hE.2.1
  unfold f_Set_readStatement
  rw [c_word hB hl hr hp hT, bnd_some, if_pos (wd_lt bs p)]
  have fl : ∀ {x K} (c : Int), x = 0 ∧ K 6 0 6 = c ∧ Fm FEc I K → ¬ ((wd bs p = 3 ∨ wd bs p = 4 ∨ wd bs p = 2) ∧ f (wj (wd bs p)) = false ∧ nbE bs (tE bs p) (wLow (wd bs p)) (wHig (wd bs p)) = 0) → OKS K bs x (stm bs g f p) ∧ Fm FLd I K := by
    rintro x K c ⟨rfl, g1, g2⟩ hn
    refine ⟨?_, g2.mono (fun a b c z => fsx_l _ _ _ (fec_sx _ _ _ z))⟩
    unfold stm
    rw [if_neg hn]
    exact ⟨rfl, _, hG.sx (g2.mono fec_sx)⟩
  have j38 : (wd bs p = 3 ∨ wd bs p = 4 ∨ wd bs p = 2) → Tr (f_Set_readStatement_j38 (wd bs p) I) (fun x K => OKS K bs x (stm bs g f p) ∧ Fm FLd I K) := by
    intro hw
    have hlo : 0 ≤ wLow (wd bs p) ∧ wLow (wd bs p) ≤ 1000 ∧ 0 ≤ wHig (wd bs p) ∧ wHig (wd bs p) ≤ 1000 := by
      rcases hw with z | z | z <;> rw [z] <;> decide
    unfold f_Set_readStatement_j38
    rw [c_isTold hF hw, bnd_some]
    by_cases qf : f (wj (wd bs p)) = true
    · rw [if_neg (wb_pos qf)]
      refine tr_call (t_fail 3) ?_
      rintro x K hx
      have hx0 : x = 0 := hx.1
      rw [if_pos (Or.inl hx0)]
      exact tr_ret (fl 3 hx (fun z => by rw [qf] at z; exact absurd z.2.1 (by decide)))
    · have qf' : f (wj (wd bs p)) = false := by
        cases e : f (wj (wd bs p)) with
        | true => exact absurd e qf
        | false => rfl
      rw [if_pos (wb_neg qf)]
      refine tr_call (t_advS hB hl hr hp hT) ?_
      rintro _ J1 ⟨t1, f1⟩
      refine tr_call (t_readNumber (hB.sx f1) hl hr hE.2.1 t1 ⟨hlo.1, hlo.2.1⟩ ⟨hlo.2.2.1, hlo.2.2.2⟩) ?_
      rintro x J2 ⟨rfl, n1, n2, t2, f2⟩
      have f12 := f1.trans f2
      by_cases c1 : nbE bs (tE bs p) (wLow (wd bs p)) (wHig (wd bs p)) = 0
      · rw [if_neg (wb_pos c1), n1 c1]
        have hF2 : FLG J2 f := hF.fm f12 (fun s _ _ => by unfold FSx; omega)
        refine tr_call (t_noteTold (hG.sx f12) hF2 hw (nV bs (tE bs p))) ?_
        rintro _ J3 ⟨hG3, hF3, f3⟩
        have hB3 : BfC J3 bs := (hB.sx f12).fm f3 (by unfold FNt FG; omega) (fun s => by unfold FNt FG; omega)
        have hT3 : TC J3 bs (tE bs p) := t2.fm f3 (fun s _ _ => by unfold FNt FG; omega)
        refine tr_call (t_advS hB3 hl hr hE.2.1 hT3) ?_
        rintro _ J4 ⟨t4, f4⟩
        refine tr_ret ⟨?_, (f12.mono fsx_l).trans ((f3.mono (fun a b c z => by unfold FNt at z; unfold FLd; omega)).trans (f4.mono fsx_l))⟩
        unfold stm
        rw [if_pos ⟨hw, qf', c1⟩]
        exact ⟨rfl, hB3.sx f4, hG3.sx f4, hF3.fm f4 (fun s _ _ => by unfold FSx; omega), t4⟩
      · rw [if_pos (wb_neg c1)]
        refine tr_ret ⟨?_, f12.mono fsx_l⟩
        unfold stm
        rw [if_neg (fun z => c1 z.2.2)]
        exact ⟨rfl, _, hG.sx f12⟩
  by_cases q3 : wd bs p = 3
  · rw [if_pos q3]; exact j38 (Or.inl q3)
  · rw [if_neg q3]
    by_cases q4 : wd bs p = 4
    · rw [if_pos q4]; exact j38 (Or.inr (Or.inl q4))
    · rw [if_neg q4]
      by_cases q2 : wd bs p = 2
      · rw [if_pos q2]; exact j38 (Or.inr (Or.inr q2))
      · rw [if_neg q2]
        refine tr_call (t_fail 1) ?_
        rintro x K hx
        have hx0 : x = 0 := hx.1
        rw [if_pos (Or.inl hx0)]
        exact tr_ret (fl 1 hx (fun z => by omega))
def OKE (K : Mem) (x : Int) : Option GS → Prop
  | some g => x = 1 ∧ GC K 1 g ∧ TG g
  | none => x = 0 ∧ ∃ g' : GS, GC K 1 g'
theorem t_readStms (hl : bs.length ≤ 600) (hr : ∀ b ∈ bs, 1 ≤ b ∧ b ≤ 255) : ∀ (n m p : Nat) (g : GS) (f : Nat → Bool) (I : Mem), m ≤ p → p ≤ bs.length → bs.length - p < n → TG g → BfC I bs → GC I 1 g → FLG I f → TC I bs p → Tr (whl f_Set_readStatements_w2 (m : Int) I) (fun x K => OKE K x (sts bs n g f p) ∧ Fm FLd I K) := by
  intro n
  induction n with
  | zero => intro m p g f I _ _ h; omega
  | succ n ih =>
    intro m p g f I hm hp hn hW hB hG hF hT
    have hE := tE_le hp
    refine tr_step ?_
    have e0 : sts bs (n + 1) g f p = if tK bs p = 0 then some g else if tK bs p = 3 then (match stm bs g f (tE bs p) with
      | none => none
      | some s => sts bs n s.1 s.2.1 s.2.2) else none := rfl
    rw [e0]
    unfold f_Set_readStatements_w2
    rw [w32_of (x := (m : Int)) (by omega) (by omega), if_neg (by omega), c_is hT (by omega), bnd_some]
    by_cases q0 : tK bs p = 0
    · rw [if_neg (wb_pos q0), if_pos q0]
      refine tr_ret ?_
      show OKE I 1 (some g) ∧ Fm FLd I I
      exact ⟨⟨rfl, hG, hW⟩, Fm.refl _ _⟩
    · rw [if_pos (wb_neg q0), if_neg q0]
      refine tr_call (t_pass hB hl hr hp hT (a := 3) (by omega)) ?_
      rintro x J1 ⟨rfl, y1, y2, f1⟩
      by_cases q3 : tK bs p = 3
      · have hgt := tE_gt q0 hp
        rw [if_neg (wb_pos q3), if_pos q3]
        have hF1 : FLG J1 f := hF.fm f1 (fun s _ _ => by unfold FSx; omega)
        refine tr_call (t_readStm hl hr hE.2.1 (hB.sx f1) (hG.sx f1) hF1 (y1 q3)) ?_
        rintro x J2 ⟨ok, f2⟩
        cases hc : stm bs g f (tE bs p) with
        | none =>
          rw [hc] at ok
          obtain ⟨rfl, hg⟩ := ok
          rw [if_pos (by decide)]
          refine tr_ret ?_
          show OKE J2 0 none ∧ Fm FLd I J2
          exact ⟨⟨rfl, hg⟩, (f1.mono fsx_l).trans f2⟩
        | some s =>
          rw [hc] at ok
          obtain ⟨rfl, sB, sG, sF, sT⟩ := ok
          obtain ⟨w1, w2, w3⟩ := hW.stmP hE.2.1 hc
          rw [if_neg (by decide)]
          refine tr_ret ?_
          show Tr (whl f_Set_readStatements_w2 ((m : Int) + 1) J2) _
          refine tr_mono (ih (m + 1) s.2.2 s.1 s.2.1 J2 (by omega) w3 (by omega) w1 sB sG sF sT) ?_
          rintro x K ⟨a, b⟩
          exact ⟨a, (f1.mono fsx_l).trans (f2.trans b)⟩
      · rw [if_pos (wb_neg q3), if_neg q3]
        refine tr_ret ?_
        show OKE J1 0 none ∧ Fm FLd I J1
        exact ⟨⟨rfl, _, hG.sx f1⟩, f1.mono fsx_l⟩
theorem g0_pg : PG g0 0 := ⟨by decide, fun r hr => absurd hr (by omega), fun r _ _ => rfl, rfl, ⟨by decide, by decide⟩, ⟨by decide, by decide⟩, by decide, by decide⟩
theorem t_setRead (hl : bs.length ≤ 600) (hr : ∀ b ∈ bs, 1 ≤ b ∧ b ≤ 255) (hB : BfC I bs) (hG : GC I 1 g) : Tr (f_Set_read I) (fun x K => OKE K x (setP bs) ∧ BfC K bs ∧ Fm FLd I K) := by
  suffices h : Tr (f_Set_read I) (fun x K => OKE K x (setP bs) ∧ Fm FLd I K) from tr_mono h (fun x K z => ⟨z.1, hB.ld z.2, z.2⟩)
  unfold f_Set_read
  refine tr_call (t_gclear hG) ?_
  rintro _ J1 ⟨hG1, f1⟩
  try dsimp only [ltI]
  have f2 : Fm (fun k _ _ => k = 7) J1 (sI (sI (sI (sI J1 7 0 2 0) 7 0 4 0) 7 0 5 0) 7 0 6 0) := (((Fm.sI (by decide) (by omega) (by omega) rfl).trans (Fm.sI (by decide) (by omega) (by omega) rfl)).trans (Fm.sI (by decide) (by omega) (by omega) rfl)).trans (Fm.sI (by decide) (by omega) (by omega) rfl)
  have a2 : (sI (sI (sI (sI J1 7 0 2 0) 7 0 4 0) 7 0 5 0) 7 0 6 0) 7 0 2 = ((0 : Nat) : Int) := by rw [sI_ne (by omega), sI_ne (by omega), sI_ne (by omega), sI_self]; rfl
  have aF : FLG (sI (sI (sI (sI J1 7 0 2 0) 7 0 4 0) 7 0 5 0) 7 0 6 0) (fun _ => false) := fun j hj => by
    rcases (show j = 0 ∨ j = 1 ∨ j = 2 by omega) with rfl | rfl | rfl
    · rw [sI_ne (by omega), sI_ne (by omega), sI_self]; rfl
    · rw [sI_ne (by omega), sI_self]; rfl
    · rw [sI_self]; rfl
  generalize sI (sI (sI (sI J1 7 0 2 0) 7 0 4 0) 7 0 5 0) 7 0 6 0 = J2 at f2 a2 aF
  have hB2 : BfC J2 bs := (hB.fm f1 (by unfold FG; omega) (fun s => by unfold FG; omega)).fm f2 (by omega) (fun s => by omega)
  have hG2 : GC J2 1 g0 := hG1.fm f2 (fun k i s z q => by unfold FG at z; omega)
  unfold f_Src_rewind
  try dsimp only [ltI]
  have f3 : Fm FSx J2 (sI (sI (sI J2 6 0 4 0) 6 0 6 0) 6 0 7 (-1)) := ((Fm.sI (by decide) (by omega) (by omega) ⟨rfl, by omega, by omega⟩).trans (Fm.sI (by decide) (by omega) (by omega) ⟨rfl, by omega, by omega⟩)).trans (Fm.sI (by decide) (by omega) (by omega) ⟨rfl, by omega, by omega⟩)
  have a4 : (sI (sI (sI J2 6 0 4 0) 6 0 6 0) 6 0 7 (-1)) 6 0 4 = ((0 : Nat) : Int) := by rw [sI_ne (by omega), sI_ne (by omega), sI_self]; rfl
  generalize sI (sI (sI J2 6 0 4 0) 6 0 6 0) 6 0 7 (-1) = J3 at f3 a4
  have f13 : Fm FLd I J3 := (f1.mono (fun a b c z => Or.inl z)).trans ((f2.mono (fun a b c z => Or.inr (Or.inr z))).trans (f3.mono fsx_l))
  refine tr_call (P := fun _ K => TC K bs 0 ∧ Fm FSx J3 K) (tr_call (t_adv (hB2.sx f3) hl hr (Nat.zero_le _) a4) (fun _ K z => tr_ret ⟨z.1, z.2.mono fad_sx⟩)) ?_
  rintro _ J4 ⟨hT4, f4⟩
  have f14 := f13.trans (f4.mono fsx_l)
  have hB4 := (hB2.sx f3).sx f4
  have hG4 := (hG2.sx f3).sx f4
  have hF4 : FLG J4 (fun _ => false) := aF.fm (f3.trans f4) (fun s _ _ => by unfold FSx; omega)
  have e2 : J4 7 0 2 = ((0 : Nat) : Int) := by rw [(f3.trans f4).at (by decide) (by unfold FSx; omega)]; exact a2
  unfold f_Set_readRules setP
  refine tr_call (t_readRules hl hr 41 0 0 g0 J4 rfl (Nat.zero_le _) g0_pg hB4 hG4 hT4 e2) ?_
  rintro x J5 ⟨ok, f5⟩
  have f15 := f14.trans (f5.mono (fun a b c z => by unfold FRr at z; unfold FLd; omega))
  have hF5 : FLG J5 (fun _ => false) := hF4.fm f5 (fun s _ _ => by unfold FRr FG FSx; omega)
  cases hc : rls bs 41 g0 0 0 with
  | none =>
    rw [hc] at ok
    obtain ⟨rfl, hg⟩ := ok
    rw [if_pos (by decide)]
    exact tr_ret ⟨⟨rfl, hg⟩, f15⟩
  | some s =>
    rw [hc] at ok
    obtain ⟨rfl, sB, sG, sT, s2, sP, sp⟩ := ok
    rw [if_neg (by decide)]
    refine tr_call (t_readStart hl hr sp sP sB sG sT s2) ?_
    rintro x J6 ⟨ok, f6⟩
    have f16 := f15.trans (f6.mono (fun a b c z => by unfold FRr at z; unfold FLd; omega))
    have hF6 : FLG J6 (fun _ => false) := hF5.fm f6 (fun s _ _ => by unfold FRr FG FSx; omega)
    cases hc2 : stP bs s.1 s.2.1 s.2.2 with
    | none =>
      rw [hc2] at ok
      obtain ⟨rfl, hg⟩ := ok
      rw [if_pos (by decide)]
      refine tr_ret ⟨?_, f16⟩
      show OKE J6 0 (match stP bs s.1 s.2.1 s.2.2 with
        | none => none
        | some t => sts bs 601 t.1 (fun _ => false) t.2)
      rw [hc2]
      exact ⟨rfl, hg⟩
    | some t =>
      rw [hc2] at ok
      obtain ⟨rfl, tB, tG, tT, tW, tp⟩ := ok
      rw [if_neg (by decide)]
      unfold f_Set_readStatements
      refine tr_call (t_readStms hl hr 601 0 t.2 t.1 (fun _ => false) J6 (Nat.zero_le _) tp (by omega) tW tB tG hF6 tT) ?_
      rintro x J7 ⟨ok, f7⟩
      cases hc3 : sts bs 601 t.1 (fun _ => false) t.2 with
      | none =>
        rw [hc3] at ok
        obtain ⟨rfl, hg⟩ := ok
        rw [if_pos (by decide)]
        refine tr_ret ⟨?_, f16.trans f7⟩
        show OKE J7 0 (match stP bs s.1 s.2.1 s.2.2 with
          | none => none
          | some t => sts bs 601 t.1 (fun _ => false) t.2)
        rw [hc2]
        show OKE J7 0 (sts bs 601 t.1 (fun _ => false) t.2)
        rw [hc3]
        exact ⟨rfl, hg⟩
      | some u =>
        rw [hc3] at ok
        obtain ⟨rfl, uG, uW⟩ := ok
        rw [if_neg (by decide)]
        refine tr_ret ⟨?_, f16.trans f7⟩
        show OKE J7 1 (match stP bs s.1 s.2.1 s.2.2 with
          | none => none
          | some t => sts bs 601 t.1 (fun _ => false) t.2)
        rw [hc2]
        show OKE J7 1 (sts bs 601 t.1 (fun _ => false) t.2)
        rw [hc3]
        exact ⟨rfl, uG, uW⟩
end CSET
end
section
/-! ===== the reference's setup; load ===== -/
section MSETUP
variable {I J : Mem} {bs : List Int} {g : GS} {i k p : Nat} {l : List Int}
abbrev FSm : FP := fun k i s => FRn k i s ∨ (k = 26 ∧ i = 0 ∧ (s = 28 ∨ s = 30 ∨ s = 31))
theorem fmx_s : ∀ k i s : Nat, FMx k i s → FSm k i s := fun _ _ _ z => Or.inl (Or.inl (Or.inr (Or.inl z)))
theorem fem_s : ∀ k i s : Nat, FEm k i s → FSm k i s := fun _ _ _ z => fmx_s _ _ _ (fem_mx _ _ _ z)
theorem frn_s : ∀ k i s : Nat, FRn k i s → FSm k i s := fun _ _ _ z => Or.inl z
theorem BfM.ss (h : BfM I bs) (f : Fm FSm I J) : BfM J bs := h.fm f (by unfold FSm FRn FRq FW FMx FL; omega) (fun s => by unfold FSm FRn FRq FW FMx FL; omega)
def OKMR (K : Mem) (bs : List Int) : Option (GS × Nat × Nat) → Prop
  | some s => BfM K bs ∧ GW K s.1 ∧ TM K bs s.2.2 ∧ K 26 0 25 = 0 ∧ K 26 0 30 = (s.2.1 : Int) ∧ PG s.1 s.2.1 ∧ s.2.2 ≤ bs.length
  | none => ERR K
abbrev FSq : FP := fun k i s => FRn k i s ∨ (k = 26 ∧ i = 0 ∧ s = 30)
theorem fmx_q : ∀ k i s : Nat, FMx k i s → FSq k i s := fun _ _ _ z => Or.inl (Or.inl (Or.inr (Or.inl z)))
theorem fem_q : ∀ k i s : Nat, FEm k i s → FSq k i s := fun _ _ _ z => fmx_q _ _ _ (fem_mx _ _ _ z)
theorem frn_q : ∀ k i s : Nat, FRn k i s → FSq k i s := fun _ _ _ z => Or.inl z
theorem fsq_s : ∀ k i s : Nat, FSq k i s → FSm k i s := fun k i s z => z.elim Or.inl (fun y => Or.inr ⟨y.1, y.2.1, Or.inr (Or.inl y.2.2)⟩)
theorem w28_err (he : w32 (I 26 0 25) ≠ 0) : whl f_M_setup_w28 () I = some ((), I) := by
  rw [whl_eq]
  unfold f_M_setup_w28
  rw [m_isKeyE he (by decide), bnd_some, if_pos (by decide)]
theorem t_ruleLine (hl : bs.length ≤ 600) (hr : ∀ b ∈ bs, 1 ≤ b ∧ b ≤ 255) (hp : p ≤ bs.length) (hP : PG g k) (hB : BfM I bs) (hG : GW I g) (hT : TM I bs p) (he : I 26 0 25 = 0) (h30 : I 26 0 30 = (k : Int)) : Tr (f_M_ruleLine I) (fun _ K => OKMR K bs (if k = 40 then none else (match rlN bs g k p with
      | none => none
      | some s => some (s.1, k + 1, s.2))) ∧ Fm FSq I K) := by
  have hE := tE_le hp
  have hk40 := hP.1
  unfold f_M_ruleLine
  rw [h30, w32_of (x := (k : Int)) (by omega) (by omega)]
  by_cases q40 : k = 40
  · rw [if_pos (by omega), if_pos q40]
    refine tr_call (mf_1 he (by decide) (by decide)) ?_
    rintro x K ⟨rfl, b, f⟩
    rw [if_neg (by decide)]
    refine tr_ret ⟨?_, f.mono fem_q⟩
    exact ERR.of b (by decide)
  · rw [if_neg (by omega), mf_0 he (by decide), bnd_some, if_pos (by decide), if_neg q40]
    refine tr_call (tm_advS hB hl hr hp hT) ?_
    rintro _ J1 ⟨t1, e1, f1⟩
    have e30 : J1 26 0 30 = (k : Int) := by rw [f1.at (by decide) (by unfold FMx; omega)]; exact h30
    rw [e30, show (k : Int) + 1 = ((k + 1 : Nat) : Int) from rfl]
    refine tr_call (t_mitems hl hr hP.lr (i := k + 1) (by omega) hE.2.1 (hB.mx f1) (hG.mx f1) hP.wp hP.ne (hP.2.2.1 k (Nat.le_refl _) (by omega)) t1 (e1.trans he)) ?_
    rintro _ J2 ⟨ok, f2⟩
    have f12 : Fm FSq I J2 := (f1.mono fmx_q).trans (f2.mono frn_q)
    have e30' : J2 26 0 30 = (k : Int) := by rw [f2.at (by decide) (by unfold FRn FRq FW FMx FL; omega)]; exact e30
    unfold rlN
    cases hc : items bs (gL g) k (tE bs p) with
    | none =>
      rw [hc] at ok
      have ok : ERR J2 := ok
      rw [m_isSignE ok.ne, bnd_some, mf_E ok.ne, bnd_some, if_neg (by decide)]
      exact tr_ret ⟨ok, f12⟩
    | some s =>
      rw [hc] at ok
      obtain ⟨cB, cG, cT, ce, c29, c5⟩ := ok
      obtain ⟨i1, i2, i3, i4⟩ := items_inv hP.lr hE.2.1 hc
      have hE2 := tE_le i3
      have hs4 := i1.len hP.lr
      have hs5 := i1.2
      rw [m_isSign cB hl hr i3 cT ce (c := 59) (k := 3) (by omega), bnd_some]
      by_cases q3 : tK bs s.2 = 3
      · rw [if_neg (wb_pos q3), mf_0 ce (by decide), bnd_some, if_pos (by decide), e30', show (k : Int) + 1 = ((k + 1 : Nat) : Int) from rfl, m_many cG (by omega), bnd_some, show gR (gsR g (k + 1) s.1) (k + 1) = s.1 from up_self _ _ _, w32_of (x := (s.1.length : Int)) (by omega) (by omega)]
        by_cases ql : s.1.length = 1
        · rw [if_pos (by omega)]
          refine tr_call (mf_1 ce (by decide) (by decide)) ?_
          rintro x K ⟨rfl, b, f⟩
          rw [if_neg (by decide)]
          refine tr_ret ⟨?_, f12.trans (f.mono fem_q)⟩
          show OKMR K bs (match (if tK bs s.2 = 3 ∧ 2 ≤ s.1.length then some (gsL (gsR g (k + 1) s.1) k (ll (gL g) s.1), tE bs s.2) else none) with
            | none => none
            | some s => some (s.1, k + 1, s.2))
          rw [if_neg (fun z => by omega)]
          exact ERR.of b (by decide)
        · rw [if_neg (by omega), mf_0 ce (by decide), bnd_some, if_pos (by decide)]
          try dsimp only [ltI]
          rw [e30']
          have f3 : Fm (fun k i s => k = 26 ∧ i = 0 ∧ s = 30) J2 (sI J2 26 0 30 ((k : Int) + 1)) := Fm.sI (by decide) (by omega) (by omega) ⟨rfl, rfl, rfl⟩
          have a30 : (sI J2 26 0 30 ((k : Int) + 1)) 26 0 30 = ((k + 1 : Nat) : Int) := by rw [sI_self]; rfl
          generalize sI J2 26 0 30 ((k : Int) + 1) = J3 at f3 a30
          have hB3 : BfM J3 bs := cB.fm f3 (by omega) (fun s => by omega)
          have hT3 : TM J3 bs s.2 := cT.fm f3 (fun s _ _ => by omega)
          refine tr_call (tm_advS hB3 hl hr i3 hT3) ?_
          rintro _ J4 ⟨t4, e4, f4⟩
          refine tr_ret ⟨?_, f12.trans ((f3.mono (fun a b c z => Or.inr (by omega))).trans (f4.mono fmx_q))⟩
          show OKMR J4 bs (match (if tK bs s.2 = 3 ∧ 2 ≤ s.1.length then some (gsL (gsR g (k + 1) s.1) k (ll (gL g) s.1), tE bs s.2) else none) with
            | none => none
            | some s => some (s.1, k + 1, s.2))
          rw [if_pos ⟨q3, by omega⟩]
          refine ⟨hB3.mx f4, ?_, t4, ?_, ?_, hP.rl (bs := bs) (p := p) (by omega) i1 (by omega), hE2.2.1⟩
          · exact GW.congr ((cG.fm f3 (fun s _ z => by omega)).mx f4) (fun _ _ => rfl) rfl (fun _ _ => rfl) (fun _ _ => rfl)
          · rw [e4, f3.at (by decide) (by omega), ce]
          · rw [f4.at (by decide) (by unfold FMx; omega), a30]
      · rw [if_pos (wb_neg q3)]
        refine tr_call (mf_1 ce (by decide) (by decide)) ?_
        rintro x K ⟨rfl, b, f⟩
        rw [if_neg (by decide)]
        refine tr_ret ⟨?_, f12.trans (f.mono fem_q)⟩
        show OKMR K bs (match (if tK bs s.2 = 3 ∧ 2 ≤ s.1.length then some (gsL (gsR g (k + 1) s.1) k (ll (gL g) s.1), tE bs s.2) else none) with
          | none => none
          | some s => some (s.1, k + 1, s.2))
        rw [if_neg (fun z => q3 z.1)]
        exact ERR.of b (by decide)
theorem t_mrules (hl : bs.length ≤ 600) (hr : ∀ b ∈ bs, 1 ≤ b ∧ b ≤ 255) : ∀ (n k p : Nat) (g : GS) (I : Mem), k + n = 41 → p ≤ bs.length → PG g k → BfM I bs → GW I g → TM I bs p → I 26 0 25 = 0 → I 26 0 30 = (k : Int) → Tr (whl f_M_setup_w28 () I) (fun _ K => OKMR K bs (rls bs n g k p) ∧ Fm FSq I K) := by
  intro n
  induction n with
  | zero => intro k p g I h _ hP; have := hP.1; omega
  | succ n ih =>
    intro k p g I hkn hp hP hB hG hT he h30
    refine tr_step ?_
    have e0 : rls bs (n + 1) g k p = if wd bs p = 0 then (if k = 40 then none else (match rlN bs g k p with
      | none => none
      | some s => rls bs n s.1 (k + 1) s.2)) else some (g, k, p) := rfl
    rw [e0]
    unfold f_M_setup_w28
    rw [m_isKey hB hl hr hp hT he (i := 0) (by decide), bnd_some]
    by_cases q : wd bs p = 0
    · rw [if_neg (wb_pos q), if_pos q]
      refine tr_call (t_ruleLine hl hr hp hP hB hG hT he h30) ?_
      rintro _ J1 ⟨ok, f1⟩
      refine tr_ret ?_
      show Tr (whl f_M_setup_w28 () J1) _
      have fail : ERR J1 → Tr (whl f_M_setup_w28 () J1) (fun _ K => OKMR K bs none ∧ Fm FSq I K) := fun z => by
        rw [w28_err z.ne]
        exact tr_ret ⟨z, f1⟩
      by_cases q40 : k = 40
      · rw [if_pos q40] at ok ⊢
        exact fail ok
      · rw [if_neg q40] at ok ⊢
        cases hc : rlN bs g k p with
        | none =>
          rw [hc] at ok
          exact fail ok
        | some s =>
          rw [hc] at ok
          obtain ⟨sB, sG, sT, se, s30, sP, sp⟩ := ok
          refine tr_mono (ih (k + 1) s.2 s.1 J1 (by omega) sp sP sB sG sT se s30) ?_
          rintro _ K ⟨a, b⟩
          exact ⟨a, f1.trans b⟩
    · rw [if_pos (wb_neg q), if_neg q]
      exact tr_ret ⟨⟨hB, hG, hT, he, h30, hP, hp⟩, Fm.refl _ _⟩
/-- the reference's bits of what was told -/
def fbv (f : Nat → Bool) : Int := (if f 0 = true then 1 else 0) + (if f 1 = true then 2 else 0) + (if f 2 = true then 4 else 0)
theorem fbv_bit : ∀ (a b c : Bool) (j : Nat), j < 3 → w32 (ian (isr ((if a = true then 1 else 0) + (if b = true then 2 else 0) + (if c = true then 4 else 0)) ((j : Nat) : Int)) 1) = if ([a, b, c].getD j false) = true then 1 else 0 := by
  intro a b c j hj
  rcases (show j = 0 ∨ j = 1 ∨ j = 2 by omega) with rfl | rfl | rfl <;> cases a <;> cases b <;> cases c <;> decide +kernel
theorem fbv_or : ∀ (a b c : Bool) (j : Nat), j < 3 → ior ((if a = true then 1 else 0) + (if b = true then 2 else 0) + (if c = true then 4 else 0)) (ish 1 ((j : Nat) : Int)) = (if (if 0 = j then true else a) = true then 1 else 0) + (if (if 1 = j then true else b) = true then 2 else 0) + (if (if 2 = j then true else c) = true then 4 else 0) := by
  intro a b c j hj
  rcases (show j = 0 ∨ j = 1 ∨ j = 2 by omega) with rfl | rfl | rfl <;> cases a <;> cases b <;> cases c <;> decide +kernel
theorem fbv_b {f : Nat → Bool} {j : Nat} (hj : j < 3) : w32 (ian (isr (fbv f) (j : Int)) 1) = if f j = true then 1 else 0 := by
  have h := fbv_bit (f 0) (f 1) (f 2) j hj
  rcases (show j = 0 ∨ j = 1 ∨ j = 2 by omega) with rfl | rfl | rfl <;> exact h
theorem fbv_o {f : Nat → Bool} {j : Nat} (hj : j < 3) : ior (fbv f) (ish 1 (j : Int)) = fbv (fun m => if m = j then true else f m) := fbv_or (f 0) (f 1) (f 2) j hj
def OKMS (K : Mem) (bs : List Int) : Option (GS × (Nat → Bool) × Nat) → Prop
  | some s => BfM K bs ∧ GW K s.1 ∧ TM K bs s.2.2 ∧ K 26 0 25 = 0 ∧ K 26 0 28 = fbv s.2.1
  | none => ERR K
theorem m_least {j : Nat} (hj : j < 3) : f_M_leastOf (j : Int) I = some (wLow ([3, 4, 2].getD j 0), I) := by
  unfold f_M_leastOf
  rcases (show j = 0 ∨ j = 1 ∨ j = 2 by omega) with rfl | rfl | rfl
  · rw [if_pos (by decide)]; rfl
  · rw [if_neg (by decide)]; rfl
  · rw [if_neg (by decide)]; rfl
theorem m_most {j : Nat} (hj : j < 3) : f_M_mostOf (j : Int) I = some (wHig ([3, 4, 2].getD j 0), I) := by
  unfold f_M_mostOf
  rcases (show j = 0 ∨ j = 1 ∨ j = 2 by omega) with rfl | rfl | rfl
  · rw [if_pos (by decide)]; rfl
  · rw [if_neg (by decide), if_pos (by decide)]; rfl
  · rw [if_neg (by decide), if_neg (by decide)]; rfl
theorem t_mstm (hl : bs.length ≤ 600) (hr : ∀ b ∈ bs, 1 ≤ b ∧ b ≤ 255) {f : Nat → Bool} (hp : p ≤ bs.length) (hB : BfM I bs) (hG : GW I g) (hT : TM I bs p) (he : I 26 0 25 = 0) (h28 : I 26 0 28 = fbv f) : Tr (f_M_statement I) (fun _ K => OKMS K bs (stm bs g f p) ∧ Fm FSm I K) := by
  have hE := tE_le hp
  have hE2 := tE_le hE.2.1
  have bad : ∀ K : Mem, ERR K → ¬ ((wd bs p = 3 ∨ wd bs p = 4 ∨ wd bs p = 2) ∧ f (wj (wd bs p)) = false ∧ nbE bs (tE bs p) (wLow (wd bs p)) (wHig (wd bs p)) = 0) → OKMS K bs (stm bs g f p) := fun K hK hn => by
    unfold stm
    rw [if_neg hn]
    exact hK
  have j43 : ∀ j : Nat, j < 3 → wd bs p = [3, 4, 2].getD j 0 → Tr (f_M_statement_j43 (j : Int) I) (fun _ K => OKMS K bs (stm bs g f p) ∧ Fm FSm I K) := by
    intro j hj hw
    have hwj : wj (wd bs p) = j := by
      rw [hw]
      rcases (show j = 0 ∨ j = 1 ∨ j = 2 by omega) with rfl | rfl | rfl <;> rfl
    have hw3 : wd bs p = 3 ∨ wd bs p = 4 ∨ wd bs p = 2 := by
      rw [hw]
      rcases (show j = 0 ∨ j = 1 ∨ j = 2 by omega) with rfl | rfl | rfl <;> decide
    have hlo : 0 ≤ wLow (wd bs p) ∧ wLow (wd bs p) ≤ 1000 ∧ 0 ≤ wHig (wd bs p) ∧ wHig (wd bs p) ≤ 1000 := by
      rcases hw3 with z | z | z <;> rw [z] <;> decide
    unfold f_M_statement_j43
    rw [w32_of (x := (j : Int)) (by omega) (by omega), if_neg (by omega), mf_0 he (by decide), bnd_some, if_pos (by decide)]
    unfold f_M_isOnce
    rw [h28, fbv_b hj]
    by_cases qf : f j = true
    · rw [if_pos qf, if_pos rfl]
      refine tr_call (P := fun x K => x = 0 ∧ K 26 0 25 = 3 ∧ Fm FEm I K) ?_ ?_
      · refine tr_call (mf_1 he (by decide) (by decide)) ?_
        rintro x K ⟨rfl, b, f⟩
        rw [if_neg (by decide)]
        exact tr_ret ⟨rfl, b, f⟩
      · rintro x K ⟨rfl, b, fk⟩
        rw [if_pos (by decide)]
        refine tr_ret ⟨bad _ (ERR.of b (by decide)) (fun z => ?_), fk.mono fem_s⟩
        rw [hwj, qf] at z
        exact absurd z.2.1 (by decide)
    · have qf' : f j = false := by
        cases e : f j with
        | true => exact absurd e qf
        | false => rfl
      rw [if_neg qf, if_neg (by decide), mf_0 he (by decide), bnd_some, if_pos (by decide)]
      try dsimp only [ltI]
      rw [h28, fbv_o hj]
      have f1 : Fm (fun k i s => k = 26 ∧ i = 0 ∧ s = 28) I (sI I 26 0 28 (fbv (fun m => if m = j then true else f m))) := Fm.sI (by decide) (by omega) (by omega) ⟨rfl, rfl, rfl⟩
      have a28 : (sI I 26 0 28 (fbv (fun m => if m = j then true else f m))) 26 0 28 = fbv (fun m => if m = j then true else f m) := sI_self _ _ _ _ _
      generalize sI I 26 0 28 (fbv (fun m => if m = j then true else f m)) = J1 at f1 a28
      have hB1 : BfM J1 bs := hB.fm f1 (by omega) (fun s => by omega)
      have hT1 : TM J1 bs p := hT.fm f1 (fun s _ _ => by omega)
      refine tr_call (P := fun x K => x = 1 ∧ TM K bs (tE bs p) ∧ K 26 0 25 = 0 ∧ Fm FMx J1 K) ?_ ?_
      · refine tr_call (tm_advS hB1 hl hr hp hT1) ?_
        rintro _ K ⟨a, b, c⟩
        exact tr_ret ⟨rfl, a, by rw [b, f1.at (by decide) (by omega), he], c⟩
      · rintro x J2 ⟨rfl, t2, e2, f2⟩
        rw [if_neg (by decide), m_least hj, bnd_some, m_most hj, bnd_some, ← hw]
        refine tr_call (t_mnumber (hB1.mx f2) hl hr hE.2.1 t2 e2 ⟨hlo.1, hlo.2.1⟩ ⟨hlo.2.2.1, hlo.2.2.2⟩) ?_
        rintro x J3 ⟨n1, n2, f3⟩
        have f13 : Fm FSm I J3 := (f1.mono (fun a b c z => Or.inr (by omega))).trans ((f2.trans f3).mono fmx_s)
        rw [if_pos (by omega), Int.toNat_natCast]
        try dsimp only [ltI]
        refine tr_ret ⟨?_, f13.trans (sIW.mono (fun a b c z => Or.inl (Or.inl (Or.inl z))))⟩
        by_cases c1 : nbE bs (tE bs p) (wLow (wd bs p)) (wHig (wd bs p)) = 0
        · obtain ⟨v1, v2, v3⟩ := n1 c1
          have hG3 : GW J3 g := ((hG.fm f1 (fun s _ z => by omega)).mx f2).mx f3
          unfold stm
          rw [if_pos ⟨hw3, by rw [hwj]; exact qf', c1⟩, hwj, v1]
          refine ⟨(hB.ss f13).fm sIW (by unfold FW; omega) (fun s => by unfold FW; omega), hG3.num hj, v2.fm sIW (fun s _ _ => by unfold FW; omega), ?_, ?_⟩
          · rw [sI_ne (by omega)]; exact v3
          · rw [sI_ne (by omega), (f2.trans f3).at (by decide) (by unfold FMx; omega), a28]
        · refine bad _ ?_ (fun z => c1 z.2.2)
          refine ERR.of (by rw [sI_ne (by omega), n2 c1]) ?_
          unfold nbE at c1 ⊢
          by_cases z : tK bs (tE bs p) ≠ 2
          · rw [if_pos z]; decide
          · rw [if_neg z] at c1 ⊢
            by_cases z2 : wLow (wd bs p) ≤ nV bs (tE bs p) ∧ nV bs (tE bs p) ≤ wHig (wd bs p)
            · rw [if_pos z2] at c1; exact absurd rfl c1
            · rw [if_neg z2]; decide
  unfold f_M_statement
  rw [m_isKey hB hl hr hp hT he (i := 3) (by decide), bnd_some]
  by_cases q3 : wd bs p = 3
  · rw [if_neg (wb_pos q3)]
    exact j43 0 (by decide) q3
  · rw [if_pos (wb_neg q3), m_isKey hB hl hr hp hT he (i := 4) (by decide), bnd_some]
    by_cases q4 : wd bs p = 4
    · rw [if_neg (wb_pos q4)]
      exact j43 1 (by decide) q4
    · rw [if_pos (wb_neg q4), m_isKey hB hl hr hp hT he (i := 2) (by decide), bnd_some]
      by_cases q2 : wd bs p = 2
      · rw [if_neg (wb_pos q2)]
        exact j43 2 (by decide) q2
      · rw [if_pos (wb_neg q2)]
        unfold f_M_statement_j43
        rw [if_pos (by decide)]
        refine tr_call (mf_1 he (by decide) (by decide)) ?_
        rintro x K ⟨rfl, b, fk⟩
        rw [if_neg (by decide)]
        exact tr_ret ⟨bad _ (ERR.of b (by decide)) (fun z => by omega), fk.mono fem_s⟩
theorem w89_err (he : w32 (I 26 0 25) ≠ 0) : whl f_M_setup_w89 () I = some ((), I) := by
  rw [whl_eq]
  unfold f_M_setup_w89
  rw [m_isSignE he, bnd_some, if_pos (by decide)]
def OKML (K : Mem) (bs : List Int) : Option GS → Prop
  | some g => BfM K bs ∧ GW K g ∧ TG g ∧ K 26 0 25 = 0 ∧ w32 (K 26 0 23) = 0
  | none => ERR K ∨ (K 26 0 25 = 0 ∧ w32 (K 26 0 23) ≠ 0)
theorem t_mstms (hl : bs.length ≤ 600) (hr : ∀ b ∈ bs, 1 ≤ b ∧ b ≤ 255) : ∀ (n p : Nat) (g : GS) (f : Nat → Bool) (I : Mem), p ≤ bs.length → bs.length - p < n → TG g → BfM I bs → GW I g → TM I bs p → I 26 0 25 = 0 → I 26 0 28 = fbv f → Tr (whl f_M_setup_w89 () I) (fun _ K => OKML K bs (sts bs n g f p) ∧ Fm FSm I K) := by
  intro n
  induction n with
  | zero => intro p g f I _ h; omega
  | succ n ih =>
    intro p g f I hp hn hW hB hG hT he h28
    have hE := tE_le hp
    refine tr_step ?_
    have e0 : sts bs (n + 1) g f p = if tK bs p = 0 then some g else if tK bs p = 3 then (match stm bs g f (tE bs p) with
      | none => none
      | some s => sts bs n s.1 s.2.1 s.2.2) else none := rfl
    rw [e0]
    unfold f_M_setup_w89
    rw [m_isSign hB hl hr hp hT he (c := 59) (k := 3) (by omega), bnd_some]
    by_cases q3 : tK bs p = 3
    · have hgt := tE_gt (bs := bs) (p := p) (by omega) hp
      rw [if_neg (wb_pos q3), if_neg (by omega), if_pos q3]
      refine tr_call (tm_advS hB hl hr hp hT) ?_
      rintro _ J1 ⟨t1, e1, f1⟩
      refine tr_call (t_mstm hl hr hE.2.1 (hB.mx f1) (hG.mx f1) t1 (e1.trans he) (f := f) (by rw [f1.at (by decide) (by unfold FMx; omega)]; exact h28)) ?_
      rintro _ J2 ⟨ok, f2⟩
      have f12 := (f1.mono fmx_s).trans f2
      refine tr_ret ?_
      show Tr (whl f_M_setup_w89 () J2) _
      cases hc : stm bs g f (tE bs p) with
      | none =>
        rw [hc] at ok
        have ok : ERR J2 := ok
        rw [w89_err ok.ne]
        exact tr_ret ⟨Or.inl ok, f12⟩
      | some s =>
        rw [hc] at ok
        obtain ⟨sB, sG, sT, se, s28⟩ := ok
        obtain ⟨w1, w2, w3⟩ := hW.stmP hE.2.1 hc
        refine tr_mono (ih s.2.2 s.1 s.2.1 J2 w3 (by omega) w1 sB sG sT se s28) ?_
        rintro _ K ⟨a, b⟩
        exact ⟨a, f12.trans b⟩
    · rw [if_pos (wb_neg q3)]
      refine tr_ret ?_
      show OKML I bs _ ∧ Fm FSm I I
      by_cases q0 : tK bs p = 0
      · rw [if_pos q0]
        exact ⟨⟨hB, hG, hW, he, by rw [hT.1]; exact (km_0 bs p).mpr q0⟩, Fm.refl _ _⟩
      · rw [if_neg q0, if_neg q3]
        exact ⟨Or.inr ⟨he, by rw [hT.1]; exact fun z => q0 ((km_0 bs p).mp z)⟩, Fm.refl _ _⟩
/-- the text is told -/
theorem t_tellsG (h : GW I g) (w : PWF g) : Tr (f_M_tellsText I) (fun _ J => GW J (gBegin g (gTx g)) ∧ Fm FMC I J) := by
  have hlen := gTx_lenP w
  have h4 := w.2.2
  unfold f_M_tellsText
  refine tr_call (t_munfoldsP h w) ?_
  rintro x J0 ⟨rfl, hU, f0⟩
  try dsimp only [ltI]
  have hG0 : GW J0 g := h.fm f0 (fun s _ z => by unfold FUN at z; omega)
  have f1 : Fm FWT J0 (sI J0 27 0 3 ((gTx g).length : Int)) := Fm.sI (by decide) (by omega) (by omega) ⟨rfl, rfl, Or.inl rfl⟩
  have a3 : (sI J0 27 0 3 ((gTx g).length : Int)) 27 0 3 = ((gTx g).length : Int) := sI_self _ _ _ _ _
  have a7 : ∀ q : Nat, q < (gTx g).length → (sI J0 27 0 3 ((gTx g).length : Int)) 27 7 q = (gTx g).getD q (-1) := fun q hq => by rw [sI_ne (by omega)]; exact (hU q hq).1
  generalize sI J0 27 0 3 ((gTx g).length : Int) = J1 at f1 a3 a7
  refine tr_call (P := fun _ K => (∀ j : Nat, j < (gTx g).length → K 27 0 (16460 + j) = (gTx g).getD j (-1)) ∧ K 27 0 3 = ((gTx g).length : Int) ∧ Fm FWT J1 K) (tr_cnt (fun j => (j : Int)) (fun k K => (∀ j : Nat, j < k → K 27 0 (16460 + j) = (gTx g).getD j (-1)) ∧ K 27 0 3 = ((gTx g).length : Int) ∧ Fm FWT J1 K) (gTx g).length rfl ⟨fun j hj => absurd hj (by omega), a3, Fm.refl _ _⟩ ?_ ?_) ?_
  · rintro k K hk ⟨b1, b2, f⟩
    unfold f_M_tellsText_w12
    rw [b2, w32_of (x := (k : Int)) (by omega) (by omega), w32_of (x := ((gTx g).length : Int)) (by omega) (by omega), if_pos (by omega), if_pos (by omega), w32_of (x := 16460 + (k : Int)) (by omega) (by omega), if_pos (by omega), Int.toNat_natCast, show (16460 + (k : Int)).toNat = 16460 + k by omega]
    try dsimp only [ltI]
    refine tr_ret ⟨rfl, fun j hj => ?_, by rw [sI_ne (by omega)]; exact b2, f.trans (Fm.sI (by decide) (by omega) (by omega) ⟨rfl, rfl, Or.inr (by omega)⟩)⟩
    by_cases q : j = k
    · rw [q, sI_self, f.at (by decide) (by unfold FWT; omega)]
      exact a7 k hk
    · rw [sI_ne (by omega)]
      exact b1 j (by omega)
  · rintro K ⟨b1, b2, f⟩
    unfold f_M_tellsText_w12
    rw [b2, w32_of (x := ((gTx g).length : Int)) (by omega) (by omega), if_neg (by omega)]
    exact tr_ret ⟨b1, b2, f⟩
  · rintro _ K ⟨b1, b2, f⟩
    have hT : GW K (gsT g (gTx g)) := GW.told (l := gTx g) hG0 (by omega) b2 b1 (f1.trans f)
    rw [m_rules hT, bnd_some]
    try dsimp only [ltI]
    refine tr_ret ⟨hT.first, (f0.mono (fun a b c z => by unfold FUN at z; exact Or.inr z)).trans (((f1.trans f).mono (fun a b c z => Or.inl ⟨z.1, z.2.1⟩)).trans (sIW.mono (fun a b c z => Or.inl z)))⟩
abbrev FSt : FP := fun k i s => FSm k i s ∨ FMC k i s
theorem t_msetup (hl : bs.length ≤ 600) (hr : ∀ b ∈ bs, 1 ≤ b ∧ b ≤ 255) (hB : BfM I bs) : Tr (f_M_setup I) (fun _ K => (match setP bs with
    | some g => K 26 0 25 = 0 ∧ GW K (gBegin g (gTx g)) ∧ TG g
    | none => ERR K) ∧ Fm FSt I K) := by
  unfold f_M_setup
  try dsimp only [ltI]
  have f1 : Fm FSt I (sI (sI (sI (sI I 26 0 22 0) 26 0 25 0) 26 0 28 0) 26 0 30 0) := (((Fm.sI (by decide) (by omega) (by omega) (Or.inl (fmx_s _ _ _ ⟨rfl, rfl, by omega, by omega⟩))).trans (Fm.sI (by decide) (by omega) (by omega) (Or.inl (fmx_s _ _ _ ⟨rfl, rfl, by omega, by omega⟩)))).trans (Fm.sI (by decide) (by omega) (by omega) (Or.inl (Or.inr ⟨rfl, rfl, by omega⟩)))).trans (Fm.sI (by decide) (by omega) (by omega) (Or.inl (Or.inr ⟨rfl, rfl, by omega⟩)))
  have a22 : (sI (sI (sI (sI I 26 0 22 0) 26 0 25 0) 26 0 28 0) 26 0 30 0) 26 0 22 = ((0 : Nat) : Int) := by rw [sI_ne (by omega), sI_ne (by omega), sI_ne (by omega), sI_self]; rfl
  have a25 : (sI (sI (sI (sI I 26 0 22 0) 26 0 25 0) 26 0 28 0) 26 0 30 0) 26 0 25 = 0 := by rw [sI_ne (by omega), sI_ne (by omega), sI_self]
  have a28 : (sI (sI (sI (sI I 26 0 22 0) 26 0 25 0) 26 0 28 0) 26 0 30 0) 26 0 28 = 0 := by rw [sI_ne (by omega), sI_self]
  have a30 : (sI (sI (sI (sI I 26 0 22 0) 26 0 25 0) 26 0 28 0) 26 0 30 0) 26 0 30 = ((0 : Nat) : Int) := sI_self _ _ _ _ _
  have hB1 : BfM (sI (sI (sI (sI I 26 0 22 0) 26 0 25 0) 26 0 28 0) 26 0 30 0) bs := (((hB.m22 (by decide)).m22 (by decide)).m22 (by decide)).m22 (by decide)
  generalize sI (sI (sI (sI I 26 0 22 0) 26 0 25 0) 26 0 28 0) 26 0 30 0 = J1 at f1 a22 a25 a28 a30 hB1
  refine tr_call t_begins ?_
  rintro _ J2 ⟨hG2, f2⟩
  have k2 : ∀ s : Nat, J2 26 0 s = J1 26 0 s := fun s => f2.at (by decide) (by unfold FW; omega)
  have hB2 : BfM J2 bs := hB1.fm f2 (by unfold FW; omega) (fun s => by unfold FW; omega)
  refine tr_call (tm_adv hB2 hl hr (p := 0) (Nat.zero_le _) (by rw [k2]; exact a22)) ?_
  rintro _ J3 ⟨t3, f3⟩
  have f13 : Fm FSt I J3 := f1.trans ((f2.mono (fun a b c z => Or.inl (Or.inl (Or.inl (Or.inl z))))).trans (f3.mono (fun a b c z => Or.inl (fmx_s _ _ _ (fam_mx _ _ _ z)))))
  have k3 : ∀ s : Nat, 24 < s → J3 26 0 s = J1 26 0 s := fun s hs => by rw [f3.at (by decide) (by unfold FAm; omega), k2]
  refine tr_call (t_mrules hl hr 41 0 0 g0 J3 rfl (Nat.zero_le _) g0_pg (hB2.mx (f3.mono fam_mx)) (hG2.mx (f3.mono fam_mx)) t3 (by rw [k3 _ (by decide)]; exact a25) (by rw [k3 _ (by decide)]; exact a30)) ?_
  rintro _ J4 ⟨ok, f4⟩
  have f14 : Fm FSt I J4 := f13.trans (f4.mono (fun a b c z => Or.inl (fsq_s _ _ _ z)))
  unfold setP
  cases hc : rls bs 41 g0 0 0 with
  | none =>
    rw [hc] at ok
    have ok : ERR J4 := ok
    rw [if_neg ok.ne]
    exact tr_ret ⟨ok, f14⟩
  | some s =>
    rw [hc] at ok
    obtain ⟨sB, sG, sT, se, s30, sP, sp⟩ := ok
    have hE := tE_le sp
    show Tr _ (fun _ K => (match (match stP bs s.1 s.2.1 s.2.2 with
        | none => none
        | some t => sts bs 601 t.1 (fun _ => false) t.2) with
      | some g => K 26 0 25 = 0 ∧ GW K (gBegin g (gTx g)) ∧ TG g
      | none => ERR K) ∧ Fm FSt I K)
    rw [se, if_pos (by decide), m_isKey sB hl hr sp sT se (i := 1) (by decide), bnd_some]
    unfold stP
    by_cases q1 : wd bs s.2.2 = 1
    · rw [if_neg (wb_pos q1), mf_0 se (by decide), bnd_some, if_pos (by decide), if_pos q1]
      refine tr_call (tm_advS sB hl hr sp sT) ?_
      rintro _ J5 ⟨t5, e5, f5⟩
      have e30 : J5 26 0 30 = (s.2.1 : Int) := by rw [f5.at (by decide) (by unfold FMx; omega)]; exact s30
      have a28' : J5 26 0 28 = 0 := by
        rw [f5.at (by decide) (by unfold FMx; omega), f4.at (by decide) (by unfold FSq FRn FRq FW FMx FL; omega), k3 _ (by decide)]
        exact a28
      rw [e30, show (0 : Int) = ((0 : Nat) : Int) from rfl]
      refine tr_call (t_mitems hl hr sP.lr (i := 0) (by omega) hE.2.1 (sB.mx f5) (sG.mx f5) sP.wp sP.ne sP.2.2.2.1 t5 (e5.trans se)) ?_
      rintro _ J6 ⟨ok, f6⟩
      have f16 : Fm FSt I J6 := f14.trans ((f5.mono (fun a b c z => Or.inl (fmx_s _ _ _ z))).trans (f6.mono (fun a b c z => Or.inl (frn_s _ _ _ z))))
      have b28 : J6 26 0 28 = fbv (fun _ => false) := by rw [f6.at (by decide) (by unfold FRn FRq FW FMx FL; omega), a28']; rfl
      -- the end of it
      have fin : ∀ (o : Option GS) (K : Mem), Fm FSt I K → OKML K bs o → Tr (bnd (f_M_faulty (if w32 (K 26 0 23) = 0 then 0 else 1) 1 K) fun x79 J78 => if x79 = 0 ∨ x79 = 1 then ltI (sI J78 26 0 31 x79) fun J80 => if w32 (J80 26 0 25) = 0 then bnd (f_M_tellsText J80) fun _ J83 => some ((), J83) else some ((), J80) else none) (fun _ K => (match o with
          | some g => K 26 0 25 = 0 ∧ GW K (gBegin g (gTx g)) ∧ TG g
          | none => ERR K) ∧ Fm FSt I K) := by
        intro o K fK hK
        have s31 : ∀ (M : Mem) (v : Int), Fm FSt M (sI M 26 0 31 v) := fun M v => Fm.sI (by decide) (by omega) (by omega) (Or.inl (Or.inr ⟨rfl, rfl, by omega⟩))
        cases o with
        | some g =>
          obtain ⟨kB, kG, kW, ke, k23⟩ := hK
          rw [if_pos k23, mf_0 ke (by decide), bnd_some, if_pos (Or.inl rfl)]
          try dsimp only [ltI]
          have e25 : (sI K 26 0 31 0) 26 0 25 = 0 := by rw [sI_ne (by omega)]; exact ke
          rw [e25, if_pos (by decide)]
          have hG31 : GW (sI K 26 0 31 0) g := GWf.congr kG (fun s hs => sI_ne (by omega))
          refine tr_call (t_tellsG hG31 kW.1) ?_
          rintro _ M ⟨hGM, fM⟩
          exact tr_ret ⟨⟨by rw [fM.at (by decide) (by unfold FMC FW; omega)]; exact e25, hGM, kW⟩, fK.trans ((s31 _ _).trans (fM.mono (fun a b c z => Or.inr z)))⟩
        | none =>
          have done : ∀ M : Mem, Fm FSt I M → ERR M → Tr (ltI (sI M 26 0 31 1) fun J80 => if w32 (J80 26 0 25) = 0 then bnd (f_M_tellsText J80) fun _ J83 => some ((), J83) else some ((), J80)) (fun _ K => ERR K ∧ Fm FSt I K) := fun M fM hM => by
            try dsimp only [ltI]
            have e25 : (sI M 26 0 31 1) 26 0 25 = M 26 0 25 := sI_ne (by omega)
            rw [e25, if_neg hM.ne]
            exact tr_ret ⟨by unfold ERR; rw [e25]; exact hM, fM.trans (s31 _ _)⟩
          by_cases z : ERR K
          · rw [mf_E z.ne, bnd_some, if_pos (Or.inr rfl)]
            exact done K fK z
          · have hK : ERR K ∨ (K 26 0 25 = 0 ∧ w32 (K 26 0 23) ≠ 0) := hK
            obtain ⟨ke, k23⟩ := hK.resolve_left z
            rw [if_neg k23]
            refine tr_call (mf_1 ke (by decide) (by decide)) ?_
            rintro x M ⟨rfl, b, f⟩
            rw [if_pos (Or.inr rfl)]
            exact done M (fK.trans (f.mono (fun a b c z => Or.inl (fem_s _ _ _ z)))) (ERR.of b (by decide))
      cases hc2 : items bs (gL s.1) s.2.1 (tE bs s.2.2) with
      | none =>
        rw [hc2] at ok
        have ok : ERR J6 := ok
        rw [w89_err ok.ne, bnd_some]
        exact fin none J6 f16 (Or.inl ok)
      | some t =>
        rw [hc2] at ok
        obtain ⟨cB, cG, cT, ce, c29, c5⟩ := ok
        obtain ⟨i1, i2, i3, i4⟩ := items_inv sP.lr hE.2.1 hc2
        show Tr _ (fun _ K => (match sts bs 601 (gsR s.1 0 t.1) (fun _ => false) t.2 with
          | some g => K 26 0 25 = 0 ∧ GW K (gBegin g (gTx g)) ∧ TG g
          | none => ERR K) ∧ Fm FSt I K)
        refine tr_call (t_mstms hl hr 601 t.2 (gsR s.1 0 t.1) (fun _ => false) J6 i3 (by omega) (sP.tg hE.2.1 hc2) cB cG cT ce b28) ?_
        rintro _ J7 ⟨ok, f7⟩
        exact fin _ J7 (f16.trans (f7.mono (fun a b c z => Or.inl z))) ok
    · rw [if_pos (wb_neg q1), if_neg q1]
      refine tr_call (mf_1 se (by decide) (by decide)) ?_
      rintro x K ⟨rfl, b, f⟩
      rw [if_neg (by decide)]
      refine tr_ret ⟨?_, f14.trans (f.mono (fun a b c z => Or.inl (fem_s _ _ _ z)))⟩
      exact ERR.of b (by decide)
end MSETUP
end
section
/-! ===== load ===== -/
section LOAD
variable {I J : Mem} {g g' : GS} {ps : List GS} {kp : Nat → Option GS} {bs rp : List Int} {s s' : SS}
theorem og_T {fc fm : Mem → Option (Int × Mem)} (h : SI I s) (w : SW s') (hc : Tr (fc I) (fun _ J => SC J s' ∧ Fm FCl I J)) (hm : ∀ J : Mem, SM J s → Tr (fm J) (fun _ K => SM K s' ∧ Fm FMo J K)) : OGT fc fm I := by
  obtain ⟨r1, J, e1, c1, f1⟩ := hc
  obtain ⟨r2, K, e2, c2, f2⟩ := hm J (h.2.1.cl f1)
  exact ⟨r1, r2, J, K, s', e1, e2, ⟨c1.mo f2, c2, w⟩, rm_2 f1 f2⟩
/-- behind a load -/
def ldS (s : SS) : SS := match setP s.2.2.2.1 with
  | some g => (gBegin g (gTx g), [], fun _ => none, [], s.2.2.2.2)
  | none => (s.1, s.2.1, s.2.2.1, [], s.2.2.2.2)
abbrev FLf : FP := fun k i s => FG 1 k i s ∨ k = 6 ∨ k = 7 ∨ k = 0
theorem SC.lf {bs' : List Int} (h : SC I (g, ps, kp, bs, rp)) (f : Fm FLf I J) (g1 : ∃ x : GS, GC J 1 x) (h6 : BfC J bs') : SC J (g, ps, kp, bs', rp) := by
  obtain ⟨a1, a2, a3, a4, a5, a6, a7⟩ := h
  refine ⟨a1.fm f (fun k i s z q => by unfold FG at z; unfold FLf FG at q; omega), a2.go f (fun t => t = 1) (fun t _ z => by subst z; exact g1) (fun t _ z k i s q q2 => by unfold FG at q; unfold FLf FG at q2; omega), a3.fm f (fun i s => ⟨fun z => by unfold FLf FG at z; omega, fun z => by unfold FLf FG at z; omega⟩), a4.fm f (fun s z => by unfold FLf FG at z; omega) (fun t _ _ k i s z q => by unfold FG at z; unfold FLf FG at q; omega), a5.fm f (fun s z => by unfold FLf FG at z; omega) (fun t _ _ k i s z q => by unfold FG at z; unfold FLf FG at q; omega), h6, a7.fm f (fun s z => by unfold FLf FG at z; omega) (fun s z => by unfold FLf FG at z; omega)⟩
abbrev FLs : FP := fun k i s => FG 0 k i s ∨ FG 1 k i s ∨ k = 5 ∨ k = 18 ∨ (k = 9 ∧ s = 4) ∨ k = 24 ∨ k = 0
theorem SC.ls (h : SC I (g, ps, kp, bs, rp)) (f : Fm FLs I J) (g0' : GC J 0 g') (g1 : ∃ x : GS, GC J 1 x) (h9 : J 9 0 4 = 0) (h24 : ∀ j : Nat, j < 2 → J 24 0 j = 0) : SC J (g', [], (fun _ => none), bs, rp) := by
  obtain ⟨a1, a2, a3, a4, a5, a6, a7⟩ := h
  obtain ⟨b1, b2, nx, b3, b4, b5⟩ := a4
  refine ⟨g0', a2.go f (fun t => t = 0 ∨ t = 1) (fun t _ z => ?_) (fun t _ z k i s q q2 => by unfold FG at q; unfold FLs FG at q2; omega), a3.fm f (fun i s => ⟨fun z => by unfold FLs FG at z; omega, fun z => by unfold FLs FG at z; omega⟩), ⟨Nat.zero_le _, h9, nx, b3, by rw [f.at (by decide) (fun z => by unfold FLs FG at z; omega)]; exact b4, fun k hk => absurd hk (Nat.not_lt_zero k)⟩, fun j hj => h24 j hj, a6.fm f (fun z => by unfold FLs FG at z; omega) (fun s z => by unfold FLs FG at z; omega), a7.fm f (fun s z => by unfold FLs FG at z; omega) (fun s z => by unfold FLs FG at z; omega)⟩
  rcases z with rfl | rfl
  · exact ⟨_, g0'⟩
  · exact g1
theorem bfc_0 (h : J 6 0 1 = 0) : BfC J [] := ⟨h, fun j hj => absurd hj (Nat.not_lt_zero j)⟩
theorem t_cload (h : SC I (g, ps, kp, bs, rp)) (hl : bs.length ≤ 600) (hr : ∀ b ∈ bs, 1 ≤ b ∧ b ≤ 255) : Tr (f_PR_load I) (fun _ J => SC J (ldS (g, ps, kp, bs, rp)) ∧ Fm FCl I J) := by
  obtain ⟨x1, hG1⟩ := h.2.1 1 (by decide)
  unfold f_PR_load
  refine tr_call (t_setRead hl hr h.2.2.2.2.2.1 hG1) ?_
  rintro x J1 ⟨ok, hB1, f1⟩
  unfold f_Src_dropAll
  try dsimp only [ltI]
  rw [bnd_some]
  have f2 : Fm (fun k _ s => k = 6 ∧ s = 1) J1 (sI J1 6 0 1 0) := Fm.sI (by decide) (by omega) (by omega) ⟨rfl, rfl⟩
  have a61 : (sI J1 6 0 1 0) 6 0 1 = 0 := sI_self _ _ _ _ _
  generalize sI J1 6 0 1 0 = J2 at f2 a61
  have f12 : Fm FLf I J2 := (f1.mono (fun a b c z => by unfold FLd FSx at z; unfold FLf; omega)).trans (f2.mono (fun a b c z => by unfold FLf; omega))
  have f0 : ∀ v : Int, Fm (fun k _ _ => k = 0) J2 (sI J2 0 0 9 v) := fun v => Fm.sI (by decide) (by omega) (by omega) rfl
  have lfcl : ∀ k i s : Nat, FLf k i s → FCl k i s := fun k i s z => by unfold FLf FG at z; unfold FCl; omega
  unfold ldS
  show Tr _ (fun _ J => SC J (match setP bs with
    | some g => (gBegin g (gTx g), [], fun _ => none, [], rp)
    | none => (g, ps, kp, [], rp)) ∧ Fm FCl I J)
  cases hc : setP bs with
  | none =>
    rw [hc] at ok
    obtain ⟨rfl, y, hy⟩ := ok
    rw [if_pos (by decide)]
    unfold f_PR_failure
    try dsimp only [ltI]
    rw [bnd_some]
    have hy2 : GC J2 1 y := hy.fm f2 (fun k i s z q => by unfold FG at z; omega)
    have f3 : Fm FLf I (sI J2 0 0 9 (J2 6 0 7)) := f12.trans ((f0 _).mono (fun a b c z => by unfold FLf; omega))
    refine tr_ret ⟨h.lf f3 ⟨y, hy2.fm (f0 _) (fun k i s z q => by unfold FG at z; omega)⟩ (bfc_0 ?_), f3.mono lfcl⟩
    rw [sI_ne (by omega)]
    exact a61
  | some u =>
    rw [hc] at ok
    obtain ⟨rfl, hy, hW⟩ := ok
    rw [if_neg (by decide)]
    have hy2 : GC J2 1 u := hy.fm f2 (fun k i s z q => by unfold FG at z; omega)
    have hS2 : SC J2 (g, ps, kp, [], rp) := h.lf f12 ⟨u, hy2⟩ (bfc_0 a61)
    have f3 := f0 (-1)
    have hy3 : GC (sI J2 0 0 9 (-1)) 1 u := hy2.fm f3 (fun k i s z q => by unfold FG at z; omega)
    generalize sI J2 0 0 9 (-1) = J3 at f3 hy3
    refine tr_call (t_unfoldP hy3 hW.1) ?_
    rintro _ J4 ⟨hT4, f4⟩
    refine tr_call (t_beginWith hT4 (hy3.fsv f4)) ?_
    rintro _ J5 ⟨hy5, f5⟩
    have f25 : Fm FLs J2 J5 := (f3.mono (fun a b c z => by unfold FLs; omega)).trans ((f4.mono (fun a b c z => by unfold FSV at z; unfold FLs; omega)).trans (f5.mono (fun a b c z => Or.inr (Or.inl z))))
    have hg5 : GC J5 0 g := hS2.1.fm ((f3.mono (fun a b c z => ⟨by omega, Or.inl z⟩)).trans ((f4.mono (fun a b c z => ⟨by omega, z.elim (fun y => Or.inr (Or.inl y)) (fun y => Or.inr (Or.inr (Or.inl y)))⟩)).trans (f5.mono (fun a b c z => ⟨by unfold FG at z; omega, Or.inr (Or.inr (Or.inr z))⟩))) : Fm (fun k i s => k ≠ 26 ∧ (k = 0 ∨ k = 5 ∨ k = 18 ∨ FG 1 k i s)) J2 J5) (fun k i s z q => by unfold FG at z q; omega)
    refine tr_call (t_gtakeFrom (t := 0) (a := 1) hg5 hy5 (by decide)) ?_
    rintro _ J6 ⟨hg6, f6⟩
    have hy6 : GC J6 1 (gBegin u (gTx u)) := hy5.fm f6 (fun k i s z q => by unfold FG at z q; omega)
    unfold f_His_forgetPast
    try dsimp only [ltI]
    rw [bnd_some]
    have f7 : Fm (fun k _ s => k = 9 ∧ s = 4) J6 (sI J6 9 0 4 0) := Fm.sI (by decide) (by omega) (by omega) ⟨rfl, rfl⟩
    have a94 : (sI J6 9 0 4 0) 9 0 4 = 0 := sI_self _ _ _ _ _
    generalize sI J6 9 0 4 0 = J7 at f7 a94
    unfold f_His_forgetSaved
    refine tr_call (P := fun _ K => (∀ j : Nat, j < 2 → K 24 0 j = 0) ∧ Fm (fun k _ _ => k = 24) J7 K) (tr_call (tr_cnt (fun j => (j : Int)) (fun n K => (∀ j : Nat, j < n → K 24 0 j = 0) ∧ Fm (fun k _ _ => k = 24) J7 K) 2 rfl ⟨fun j hj => absurd hj (by omega), Fm.refl _ _⟩ ?_ ?_) (fun _ _ q => tr_ret q)) ?_
    · rintro n K hn ⟨b1, f⟩
      unfold f_His_forgetSaved_w2
      rw [w32_of (x := (n : Int)) (by omega) (by omega), if_pos (by omega), if_pos (by omega), Int.toNat_natCast]
      try dsimp only [ltI]
      refine tr_ret ⟨rfl, fun j hj => ?_, f.trans (Fm.sI (by decide) (by omega) (by omega) rfl)⟩
      by_cases q : j = n
      · rw [q, sI_self]
      · rw [sI_ne (by omega)]; exact b1 j (by omega)
    · rintro K ⟨b1, f⟩
      unfold f_His_forgetSaved_w2
      rw [if_neg (by decide)]
      exact tr_ret ⟨b1, f⟩
    · rintro _ J8 ⟨a24, f8⟩
      have f78 : Fm (fun k _ s => (k = 9 ∧ s = 4) ∨ k = 24) J6 J8 := (f7.mono (fun a b c z => Or.inl z)).trans (f8.mono (fun a b c z => Or.inr z))
      have hg8 : GC J8 0 (gBegin u (gTx u)) := hg6.fm f78 (fun k i s z q => by unfold FG at z; omega)
      have hy8 : GC J8 1 (gBegin u (gTx u)) := hy6.fm f78 (fun k i s z q => by unfold FG at z; omega)
      have f28 : Fm FLs J2 J8 := f25.trans ((f6.mono (fun a b c z => Or.inl z)).trans (f78.mono (fun a b c z => z.elim (fun y => Or.inr (Or.inr (Or.inr (Or.inr (Or.inl y))))) (fun y => Or.inr (Or.inr (Or.inr (Or.inr (Or.inr (Or.inl y)))))))))
      have h94 : J8 9 0 4 = 0 := by rw [f8.at (by decide) (by omega)]; exact a94
      rw [g_textLength hg8 (fun i hi => hW.wf.sy hi), bnd_some]
      refine tr_ret ⟨hS2.ls f28 hg8 ⟨_, hy8⟩ h94 a24, (f12.mono lfcl).trans (f28.mono (fun a b c z => by unfold FLs FG at z; unfold FCl; omega))⟩
theorem bfm_0 (h : J 26 0 20 = 0) : BfM J [] := ⟨h, fun j hj => absurd hj (Nat.not_lt_zero j)⟩
theorem t_mended (h : ERR I ∨ I 26 0 25 = 0) : Tr (f_M_ended I) (fun x K => x = (if I 26 0 25 = 0 then 0 else -10 - I 26 0 25) ∧ K 26 0 20 = 0 ∧ Fm (fun k i s => k = 26 ∧ i = 0 ∧ (s = 20 ∨ s = 27)) I K) := by
  have key : ∀ v : Int, Tr (f_M_ended_j21 v (sI I 26 0 20 0)) (fun x K => x = (if I 26 0 25 = 0 then 0 else -10 - I 26 0 25) ∧ K 26 0 20 = 0 ∧ Fm (fun k i s => k = 26 ∧ i = 0 ∧ (s = 20 ∨ s = 27)) I K) := fun v => by
    unfold f_M_ended_j21
    try dsimp only [ltI]
    have e25 : (sI (sI I 26 0 20 0) 26 0 27 v) 26 0 25 = I 26 0 25 := by rw [sI_ne (by omega), sI_ne (by omega)]
    have f : Fm (fun k i s => k = 26 ∧ i = 0 ∧ (s = 20 ∨ s = 27)) I (sI (sI I 26 0 20 0) 26 0 27 v) := (Fm.sI (by decide) (by omega) (by omega) ⟨rfl, rfl, Or.inl rfl⟩).trans (Fm.sI (by decide) (by omega) (by omega) ⟨rfl, rfl, Or.inr rfl⟩)
    have e20 : (sI (sI I 26 0 20 0) 26 0 27 v) 26 0 20 = 0 := by rw [sI_ne (by omega), sI_self]
    rw [e25]
    by_cases q : I 26 0 25 = 0
    · rw [if_pos q, q, if_pos (by decide)]
      exact tr_ret ⟨rfl, e20, f⟩
    · rw [if_neg q, if_neg (h.resolve_right q).ne]
      exact tr_ret ⟨rfl, e20, f⟩
  unfold f_M_ended
  try dsimp only [ltI]
  by_cases q : w32 ((sI I 26 0 20 0) 26 0 25) = 0
  · rw [if_pos q]; exact key _
  · rw [if_neg q]; exact key _
theorem t_masideG (h : GW J g) : Tr (f_M_aside J) (fun _ K => GW K g ∧ GB K 1 0 g ∧ Fm (fun k i _ => k = 27 ∧ i = 1) J K) := by
  unfold f_M_aside
  refine tr_call (t_mlays (k := 0) (b := 0) (k' := 1) (b' := 0) (I := J) (by decide) (by decide) (by decide) (by decide) (by decide) (by decide) (by decide)) ?_
  rintro _ K ⟨hc, f⟩
  refine tr_ret ⟨h.fm f (fun s _ z => absurd z.2.1 (by decide)), GWf.congr h (fun s hs => ?_), f.mono (fun a b c z => ⟨z.1, z.2.1⟩)⟩
  show K 27 1 (0 + s) = J 27 0 s
  rw [hc s hs, Nat.zero_add]
theorem t_mbackG (r : Int) (h : GB J 1 0 g) : Tr (f_M_back r J) (fun x K => x = r ∧ GW K g ∧ Fm (fun k i _ => k = 27 ∧ i = 0) J K) := by
  unfold f_M_back
  refine tr_call (t_mlays (k := 1) (b := 0) (k' := 0) (b' := 0) (I := J) (by decide) (by decide) (by decide) (by decide) (by decide) (by decide) (by decide)) ?_
  rintro _ K ⟨hc, f⟩
  exact tr_ret ⟨rfl, GB.copy hc h, f.mono (fun a b c z => ⟨z.1, z.2.1⟩)⟩
abbrev FLm : FP := fun k i s => (k = 27 ∧ i ≠ 3 ∧ i ≠ 4 ∧ i ≠ 14 ∧ i ≠ 22) ∨ (k = 26 ∧ s ≠ 6 ∧ s ≠ 43)
theorem fst_lm : ∀ k i s : Nat, FSt k i s → FLm k i s := fun k i s z => by unfold FSt FSm FRn FRq FW FMx FL FMC FW at z; unfold FLm; omega
theorem t_mload (h : SM J (g, ps, kp, bs, rp)) (hl : bs.length ≤ 600) (hr : ∀ b ∈ bs, 1 ≤ b ∧ b ≤ 255) : Tr (f_M_load J) (fun _ K => SM K (ldS (g, ps, kp, bs, rp)) ∧ Fm FMo J K) := by
  have s0 := h.t7 (v := 0)
  have f0 : Fm FLm J (sI J 26 0 7 0) := Fm.sI (by decide) (by omega) (by omega) (Or.inr ⟨rfl, by decide, by decide⟩)
  unfold f_M_load
  try dsimp only [ltI]
  generalize sI J 26 0 7 0 = J0 at s0 f0
  refine tr_call (t_masideG s0.1) ?_
  rintro _ J1 ⟨hG1, hB1, f1⟩
  have hb1 : BfM J1 bs := s0.2.2.2.1.fm f1 (by omega) (fun s => by omega)
  refine tr_call (t_msetup hl hr hb1) ?_
  rintro _ J2 ⟨ok, f2⟩
  have f12 : Fm FLm J0 J2 := (f1.mono (fun a b c z => by unfold FLm; omega)).trans (f2.mono fst_lm)
  have hB2 : GB J2 1 0 g := hB1.fm f2 (fun s _ _ => by unfold FSt FSm FRn FRq FW FMx FL FMC FW; omega)
  have lmmo : ∀ k i s : Nat, FLm k i s → FMo k i s := fun k i s z => by unfold FLm at z; unfold FMo; omega
  unfold ldS
  show Tr _ (fun _ K => SM K (match setP bs with
    | some g => (gBegin g (gTx g), [], fun _ => none, [], rp)
    | none => (g, ps, kp, [], rp)) ∧ Fm FMo J K)
  cases hc : setP bs with
  | none =>
    rw [hc] at ok
    have ok : ERR J2 := ok
    have ok2 := ok
    unfold ERR at ok2
    refine tr_call (t_mended (Or.inl ok)) ?_
    rintro x J3 ⟨rfl, e20, f3⟩
    rw [if_neg (show ¬ J2 26 0 25 = 0 by omega), w32_of (x := -10 - J2 26 0 25) (by omega) (by omega), if_pos (by omega)]
    refine tr_call (t_mbackG _ (hB2.fm f3 (fun s _ _ z => by omega))) ?_
    rintro x J4 ⟨rfl, hG4, f4⟩
    have f04 : Fm FLm J0 J4 := f12.trans ((f3.mono (fun a b c z => by unfold FLm; omega)).trans (f4.mono (fun a b c z => by unfold FLm; omega)))
    exact tr_ret ⟨⟨hG4, s0.2.1.fm f04 (fun z => by unfold FLm at z; omega) (fun s z => by unfold FLm at z; omega), s0.2.2.1.fm f04 (fun s z => by unfold FLm at z; omega) (fun s z => by unfold FLm at z; omega), bfm_0 (by rw [f4.at (by decide) (by omega)]; exact e20), s0.2.2.2.2.fm f04 (fun z => by unfold FLm at z; omega) (fun s z => by unfold FLm at z; omega)⟩, (f0.trans f04).mono lmmo⟩
  | some u =>
    rw [hc] at ok
    obtain ⟨e25, hG2, hW⟩ := ok
    refine tr_call (t_mended (Or.inr e25)) ?_
    rintro x J3 ⟨rfl, e20, f3⟩
    rw [if_pos e25, if_neg (by decide)]
    try dsimp only [ltI]
    have f03 : Fm FLm J0 J3 := f12.trans (f3.mono (fun a b c z => by unfold FLm; omega))
    have f4 : Fm (fun k i s => (k = 26 ∧ i = 0 ∧ s = 6) ∨ (k = 28 ∧ i = 0)) J3 (sI (sI (sI J3 26 0 6 0) 28 0 0 0) 28 0 1 0) := ((Fm.sI (by decide) (by omega) (by omega) (Or.inl ⟨rfl, rfl, rfl⟩)).trans (Fm.sI (by decide) (by omega) (by omega) (Or.inr ⟨rfl, rfl⟩))).trans (Fm.sI (by decide) (by omega) (by omega) (Or.inr ⟨rfl, rfl⟩))
    have a6 : (sI (sI (sI J3 26 0 6 0) 28 0 0 0) 28 0 1 0) 26 0 6 = 0 := by rw [sI_ne (by omega), sI_ne (by omega), sI_self]
    have a28 : ∀ j : Nat, j < 2 → (sI (sI (sI J3 26 0 6 0) 28 0 0 0) 28 0 1 0) 28 0 j = 0 := fun j hj => by
      rcases (show j = 0 ∨ j = 1 by omega) with rfl | rfl
      · rw [sI_ne (by omega), sI_self]
      · rw [sI_self]
    generalize sI (sI (sI J3 26 0 6 0) 28 0 0 0) 28 0 1 0 = J4 at f4 a6 a28
    have hG4 : GW J4 (gBegin u (gTx u)) := (hG2.fm f3 (fun s _ z => by omega)).fm f4 (fun s _ z => by omega)
    have fall : Fm (fun k i s => FLm k i s ∨ (k = 26 ∧ s = 6) ∨ k = 28) J0 J4 := (f03.mono (fun a b c z => Or.inl z)).trans (f4.mono (fun a b c z => by omega))
    exact tr_ret ⟨⟨hG4, ⟨Nat.zero_le _, a6, fun k hk => absurd hk (Nat.not_lt_zero k)⟩, fun j hj => a28 j hj, bfm_0 (by rw [f4.at (by decide) (by omega)]; exact e20), s0.2.2.2.2.fm fall (fun z => by unfold FLm at z; omega) (fun s z => by unfold FLm at z; omega)⟩, (f0.mono lmmo).trans (fall.mono (fun a b c z => by unfold FLm at z; unfold FMo; omega))⟩
theorem ldS_sw {s : SS} (h : SW s) (e : ∀ g : GS, setP s.2.2.2.1 = some g → TG g) : SW (ldS s) := by
  unfold ldS
  cases hc : setP s.2.2.2.1 with
  | none => exact ⟨h.1, h.2.1, h.2.2.1, ⟨Nat.zero_le _, fun b hb => absurd hb List.not_mem_nil⟩, h.2.2.2.2⟩
  | some g => exact ⟨(e g hc).wf, fun x hx => absurd hx List.not_mem_nil, fun j x hx => (nomatch hx), ⟨Nat.zero_le _, fun b hb => absurd hb List.not_mem_nil⟩, h.2.2.2.2⟩
theorem og_1 (h : SI I s) : OGT f_PR_load f_M_load I := by
  obtain ⟨g, ps, kp, bs, rp⟩ := s
  have hl : bs.length ≤ 600 := h.2.2.2.2.2.1.1
  have hr : ∀ b ∈ bs, 1 ≤ b ∧ b ≤ 255 := h.2.2.2.2.2.1.2
  refine og_T (s' := ldS (g, ps, kp, bs, rp)) h (ldS_sw h.2.2 (fun u hu => ?_)) (t_cload h.1 hl hr) (fun J sm => t_mload sm hl hr)
  obtain ⟨x1, hG1⟩ := h.1.2.1 1 (by decide)
  obtain ⟨x, K, -, ok, -⟩ := t_setRead hl hr h.1.2.2.2.2.2.1 hG1
  have hu : setP bs = some u := hu
  rw [hu] at ok
  exact ok.2.2
end LOAD
end
