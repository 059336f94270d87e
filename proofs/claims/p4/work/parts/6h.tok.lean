/-! ===== tokens ===== -/
def kd (b : Int) : Int := if 97 ≤ b ∧ b ≤ 122 then 1 else if 48 ≤ b ∧ b ≤ 57 then 2 else if b = 40 then 4 else if b = 41 then 5 else if b = 59 then 3 else 6
def skp (bs : List Int) : Nat → Nat → Nat
  | 0, p => p
  | n + 1, p => if p < bs.length ∧ (bs.getD p 0 = 32 ∨ bs.getD p 0 = 10) then skp bs n (p + 1) else p
def exT (bs : List Int) (k : Int) : Nat → Nat → Nat
  | 0, p => p
  | n + 1, p => if p < bs.length ∧ kd (bs.getD p 0) = k then exT bs k n (p + 1) else p
/-- where the token behind p begins, what it is, where it ends -/
def tF (bs : List Int) (p : Nat) : Nat := skp bs 600 p
def tK (bs : List Int) (p : Nat) : Int := if tF bs p < bs.length then kd (bs.getD (tF bs p) 0) else 0
def tE (bs : List Int) (p : Nat) : Nat := if tK bs p = 1 ∨ tK bs p = 2 then exT bs (tK bs p) 600 (tF bs p + 1) else if tK bs p = 0 then tF bs p else tF bs p + 1
theorem skp_le (bs : List Int) : ∀ (n p : Nat), p ≤ bs.length → p ≤ skp bs n p ∧ skp bs n p ≤ bs.length
  | 0, p, h => ⟨Nat.le_refl _, h⟩
  | n + 1, p, h => by
    show p ≤ (if p < bs.length ∧ (bs.getD p 0 = 32 ∨ bs.getD p 0 = 10) then skp bs n (p + 1) else p) ∧ (if p < bs.length ∧ (bs.getD p 0 = 32 ∨ bs.getD p 0 = 10) then skp bs n (p + 1) else p) ≤ bs.length
    by_cases q : p < bs.length ∧ (bs.getD p 0 = 32 ∨ bs.getD p 0 = 10)
    · rw [if_pos q]
      have := skp_le bs n (p + 1) (by omega)
      omega
    · rw [if_neg q]
      exact ⟨Nat.le_refl _, h⟩
theorem exT_le (bs : List Int) (k : Int) : ∀ (n p : Nat), p ≤ bs.length → p ≤ exT bs k n p ∧ exT bs k n p ≤ bs.length
  | 0, p, h => ⟨Nat.le_refl _, h⟩
  | n + 1, p, h => by
    show p ≤ (if p < bs.length ∧ kd (bs.getD p 0) = k then exT bs k n (p + 1) else p) ∧ (if p < bs.length ∧ kd (bs.getD p 0) = k then exT bs k n (p + 1) else p) ≤ bs.length
    by_cases q : p < bs.length ∧ kd (bs.getD p 0) = k
    · rw [if_pos q]
      have := exT_le bs k n (p + 1) (by omega)
      omega
    · rw [if_neg q]
      exact ⟨Nat.le_refl _, h⟩
theorem kd_rng (b : Int) : 1 ≤ kd b ∧ kd b ≤ 6 := by
  unfold kd
  repeat' split
  all_goals decide
theorem tK_rng (bs : List Int) (p : Nat) : 0 ≤ tK bs p ∧ tK bs p ≤ 6 := by
  have := kd_rng (bs.getD (tF bs p) 0)
  unfold tK
  split <;> omega
theorem tE_le {bs : List Int} {p : Nat} (h : p ≤ bs.length) : tF bs p ≤ tE bs p ∧ tE bs p ≤ bs.length ∧ p ≤ tF bs p ∧ tF bs p ≤ bs.length := by
  have h1 := skp_le bs 600 p h
  have h2 : tF bs p = skp bs 600 p := rfl
  have hk : tK bs p ≠ 0 → tF bs p < bs.length := fun z => by
    refine Classical.byContradiction fun q => z ?_
    unfold tK
    rw [if_neg q]
  unfold tE
  by_cases q : tK bs p = 1 ∨ tK bs p = 2
  · rw [if_pos q]
    have := hk (by omega)
    have := exT_le bs (tK bs p) 600 (tF bs p + 1) (by omega)
    omega
  · rw [if_neg q]
    by_cases z : tK bs p = 0
    · rw [if_pos z]; omega
    · rw [if_neg z]
      have := hk z
      omega
section TOK
variable {I J : Mem} {bs : List Int}
theorem s_kindOf {b : Int} (hb : 0 ≤ b ∧ b ≤ 255) : f_Src_kindOf b I = some (kd b, I) := by
  have wb : w32 b = b := w32_of (by omega) (by omega)
  have j28 : ¬ (97 ≤ b ∧ b ≤ 122) → ¬ (48 ≤ b ∧ b ≤ 57) → f_Src_kindOf_j28 b I = some (kd b, I) := fun h1 h2 => by
    unfold f_Src_kindOf_j28 kd
    rw [wb, if_neg h1, if_neg h2]
    by_cases q : b = 40
    · rw [if_pos q, if_pos q]
    · rw [if_neg q, if_neg q]
      by_cases q2 : b = 41
      · rw [if_pos q2, if_pos q2]
      · rw [if_neg q2, if_neg q2]
        by_cases q3 : b = 59
        · rw [if_pos q3, if_pos q3]
        · rw [if_neg q3, if_neg q3]
  have j14 : ¬ (97 ≤ b ∧ b ≤ 122) → f_Src_kindOf_j14 b I = some (kd b, I) := fun h1 => by
    unfold f_Src_kindOf_j14
    rw [wb]
    by_cases q : b < 48
    · rw [if_pos q]; exact j28 h1 (by omega)
    · rw [if_neg q]
      by_cases q2 : 57 < b
      · rw [if_pos q2]; exact j28 h1 (by omega)
      · rw [if_neg q2]
        unfold kd
        rw [if_neg h1, if_pos (by omega)]
  unfold f_Src_kindOf
  rw [wb]
  by_cases q : b < 97
  · rw [if_pos q]; exact j14 (by omega)
  · rw [if_neg q]
    by_cases q2 : 122 < b
    · rw [if_pos q2]; exact j14 (by omega)
    · rw [if_neg q2]
      unfold kd
      rw [if_pos (by omega)]
theorem c_skp (hB : BfC I bs) (hl : bs.length ≤ 600) (hr : ∀ b ∈ bs, 1 ≤ b ∧ b ≤ 255) : ∀ n p : Nat, p ≤ bs.length → bs.length - p ≤ n → whl f_Src_advance_w5 (p : Int) I = some (((skp bs n p : Nat) : Int), I) := by
  have step : ∀ p : Nat, p ≤ bs.length → f_Src_advance_w5 (p : Int) I = some (if p < bs.length ∧ (bs.getD p 0 = 32 ∨ bs.getD p 0 = 10) then .inl ((p : Int) + 1) else .inr (p : Int), I) := by
    intro p hp
    unfold f_Src_advance_w5
    rw [hB.1, w32_of (x := (p : Int)) (by omega) (by omega), w32_of (x := (bs.length : Int)) (by omega) (by omega)]
    by_cases q : p < bs.length
    · have hb := hr _ (gd_mem (d := 0) q)
      rw [if_pos (by omega), if_pos (by omega), Int.toNat_natCast, hB.2 p q, w32_of (x := bs.getD p 0) (by omega) (by omega)]
      by_cases q1 : bs.getD p 0 = 32
      · rw [if_pos q1, if_pos ⟨q, Or.inl q1⟩]
      · rw [if_neg q1]
        by_cases q2 : bs.getD p 0 = 10
        · rw [if_pos q2, if_pos ⟨q, Or.inr q2⟩]
        · rw [if_neg q2, if_neg (fun z => z.2.elim q1 q2)]
    · rw [if_neg (by omega), if_neg (fun z => q z.1)]
  intro n
  induction n with
  | zero =>
    intro p hp hn
    rw [whl_eq, step p hp, if_neg (fun z => by omega)]
    rfl
  | succ n ih =>
    intro p hp hn
    rw [whl_eq, step p hp]
    show _ = some (((if p < bs.length ∧ (bs.getD p 0 = 32 ∨ bs.getD p 0 = 10) then skp bs n (p + 1) else p : Nat) : Int), I)
    by_cases q : p < bs.length ∧ (bs.getD p 0 = 32 ∨ bs.getD p 0 = 10)
    · rw [if_pos q, if_pos q]
      exact ih (p + 1) (by omega) (by omega)
    · rw [if_neg q, if_neg q]
theorem c_ext (hB : BfC I bs) (hl : bs.length ≤ 600) (hr : ∀ b ∈ bs, 1 ≤ b ∧ b ≤ 255) {k : Int} (hk : I 6 0 2 = k) (hkr : 0 ≤ k ∧ k ≤ 6) : ∀ n p : Nat, p ≤ bs.length → bs.length - p ≤ n → whl (f_Src_advance_w109 1) (p : Int) I = some (((exT bs k n p : Nat) : Int), I) := by
  have step : ∀ p : Nat, p ≤ bs.length → f_Src_advance_w109 1 (p : Int) I = some (if p < bs.length ∧ kd (bs.getD p 0) = k then .inl ((p : Int) + 1) else .inr (p : Int), I) := by
    intro p hp
    unfold f_Src_advance_w109
    rw [if_neg (by decide), hB.1, w32_of (x := (p : Int)) (by omega) (by omega), w32_of (x := (bs.length : Int)) (by omega) (by omega)]
    by_cases q : p < bs.length
    · have hb := hr _ (gd_mem (d := 0) q)
      have hkd := kd_rng (bs.getD p 0)
      rw [if_pos (by omega), if_pos (by omega), Int.toNat_natCast, hB.2 p q, s_kindOf (by omega), bnd_some, hk, w32_of (x := kd (bs.getD p 0)) (by omega) (by omega), w32_of (x := k) (by omega) (by omega)]
      by_cases q1 : kd (bs.getD p 0) = k
      · rw [if_pos q1, if_pos ⟨q, q1⟩]
      · rw [if_neg q1, if_neg (fun z => q1 z.2)]
    · rw [if_neg (by omega), if_neg (fun z => q z.1)]
  intro n
  induction n with
  | zero =>
    intro p hp hn
    rw [whl_eq, step p hp, if_neg (fun z => by omega)]
    rfl
  | succ n ih =>
    intro p hp hn
    rw [whl_eq, step p hp]
    show _ = some (((if p < bs.length ∧ kd (bs.getD p 0) = k then exT bs k n (p + 1) else p : Nat) : Int), I)
    by_cases q : p < bs.length ∧ kd (bs.getD p 0) = k
    · rw [if_pos q, if_pos q]
      exact ih (p + 1) (by omega) (by omega)
    · rw [if_neg q, if_neg q]
/-- the class stands at the token behind p -/
def TC (J : Mem) (bs : List Int) (p : Nat) : Prop := J 6 0 2 = tK bs p ∧ J 6 0 3 = ((tF bs p : Nat) : Int) ∧ J 6 0 4 = ((tE bs p : Nat) : Int)
theorem t_adv (hB : BfC I bs) (hl : bs.length ≤ 600) (hr : ∀ b ∈ bs, 1 ≤ b ∧ b ≤ 255) {p : Nat} (hp : p ≤ bs.length) (h4 : I 6 0 4 = (p : Int)) : Tr (f_Src_advance I) (fun _ K => TC K bs p ∧ Fm FAd I K) := by
  have hE := tE_le hp
  have hkr := tK_rng bs p
  have e1 : whl f_Src_advance_w5 (p : Int) I = some (((tF bs p : Nat) : Int), I) := c_skp hB hl hr 600 p hp (by omega)
  -- the end, once the kind is there
  have key : ∀ J : Mem, BfC J bs → J 6 0 3 = ((tF bs p : Nat) : Int) → Tr (f_Src_advance_j69 ((tF bs p : Nat) : Int) (tK bs p) J) (fun _ K => TC K bs p ∧ Fm FAd J K) := by
    intro J hBJ e3
    unfold f_Src_advance_j69
    try dsimp only [ltI]
    have f2 : Fm FAd J (sI J 6 0 2 (tK bs p)) := Fm.sI (by decide) (by omega) (by omega) ⟨rfl, by decide⟩
    have e2 : (sI J 6 0 2 (tK bs p)) 6 0 2 = tK bs p := sI_self _ _ _ _ _
    have e3' : (sI J 6 0 2 (tK bs p)) 6 0 3 = ((tF bs p : Nat) : Int) := by rw [sI_ne (by decide), e3]
    have hB2 : BfC (sI J 6 0 2 (tK bs p)) bs := hBJ.fm f2 (by unfold FAd; omega) (fun s => by unfold FAd; omega)
    rw [e2]
    generalize sI J 6 0 2 (tK bs p) = J2 at f2 e2 e3' hB2
    have fin : ∀ v : Int, v = ((tE bs p : Nat) : Int) → TC (sI J2 6 0 4 v) bs p ∧ Fm FAd J (sI J2 6 0 4 v) := fun v hv => ⟨⟨by rw [sI_ne (by decide), e2], by rw [sI_ne (by decide), e3'], by rw [sI_self, hv]⟩, f2.trans (Fm.sI (by decide) (by omega) (by omega) ⟨rfl, by decide⟩)⟩
    have wk : w32 (tK bs p) = tK bs p := w32_of (by omega) (by omega)
    have long : tK bs p = 1 ∨ tK bs p = 2 → Tr (f_Src_advance_j93 ((tF bs p : Nat) : Int) 1 J2) (fun _ K => TC K bs p ∧ Fm FAd J K) := fun z => by
      have hlt : tF bs p < bs.length := by
        refine Classical.byContradiction fun q => ?_
        have : tK bs p = 0 := by unfold tK; rw [if_neg q]
        omega
      unfold f_Src_advance_j93
      rw [e2, wk, if_neg (by omega), show ((tF bs p : Nat) : Int) + 1 = ((tF bs p + 1 : Nat) : Int) from rfl, c_ext hB2 hl hr e2 hkr 600 (tF bs p + 1) (by omega) (by omega), bnd_some]
      try dsimp only [ltI]
      exact tr_ret (fin _ (by unfold tE; rw [if_pos z]))
    rw [wk]
    by_cases q1 : tK bs p = 1
    · rw [if_pos q1]
      exact long (Or.inl q1)
    · rw [if_neg q1]
      by_cases q2 : tK bs p = 2
      · rw [if_pos q2]
        exact long (Or.inr q2)
      · rw [if_neg q2]
        unfold f_Src_advance_j93
        have s2 : ∀ x : Int, whl (f_Src_advance_w109 0) x J2 = some (x, J2) := fun x => by
          rw [whl_eq]
          unfold f_Src_advance_w109
          rw [if_pos (by decide)]
        rw [e2, wk, s2, bnd_some]
        try dsimp only [ltI]
        refine tr_ret (fin _ ?_)
        unfold tE
        have hne : ¬ (tK bs p = 1 ∨ tK bs p = 2) := fun z => z.elim q1 q2
        by_cases q0 : tK bs p = 0
        · rw [if_pos q0, if_neg hne, if_pos q0]
          omega
        · rw [if_neg q0, if_neg hne, if_neg q0]
          rfl
  unfold f_Src_advance
  rw [h4, e1, bnd_some]
  try dsimp only [ltI]
  have f1 : Fm FAd I (sI I 6 0 3 ((tF bs p : Nat) : Int)) := Fm.sI (by decide) (by omega) (by omega) ⟨rfl, by decide⟩
  have e3 : (sI I 6 0 3 ((tF bs p : Nat) : Int)) 6 0 3 = ((tF bs p : Nat) : Int) := sI_self _ _ _ _ _
  have hB1 : BfC (sI I 6 0 3 ((tF bs p : Nat) : Int)) bs := hB.fm f1 (by unfold FAd; omega) (fun s => by unfold FAd; omega)
  generalize sI I 6 0 3 ((tF bs p : Nat) : Int) = J at f1 e3 hB1
  rw [hB1.1, w32_of (x := ((tF bs p : Nat) : Int)) (by omega) (by omega), w32_of (x := (bs.length : Int)) (by omega) (by omega)]
  by_cases q : tF bs p < bs.length
  · have hb := hr _ (gd_mem (d := 0) q)
    rw [if_pos (by omega), if_pos (by omega), Int.toNat_natCast, hB1.2 _ q, s_kindOf (by omega), bnd_some]
    have ek : kd (bs.getD (tF bs p) 0) = tK bs p := by unfold tK; rw [if_pos q]
    rw [ek]
    refine tr_mono (key J hB1 e3) ?_
    rintro _ K ⟨tc, f⟩
    exact ⟨tc, f1.trans f⟩
  · rw [if_neg (by omega)]
    have ek : (0 : Int) = tK bs p := by unfold tK; rw [if_neg q]
    have hk := key J hB1 e3
    rw [← ek] at hk
    refine tr_mono hk ?_
    rintro _ K ⟨tc, f⟩
    exact ⟨tc, f1.trans f⟩
end TOK
