/-! ===== the class's rows ===== -/
def cok (c : Int) : Prop := c = 0 ∨ c = 4 ∨ c = 16 ∨ c = 64 ∨ c = 256 ∨ c = 400
def RW (I : Mem) (r : Nat) (l : List Int) : Prop := r < 516 ∧ I 2 r 1 = (l.length : Int) ∧ (l.length : Int) ≤ I 2 r 2 ∧ cok (I 2 r 2) ∧ ∀ j : Nat, j < l.length → I 12 r j = l.getD j (-1)
abbrev FR (r : Nat) : FP := fun k i _ => (k = 2 ∨ k = 12) ∧ i = r
abbrev FC (r : Nat) : FP := fun k i _ => k = 12 ∧ i = r
def SY (l : List Int) : Prop := ∀ x ∈ l, 0 ≤ x ∧ x < 66
theorem SY.at {l : List Int} (h : SY l) {j : Nat} (hj : j < l.length) : 0 ≤ l.getD j (-1) ∧ l.getD j (-1) < 66 := h _ (getD_mem hj)
theorem RW.len {I : Mem} {r : Nat} {l : List Int} (h : RW I r l) : l.length ≤ 400 := by
  obtain ⟨-, -, h3, h4, -⟩ := h
  unfold cok at h4
  omega
theorem RW.fm {F : FP} {I J : Mem} {r : Nat} {l : List Int} (h : RW I r l) (f : Fm F I J) (hn : ∀ k s : Nat, k = 2 ∨ k = 12 → ¬ F k r s) : RW J r l := by
  obtain ⟨h1, h2, h3, h4, h5⟩ := h
  have e1 := f.at (k := 2) (i := r) (s := 1) (by decide) (hn 2 1 (Or.inl rfl))
  have e2 := f.at (k := 2) (i := r) (s := 2) (by decide) (hn 2 2 (Or.inl rfl))
  refine ⟨h1, by rw [e1]; exact h2, by rw [e2]; exact h3, by rw [e2]; exact h4, fun j hj => ?_⟩
  rw [f.at (k := 12) (by decide) (hn 12 j (Or.inr rfl))]
  exact h5 j hj
section ROW
variable {I : Mem} {r : Nat} {l : List Int}
theorem row_many (h : RW I r l) : f_Row_many r I = some ((l.length : Int), I) := by
  unfold f_Row_many
  rw [if_pos h.1, h.2.1]
theorem row_at (h : RW I r l) {j : Nat} (hj : j < 1000000) : f_Row_at r (j : Int) I = some (l.getD j (-1), I) := by
  have hl := h.len
  obtain ⟨h1, h2, h3, h4, h5⟩ := h
  unfold f_Row_at
  rw [if_pos h1, w32_of (x := (j : Int)) (by omega) (by omega), if_neg (by omega), h2, w32_of (x := (l.length : Int)) (by omega) (by omega)]
  by_cases q : j < l.length
  · rw [if_pos (by omega), if_pos (by omega), Int.toNat_natCast, h5 j q]
  · rw [if_neg (by omega), getD_out (by omega)]
theorem row_atI (h : RW I r l) {a : Int} (h1 : -2147483648 ≤ a) (h2 : a < 2147483648) : f_Row_at r a I = some (if a < 0 then -1 else l.getD a.toNat (-1), I) := by
  have hl := h.len
  obtain ⟨g1, g2, g3, g4, g5⟩ := h
  unfold f_Row_at
  rw [if_pos g1, w32_of h1 h2, g2, w32_of (x := (l.length : Int)) (by omega) (by omega)]
  by_cases q0 : a < 0
  · rw [if_pos q0, if_pos q0]
  · rw [if_neg q0, if_neg q0]
    by_cases q : a < l.length
    · rw [if_pos q, if_pos (by omega), g5 _ (by omega)]
    · rw [if_neg q, getD_out (by omega)]
theorem t_clear (h : RW I r l) : Tr (f_Row_clear r I) (fun _ J => RW J r [] ∧ Fm (FR r) I J) := by
  obtain ⟨h1, h2, h3, h4, h5⟩ := h
  unfold f_Row_clear
  rw [if_pos h1]
  refine tr_ret ⟨⟨h1, sI_self .., ?_, ?_, fun j hj => absurd hj (Nat.not_lt_zero j)⟩, Fm.sI (by decide) (by decide) (by decide) ⟨Or.inl rfl, rfl⟩⟩
  · rw [sI_ne (by omega)]; simp; omega
  · rw [sI_ne (by omega)]; exact h4
theorem t_drop (h : RW I r l) {a : Nat} (ha : a < 1000000) : Tr (f_Row_drop r (a : Int) I) (fun _ J => RW J r (l.take (l.length - a)) ∧ Fm (FR r) I J) := by
  have hl := h.len
  obtain ⟨h1, h2, h3, h4, h5⟩ := h
  unfold f_Row_drop
  rw [if_pos h1, w32_of (x := (a : Int)) (by omega) (by omega), h2, w32_of (x := (l.length : Int)) (by omega) (by omega)]
  have key : ∀ v : Int, v = ((l.length - a : Nat) : Int) → RW (sI I 2 r 1 v) r (l.take (l.length - a)) ∧ Fm (FR r) I (sI I 2 r 1 v) := by
    rintro v rfl
    refine ⟨⟨h1, ?_, ?_, ?_, fun j hj => ?_⟩, Fm.sI (by decide) (by decide) (by decide) ⟨Or.inl rfl, rfl⟩⟩
    · rw [sI_self, List.length_take]; omega
    · rw [sI_ne (by omega), List.length_take]; omega
    · rw [sI_ne (by omega)]; exact h4
    · rw [List.length_take] at hj
      rw [sI_ne (by omega), h5 j (by omega), getD_take (by omega)]
  by_cases q : a < l.length
  · rw [if_pos (by omega)]; exact tr_ret (key _ (by omega))
  · rw [if_neg (by omega)]; exact tr_ret (key _ (by omega))
theorem row_isPair (h : RW I r l) (hs : SY l) {a b : Int} (ha : 0 ≤ a ∧ a < 66) (hb : 0 ≤ b ∧ b < 66) : f_Row_isPair r a b I = some (bI (l = [a, b]), I) := by
  have hl := h.len
  obtain ⟨h1, h2, h3, h4, h5⟩ := h
  unfold f_Row_isPair
  rw [if_pos h1, h2, w32_of (x := (l.length : Int)) (by omega) (by omega)]
  by_cases q : l.length = 2
  · have q0 := hs.at (j := 0) (by omega)
    have q1 := hs.at (j := 1) (by omega)
    rw [if_pos (by omega), if_pos (by omega), h5 0 (by omega), w32_of (x := a) (by omega) (by omega), w32_of (x := l.getD 0 (-1)) (by omega) (by omega), h5 1 (by omega), w32_of (x := b) (by omega) (by omega), w32_of (x := l.getD 1 (-1)) (by omega) (by omega)]
    match l, q with
    | [x, y], _ =>
      show (if x = a then if (0:Int) ≤ 1 ∧ (1:Int) < I 2 r 2 then if y = b then some ((1 : Int), I) else some (0, I) else none else some (0, I)) = _
      by_cases e0 : x = a
      · rw [if_pos e0, if_pos (by simp at h3; omega)]
        by_cases e1 : y = b
        · rw [if_pos e1, bI_pos (by rw [e0, e1])]
        · rw [if_neg e1, bI_neg (by intro e; cases e; exact e1 rfl)]
      · rw [if_neg e0, bI_neg (by intro e; cases e; exact e0 rfl)]
  · rw [if_neg (by omega), bI_neg (by intro e; rw [e] at q; exact q rfl)]
theorem row_timesOf (h : RW I r l) (hs : SY l) {a : Int} (ha : 0 ≤ a ∧ a < 1000) : f_Row_timesOf r a I = some ((l.count a : Int), I) := by
  have hl := h.len
  obtain ⟨h1, h2, h3, h4, h5⟩ := h
  unfold f_Row_timesOf
  rw [if_pos h1]
  rw [whl_ro (r := (l.count a : Int)) (fun k => (((l.take k).count a : Int), (k : Int))) l.length (by simp) ?_ ?_]
  · rfl
  · intro k hk
    have q := hs.at hk
    unfold f_Row_timesOf_w4
    dsimp only
    rw [w32_of (x := (k : Int)) (by omega) (by omega), h2, w32_of (x := (l.length : Int)) (by omega) (by omega), if_pos (by omega), if_pos (by omega), Int.toNat_natCast, h5 k hk, w32_of (x := a) (by omega) (by omega), w32_of (x := l.getD k (-1)) (by omega) (by omega), take_at (d := -1) hk, List.count_append]
    by_cases e : l.getD k (-1) = a
    · rw [if_pos e, e]; simp
    · rw [if_neg e, List.count_singleton, if_neg (by simpa using e)]; simp
  · unfold f_Row_timesOf_w4
    dsimp only
    rw [w32_of (x := (l.length : Int)) (by omega) (by omega), h2, w32_of (x := (l.length : Int)) (by omega) (by omega), if_neg (by omega), List.take_length]
theorem t_makeRoom (h : RW I r l) {need : Int} (h0 : 0 ≤ need) (hn : need ≤ 400) : Tr (f_Row_makeRoom r need I) (fun x J => x = 1 ∧ RW J r l ∧ need ≤ J 2 r 2 ∧ Fm (FR r) I J) := by
  have hl := h.len
  have h' := h
  obtain ⟨h1, h2, h3, h4, h5⟩ := h
  have hc : 0 ≤ I 2 r 2 ∧ I 2 r 2 ≤ 400 := by unfold cok at h4; omega
  unfold f_Row_makeRoom
  rw [if_pos h1, if_pos hc.1, w32_of (x := I 2 r 2) (by omega) (by omega), w32_of (x := need) (by omega) (by omega)]
  by_cases q : I 2 r 2 < need
  · rw [if_pos q, if_neg (by omega)]
    have hw : ∃ R : Int, whl (f_Row_makeRoom_w24 r need) (4, 0) I = some (R, I) ∧ cok R ∧ need ≤ R ∧ 0 < R := by
      let S : Nat → Int × Int := fun k => (if k = 0 then 4 else if k = 1 then 16 else if k = 2 then 64 else if k = 3 then 256 else 400, (k : Int))
      have st : ∀ k : Nat, k < 4 → (S k).1 < need → f_Row_makeRoom_w24 r need (S k) I = some (.inl (S (k + 1)), I) := by
        intro k hk hlt
        have hk : k = 0 ∨ k = 1 ∨ k = 2 ∨ k = 3 := by omega
        unfold f_Row_makeRoom_w24
        rw [w32_of (x := need) (by omega) (by omega)]
        rcases hk with rfl | rfl | rfl | rfl
        · rw [if_pos (by decide), if_pos (by exact hlt)]; rfl
        · rw [if_pos (by decide), if_pos (by exact hlt)]; rfl
        · rw [if_pos (by decide), if_pos (by exact hlt)]; rfl
        · rw [if_pos (by decide), if_pos (by exact hlt)]; rfl
      have en : ∀ k : Nat, k < 4 → ¬ (S k).1 < need → f_Row_makeRoom_w24 r need (S k) I = some (.inr (S k).1, I) := by
        intro k hk hlt
        have hk : k = 0 ∨ k = 1 ∨ k = 2 ∨ k = 3 := by omega
        unfold f_Row_makeRoom_w24
        rw [w32_of (x := need) (by omega) (by omega)]
        rcases hk with rfl | rfl | rfl | rfl
        · rw [if_pos (by decide), if_neg (by exact hlt)]
        · rw [if_pos (by decide), if_neg (by exact hlt)]
        · rw [if_pos (by decide), if_neg (by exact hlt)]
        · rw [if_pos (by decide), if_neg (by exact hlt)]
      have go : ∀ n : Nat, n < 4 → (∀ k : Nat, k < n → (S k).1 < need) → ¬ (S n).1 < need → whl (f_Row_makeRoom_w24 r need) (4, 0) I = some ((S n).1, I) := fun n hn' h1' h2' => whl_ro S n rfl (fun k hk => st k (by omega) (h1' k hk)) (en n hn' h2')
      by_cases c1 : need ≤ 4
      · exact ⟨4, go 0 (by decide) (fun k hk => absurd hk (Nat.not_lt_zero k)) (by show ¬ (4 : Int) < need; omega), by unfold cok; omega, by omega, by decide⟩
      by_cases c2 : need ≤ 16
      · exact ⟨16, go 1 (by decide) (fun k hk => by obtain rfl : k = 0 := (by omega); show (4 : Int) < need; omega) (by show ¬ (16 : Int) < need; omega), by unfold cok; omega, by omega, by decide⟩
      by_cases c3 : need ≤ 64
      · exact ⟨64, go 2 (by decide) (fun k hk => by
          rcases (show k = 0 ∨ k = 1 by omega) with rfl | rfl
          · show (4 : Int) < need; omega
          · show (16 : Int) < need; omega) (by show ¬ (64 : Int) < need; omega), by unfold cok; omega, by omega, by decide⟩
      by_cases c4 : need ≤ 256
      · exact ⟨256, go 3 (by decide) (fun k hk => by
          rcases (show k = 0 ∨ k = 1 ∨ k = 2 by omega) with rfl | rfl | rfl
          · show (4 : Int) < need; omega
          · show (16 : Int) < need; omega
          · show (64 : Int) < need; omega) (by show ¬ (256 : Int) < need; omega), by unfold cok; omega, by omega, by decide⟩
      · refine ⟨400, whl_ro S 4 rfl (fun k hk => st k hk ?_) ?_, by unfold cok; omega, by omega, by decide⟩
        · rcases (show k = 0 ∨ k = 1 ∨ k = 2 ∨ k = 3 by omega) with rfl | rfl | rfl | rfl
          · show (4 : Int) < need; omega
          · show (16 : Int) < need; omega
          · show (64 : Int) < need; omega
          · show (256 : Int) < need; omega
        · unfold f_Row_makeRoom_w24
          rw [if_neg (by decide)]
          rfl
    obtain ⟨R, hw, hR, hRn, hR0⟩ := hw
    have hR4 : R ≤ 400 := by unfold cok at hR; omega
    have hR3 : R ≤ 3 * (R - I 2 r 2) := by unfold cok at hR h4; omega
    rw [hw, bnd_some, w32_of (x := R) (by omega) (by omega), h2, w32_of (x := (l.length : Int)) (by omega) (by omega), if_pos (by omega)]
    refine tr_ret ⟨rfl, ⟨h1, ?_, ?_, ?_, fun j hj => ?_⟩, ?_, Fm.grwR h1 (by omega) hR3 (fun s => ⟨⟨Or.inr rfl, rfl⟩, Or.inl rfl, rfl⟩) (by omega)⟩
    · simp [grw]; exact h2
    · simp [grw]; omega
    · simp [grw]; exact hR
    · have e : grw I 12 2 r R (l.length : Int) 12 r j = I 12 r j := by simp [grw, hj]
      rw [e]; exact h5 j hj
    · simp [grw]; exact hRn
  · rw [if_neg q]
    exact tr_ret ⟨rfl, h', by omega, Fm.refl _ _⟩
theorem t_put (h : RW I r l) (hl : l.length < 400) (v : Int) : Tr (f_Row_put r v I) (fun _ J => RW J r (l ++ [v]) ∧ Fm (FR r) I J) := by
  have h1 := h.1
  have h2 := h.2.1
  unfold f_Row_put
  rw [if_pos h1, h2]
  refine tr_call (t_makeRoom h (need := (l.length : Int) + 1) (by omega) (by omega)) ?_
  rintro x J ⟨rfl, ⟨-, g2, g3, g4, g5⟩, gn, gf⟩
  rw [if_neg (by decide), g2, w32_of (x := (l.length : Int)) (by omega) (by omega), if_pos (by omega), Int.toNat_natCast]
  refine tr_ret ⟨⟨h1, ?_, ?_, ?_, fun j hj => ?_⟩, gf.trans ((Fm.sI (by decide) (by omega) (by omega) ⟨Or.inr rfl, rfl⟩).trans (Fm.sI (by decide) (by decide) (by decide) ⟨Or.inl rfl, rfl⟩))⟩
  · rw [sI_self, sI_ne (by omega), g2, List.length_append]; rfl
  · rw [sI_ne (by omega), sI_ne (by omega), List.length_append]; simpa using gn
  · rw [sI_ne (by omega), sI_ne (by omega)]; exact g4
  · rw [sI_ne (by omega)]
    rw [List.length_append] at hj
    by_cases q : j = l.length
    · subst q; rw [sI_self, getD_r (Nat.le_refl _), Nat.sub_self]; rfl
    · have : j < l.length := by simp at hj; omega
      rw [sI_ne (by omega), g5 j this, getD_l this]
theorem t_putAll {r2 : Nat} {l2 : List Int} (h : RW I r l) (k : RW I r2 l2) (hr : r2 ≠ r) (hl : l.length + l2.length ≤ 400) : Tr (f_Row_putAll r r2 I) (fun _ J => RW J r (l ++ l2) ∧ Fm (FR r) I J) := by
  have h1 := h.1
  have h2 := h.2.1
  have k1 := k.1
  have k2 := k.2.1
  unfold f_Row_putAll
  rw [if_pos h1, if_pos k1, h2, k2]
  refine tr_call (t_makeRoom h (need := (l.length : Int) + (l2.length : Int)) (by omega) (by omega)) ?_
  rintro x J ⟨rfl, ⟨-, g2, g3, g4, g5⟩, gn, gf⟩
  have kJ := k.fm gf (fun a b hab q => hr q.2)
  obtain ⟨-, e2, e3, e4, e5⟩ := kJ
  rw [if_neg (by decide), g2, e2, w32_of (x := (l.length : Int)) (by omega) (by omega), w32_of (x := (l2.length : Int)) (by omega) (by omega), if_pos (by omega), Int.toNat_natCast, Int.toNat_natCast]
  have c2 : ∀ i s : Nat, cpI J 12 r2 0 r l.length l2.length 2 i s = J 2 i s := fun i s => if_neg (by omega)
  refine tr_ret ⟨⟨h1, ?_, ?_, ?_, fun j hj => ?_⟩, gf.trans ((Fm.cpI (by decide) (by decide) (by decide) (fun s _ _ => ⟨Or.inr rfl, rfl⟩)).trans (Fm.sI (by decide) (by decide) (by decide) ⟨Or.inl rfl, rfl⟩))⟩
  · rw [sI_self, c2, c2, g2, e2, List.length_append]; omega
  · rw [sI_ne (by omega), c2, List.length_append]; omega
  · rw [sI_ne (by omega), c2]; exact g4
  · rw [sI_ne (by omega)]
    rw [List.length_append] at hj
    unfold cpI
    by_cases q : j < l.length
    · rw [if_neg (by omega), g5 j q, getD_l q]
    · rw [if_pos (by omega), Nat.zero_add, e5 _ (by omega), getD_r (by omega)]
theorem t_takeFrom {r2 : Nat} {l2 : List Int} (h : RW I r l) (k : RW I r2 l2) (hr : r2 ≠ r) : Tr (f_Row_takeFrom r r2 I) (fun _ J => RW J r l2 ∧ Fm (FR r) I J) := by
  have hk := k.len
  unfold f_Row_takeFrom
  rw [if_pos h.1, if_pos k.1]
  have hc := t_clear h
  unfold f_Row_clear at hc
  rw [if_pos h.1] at hc
  obtain ⟨c1, c2⟩ := tr_some.mp hc
  refine tr_call (t_putAll c1 (k.fm c2 (fun a b hab q => hr q.2)) hr (by simpa using hk)) ?_
  rintro x J ⟨g1, g2⟩
  exact tr_ret ⟨by simpa using g1, c2.trans g2⟩
end ROW
