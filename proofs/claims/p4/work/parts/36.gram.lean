/-! ===== the state of a grammar, and the class's that holds it: reading ===== -/
abbrev GS : Type := (Nat → List Int) × List Int × (Nat → Int) × (Nat → Int) × (Nat → Int)
abbrev gR (g : GS) : Nat → List Int := g.1
abbrev gT (g : GS) : List Int := g.2.1
abbrev gL (g : GS) : Nat → Int := g.2.2.1
abbrev gA (g : GS) : Nat → Int := g.2.2.2.1
abbrev gN (g : GS) : Nat → Int := g.2.2.2.2
def rix (t i : Nat) : Nat := if i = 0 then 43 * t else 43 * t + 2 + i
def GC (I : Mem) (t : Nat) (g : GS) : Prop := t < 12 ∧ (∀ i : Nat, i < 41 → RW I (rix t i) (gR g i)) ∧ RW I (43 * t + 1) (gT g) ∧ RW I (43 * t + 2) [] ∧ (∀ i : Nat, i < 40 → I 14 t i = gL g i) ∧ (∀ i : Nat, i < 9 → I 15 t i = gA g i) ∧ I 1 t 6 = gN g 0 ∧ I 1 t 7 = gN g 1 ∧ I 1 t 8 = gN g 2 ∧ I 1 t 9 = gN g 3
abbrev FG (t : Nat) : FP := fun k i _ => ((k = 2 ∨ k = 12) ∧ 43 * t ≤ i ∧ i < 43 * t + 43) ∨ ((k = 1 ∨ k = 14 ∨ k = 15) ∧ i = t)
def sl (L : Nat → Int) (x : Int) : Int := if x < 26 then 1 else L (x - 26).toNat
def ll (L : Nat → Int) (l : List Int) : Int := (l.map (sl L)).sum
def SYr (R : Nat → List Int) (x : Int) : Prop := 0 ≤ x ∧ x < 66 ∧ (26 ≤ x → R ((x - 26).toNat + 1) ≠ [])
def WF (g : GS) : Prop :=
  (∀ i : Nat, i < 41 → ∀ x ∈ gR g i, SYr (gR g) x) ∧
  (∀ r : Nat, r < 40 → gR g (r + 1) ≠ [] → 2 ≤ (gR g (r + 1)).length ∧ gL g r = ll (gL g) (gR g (r + 1)) ∧ gL g r ≤ 400 ∧ 1 ≤ gL g r) ∧
  ll (gL g) (gR g 0) = (gT g).length ∧ 1 ≤ (gT g).length ∧ (gT g).length ≤ 400 ∧ (2 ≤ gN g 0 ∧ gN g 0 ≤ 9) ∧ (0 ≤ gN g 1 ∧ gN g 1 ≤ 2) ∧ (0 ≤ gN g 2 ∧ gN g 2 ≤ 1)
theorem ll_nil {L : Nat → Int} : ll L [] = 0 := rfl
theorem ll_cons {L : Nat → Int} {x : Int} {l : List Int} : ll L (x :: l) = sl L x + ll L l := by simp [ll]
theorem ll_app {L : Nat → Int} {l m : List Int} : ll L (l ++ m) = ll L l + ll L m := by simp [ll]
theorem ll_ge {L : Nat → Int} : ∀ {l : List Int}, (∀ x ∈ l, 1 ≤ sl L x) → (l.length : Int) ≤ ll L l := by
  intro l
  induction l with
  | nil => intro _; exact Int.le_refl _
  | cons x l ih =>
    intro h
    have h1 := h x List.mem_cons_self
    have h2 := ih (fun y hy => h y (List.mem_cons_of_mem _ hy))
    rw [ll_cons, List.length_cons]
    omega
theorem WF.sy {g : GS} (h : WF g) {i : Nat} (hi : i < 41) : SY (gR g i) := fun x hx => ⟨(h.1 i hi x hx).1, (h.1 i hi x hx).2.1⟩
theorem WF.sl1 {g : GS} (h : WF g) {x : Int} (hx : SYr (gR g) x) : 1 ≤ sl (gL g) x ∧ sl (gL g) x ≤ 400 := by
  obtain ⟨h0, h66, hr⟩ := hx
  unfold sl
  by_cases q : x < 26
  · rw [if_pos q]; omega
  · rw [if_neg q]
    obtain ⟨-, -, h3, h4⟩ := h.2.1 (x - 26).toNat (by omega) (hr (by omega))
    exact ⟨h4, h3⟩
theorem WF.sl1' {g : GS} (h : WF g) {i : Nat} (hi : i < 41) {x : Int} (hx : x ∈ gR g i) : 1 ≤ sl (gL g) x ∧ sl (gL g) x ≤ 400 := h.sl1 (h.1 i hi x hx)
theorem WF.lle {g : GS} (h : WF g) {i : Nat} (hi : i < 41) : ((gR g i).length : Int) ≤ ll (gL g) (gR g i) ∧ ll (gL g) (gR g i) ≤ 400 := by
  refine ⟨ll_ge (fun x hx => (h.sl1' hi hx).1), ?_⟩
  cases i with
  | zero => rw [h.2.2.1]; have := h.2.2.2.2.1; omega
  | succ r =>
    by_cases q : gR g (r + 1) = []
    · rw [q, ll_nil]; omega
    · obtain ⟨-, h2, h3, -⟩ := h.2.1 r (by omega) q
      omega
theorem rix_lt {t i : Nat} (ht : t < 12) (hi : i < 41) : rix t i < 516 := by unfold rix; split <;> omega
theorem rix_0 (t : Nat) : rix t 0 = 43 * t := rfl
theorem rix_s (t r : Nat) : rix t (r + 1) = 43 * t + 3 + r := by unfold rix; rw [if_neg (by omega)]; omega
theorem rix_in (t : Nat) {i : Nat} (hi : i < 41) : 43 * t ≤ rix t i ∧ rix t i < 43 * t + 43 ∧ rix t i ≠ 43 * t + 1 ∧ rix t i ≠ 43 * t + 2 := by unfold rix; split <;> omega
theorem rix_inj {t i j : Nat} (h : rix t i = rix t j) : i = j := by unfold rix at h; split at h <;> split at h <;> omega
theorem GC.fm {F : FP} {I J : Mem} {t : Nat} {g : GS} (h : GC I t g) (f : Fm F I J) (hn : ∀ k i s : Nat, FG t k i s → ¬ F k i s) : GC J t g := by
  obtain ⟨ht, h1, h2, h3, h4, h5, h6, h7, h8, h9⟩ := h
  refine ⟨ht, fun i hi => (h1 i hi).fm f (fun k s hk => hn _ _ _ (Or.inl ⟨hk, (rix_in t hi).1, (rix_in t hi).2.1⟩)), h2.fm f (fun k s hk => hn _ _ _ (Or.inl ⟨hk, by omega, by omega⟩)), h3.fm f (fun k s hk => hn _ _ _ (Or.inl ⟨hk, by omega, by omega⟩)), fun i hi => ?_, fun i hi => ?_, ?_, ?_, ?_, ?_⟩
  · rw [f.at (by decide) (hn _ _ _ (Or.inr ⟨by decide, rfl⟩))]; exact h4 i hi
  · rw [f.at (by decide) (hn _ _ _ (Or.inr ⟨by decide, rfl⟩))]; exact h5 i hi
  · rw [f.at (by decide) (hn _ _ _ (Or.inr ⟨by decide, rfl⟩))]; exact h6
  · rw [f.at (by decide) (hn _ _ _ (Or.inr ⟨by decide, rfl⟩))]; exact h7
  · rw [f.at (by decide) (hn _ _ _ (Or.inr ⟨by decide, rfl⟩))]; exact h8
  · rw [f.at (by decide) (hn _ _ _ (Or.inr ⟨by decide, rfl⟩))]; exact h9
/-- sums and searches -/
def sT (f : Nat → Int) : Nat → Int
  | 0 => 0
  | n + 1 => sT f n + f n
def mT (f : Nat → Int) : Nat → Int
  | 0 => 0
  | n + 1 => if mT f n < f n then f n else mT f n
def fF (p : Nat → Bool) : Nat → Nat → Int
  | 0, _ => -1
  | n + 1, k => if p k then (k : Int) else fF p n (k + 1)
theorem sT_congr {f g : Nat → Int} : ∀ {n : Nat}, (∀ k : Nat, k < n → f k = g k) → sT f n = sT g n
  | 0, _ => rfl
  | n + 1, h => by
    show sT f n + f n = sT g n + g n
    rw [sT_congr (fun k hk => h k (by omega)), h n (by omega)]
theorem sT_shift (f : Nat → Int) : ∀ n : Nat, sT f (n + 1) = f 0 + sT (fun i => f (i + 1)) n
  | 0 => by simp [sT]
  | n + 1 => by
    show sT f (n + 1) + f (n + 1) = f 0 + (sT (fun i => f (i + 1)) n + f (n + 1))
    rw [sT_shift f n]
    omega
theorem fF_none {p : Nat → Bool} : ∀ {n k : Nat}, fF p n k = -1 → ∀ j : Nat, k ≤ j → j < k + n → p j = false
  | 0, k, _, j, h1, h2 => by omega
  | n + 1, k, h, j, h1, h2 => by
    unfold fF at h
    by_cases q : p k = true
    · rw [if_pos q] at h; omega
    · rw [if_neg q] at h
      by_cases e : j = k
      · subst e; exact eq_false_of_ne_true q
      · exact fF_none h j (by omega) (by omega)
theorem fF_some {p : Nat → Bool} : ∀ {n k : Nat}, fF p n k ≠ -1 → ∃ j : Nat, fF p n k = (j : Int) ∧ k ≤ j ∧ j < k + n ∧ p j = true ∧ ∀ i : Nat, k ≤ i → i < j → p i = false
  | 0, k, h => absurd rfl h
  | n + 1, k, h => by
    unfold fF at h ⊢
    by_cases q : p k = true
    · rw [if_pos q]; exact ⟨k, rfl, Nat.le_refl _, by omega, q, fun i h1 h2 => by omega⟩
    · rw [if_neg q] at h ⊢
      obtain ⟨j, h1, h2, h3, h4, h5⟩ := fF_some h
      refine ⟨j, h1, by omega, by omega, h4, fun i g1 g2 => ?_⟩
      by_cases e : i = k
      · subst e; exact eq_false_of_ne_true q
      · exact h5 i (by omega) g2
theorem fF_congr {p q : Nat → Bool} : ∀ {n k : Nat}, (∀ j : Nat, k ≤ j → j < k + n → p j = q j) → fF p n k = fF q n k
  | 0, _, _ => rfl
  | n + 1, k, h => by
    unfold fF
    rw [h k (Nat.le_refl _) (by omega), fF_congr (fun j h1 h2 => h j (by omega) (by omega))]
theorem fF_rng {p : Nat → Bool} (n k : Nat) : -1 ≤ fF p n k ∧ fF p n k < k + n ∨ fF p n k = -1 := by
  by_cases h : fF p n k = -1
  · exact Or.inr h
  · obtain ⟨j, h1, h2, h3, -⟩ := fF_some h
    exact Or.inl ⟨by omega, by omega⟩
theorem whl_find {step : Int → Mem → Option ((Int ⊕ Int) × Mem)} {I : Mem} (p : Nat → Bool) (n : Nat) (hs : ∀ k : Nat, k < n → step (k : Int) I = some (if p k = true then .inr (k : Int) else .inl ((k : Int) + 1), I)) (he : step (n : Int) I = some (.inr (-1), I)) : whl step 0 I = some (fF p n 0, I) := by
  have key : ∀ m k : Nat, k + m = n → whl step (k : Int) I = some (fF p m k, I) := by
    intro m
    induction m with
    | zero =>
      intro k hk
      have hk : k = n := by omega
      subst hk
      rw [whl_eq, he]; rfl
    | succ m ih =>
      intro k hk
      rw [whl_eq, hs k (by omega)]
      unfold fF
      by_cases q : p k = true
      · rw [if_pos q, if_pos q]
      · rw [if_neg q, if_neg q]
        exact ih (k + 1) (by omega)
  exact key n 0 (by omega)
section GRAM
variable {I : Mem} {t : Nat} {g : GS}
theorem g_start (h : GC I t g) : f_G_startRow t I = some (rix t 0, I) := by
  unfold f_G_startRow; rw [if_pos h.1]; rfl
theorem g_bodyI (ht : t < 12) {a : Int} (h1 : -2147483648 ≤ a) (h2 : a < 2147483648) : f_G_body t a I = some (if 0 ≤ a ∧ a < 40 then rix t (a.toNat + 1) else 43 * t + 2, I) := by
  unfold f_G_body
  rw [if_pos ht, w32_of h1 h2]
  by_cases q : a < 0
  · rw [if_pos q, if_neg (by omega)]
  · rw [if_neg q]
    by_cases q2 : a < 40
    · rw [if_pos q2, if_pos (by omega), if_pos (by omega), rix_s]
    · rw [if_neg q2, if_neg (by omega)]
theorem g_body (ht : t < 12) {r : Nat} (hr : r < 40) : f_G_body t (r : Int) I = some (rix t (r + 1), I) := by
  rw [g_bodyI ht (by omega) (by omega), if_pos (by omega), Int.toNat_natCast]
theorem g_hasRuleI (h : GC I t g) {a : Int} (h1 : -2147483648 ≤ a) (h2 : a < 2147483648) : f_G_hasRule t a I = some (bI (0 ≤ a ∧ a < 40 ∧ gR g (a.toNat + 1) ≠ []), I) := by
  unfold f_G_hasRule
  rw [if_pos h.1, g_bodyI h.1 h1 h2, bnd_some]
  by_cases q : 0 ≤ a ∧ a < 40
  · have hr := h.2.1 (a.toNat + 1) (by omega)
    have hl := hr.len
    rw [if_pos q, if_pos (rix_lt h.1 (by omega)), hr.2.1, w32_of (by omega) (by omega)]
    by_cases e : gR g (a.toNat + 1) = []
    · rw [if_neg (by rw [e]; simp), bI_neg (by simp [e])]
    · have := List.length_pos_iff.mpr e
      rw [if_pos (by omega), bI_pos ⟨q.1, q.2, e⟩]
  · have hr := h.2.2.2.1
    rw [if_neg q, if_pos hr.1, hr.2.1, if_neg (by decide), bI_neg (fun z => q ⟨z.1, z.2.1⟩)]
theorem g_hasRule (h : GC I t g) {r : Nat} (hr : r < 40) : f_G_hasRule t (r : Int) I = some (bI (gR g (r + 1) ≠ []), I) := by
  rw [g_hasRuleI h (by omega) (by omega), bI_congr (q := gR g (r + 1) ≠ []) ⟨fun z => z.2.2, fun z => ⟨by omega, by omega, z⟩⟩]
theorem p_isLetter {a : Int} (h1 : -2147483648 ≤ a) (h2 : a < 2147483648) : f_PR_isLetter a I = some (bI (0 ≤ a ∧ a < 26), I) := by
  unfold f_PR_isLetter
  rw [w32_of h1 h2]
  by_cases q : a < 0
  · rw [if_pos q, bI_neg (by omega)]
  · rw [if_neg q]
    by_cases q2 : a < 26
    · rw [if_pos q2, bI_pos (by omega)]
    · rw [if_neg q2, bI_neg (by omega)]
theorem p_isSymbol {a : Int} (h1 : -2147483648 ≤ a) (h2 : a < 2147483648) : f_PR_isSymbol a I = some (bI (0 ≤ a ∧ a < 66), I) := by
  unfold f_PR_isSymbol
  rw [w32_of h1 h2]
  by_cases q : a < 0
  · rw [if_pos q, bI_neg (by omega)]
  · rw [if_neg q]
    by_cases q2 : a < 66
    · rw [if_pos q2, bI_pos (by omega)]
    · rw [if_neg q2, bI_neg (by omega)]
theorem g_hasSymbol (h : GC I t g) {a : Int} (ha : 0 ≤ a ∧ a < 66) : f_G_hasSymbol t a I = some (bI (26 ≤ a → gR g ((a - 26).toNat + 1) ≠ []), I) := by
  unfold f_G_hasSymbol
  rw [if_pos h.1, p_isLetter (by omega) (by omega), bnd_some]
  by_cases q : a < 26
  · rw [if_neg (wb_pos (by omega)), bI_pos (fun z => by omega)]
  · rw [if_pos (wb_neg (by omega)), g_hasRuleI h (by omega) (by omega), bnd_some]
    by_cases e : gR g ((a - 26).toNat + 1) = []
    · rw [if_pos (wb_neg (fun z => z.2.2 e)), bI_neg (fun k => k (by omega) e)]
    · rw [if_neg (wb_pos ⟨by omega, by omega, e⟩), bI_pos (fun _ => e)]
theorem g_lengthOf (h : GC I t g) {a : Int} (ha : 0 ≤ a ∧ a < 66) : f_G_lengthOf t a I = some (sl (gL g) a, I) := by
  unfold f_G_lengthOf sl
  rw [if_pos h.1, w32_of (x := a) (by omega) (by omega), if_neg (by omega), if_pos (by omega)]
  by_cases q : a < 26
  · rw [if_pos q, if_pos q]
  · rw [if_neg q, if_neg q, w32_of (x := a - 26) (by omega) (by omega), if_pos (by omega), h.2.2.2.2.1 _ (by omega)]
theorem g_number (h : GC I t g) {j : Nat} (hj : j < 3) : f_G_number t (4 + (j : Int)) I = some (gN g j, I) := by
  obtain ⟨ht, -, -, -, -, -, h6, h7, h8, -⟩ := h
  unfold f_G_number
  rw [if_pos ht, w32_of (by omega) (by omega)]
  rcases (show j = 0 ∨ j = 1 ∨ j = 2 by omega) with rfl | rfl | rfl
  · rw [if_pos (by decide), h6]
  · rw [if_neg (by decide), if_pos (by decide), h7]
  · rw [if_neg (by decide), if_neg (by decide), h8]
theorem g_accountOf (h : GC I t g) {j : Nat} (hj : j < 9) : f_G_accountOf t (j : Int) I = some (gA g j, I) := by
  unfold f_G_accountOf
  rw [if_pos h.1, w32_of (by omega) (by omega), if_neg (by omega), if_pos (by omega), if_pos (by omega), Int.toNat_natCast, h.2.2.2.2.2.1 j hj]
/-- a loop over the bodies' lengths -/
theorem g_manyOf (h : GC I t g) {r : Nat} (hr : r < 40) : I 2 (43 * t + 3 + r) 1 = ((gR g (r + 1)).length : Int) ∧ (gR g (r + 1)).length ≤ 400 := by
  have := h.2.1 (r + 1) (by omega)
  rw [rix_s] at this
  exact ⟨this.2.1, this.len⟩
def nRules (g : GS) : Int := sT (fun r => if gR g (r + 1) ≠ [] then 1 else 0) 40
def gSize (g : GS) : Int := sT (fun i => ((gR g i).length : Int)) 41
def gLongest (g : GS) : Int := mT (fun r => ((gR g (r + 1)).length : Int)) 40
def gFree (g : GS) : Int := fF (fun r => decide (gR g (r + 1) = [])) 40 0
def gKept (g : GS) (a b : Int) : Int := fF (fun r => decide (gR g (r + 1) = [a, b])) 40 0
def gUses (g : GS) (r : Nat) : Int := sT (fun i => ((gR g i).count (26 + (r : Int)) : Int)) 41
theorem g_manyRules (h : GC I t g) : f_G_manyRules t I = some (nRules g, I) := by
  unfold f_G_manyRules
  rw [if_pos h.1]
  rw [whl_ro (r := nRules g) (s0 := ((0 : Int), (0 : Int))) (fun k => (sT (fun r => if gR g (r + 1) ≠ [] then 1 else 0) k, (k : Int))) 40 rfl ?_ ?_, bnd_some]
  · intro k hk
    obtain ⟨e1, e2⟩ := g_manyOf h hk
    unfold f_G_manyRules_w4
    dsimp only
    rw [w32_of (x := (k : Int)) (by omega) (by omega), if_pos (by omega), if_pos (by omega), Int.toNat_natCast, e1, w32_of (by omega) (by omega)]
    show _ = some (Sum.inl (sT _ k + (if gR g (k + 1) ≠ [] then 1 else 0), ((k : Int) + 1)), I)
    by_cases e : gR g (k + 1) = []
    · rw [if_neg (by rw [e]; simp), if_neg (by simp [e])]
    · have := List.length_pos_iff.mpr e
      rw [if_pos (by omega), if_pos e]
  · unfold f_G_manyRules_w4
    dsimp only
    rw [if_neg (by decide)]
    rfl
theorem g_totalSize (h : GC I t g) : f_G_totalSize t I = some (gSize g, I) := by
  unfold f_G_totalSize
  rw [if_pos h.1]
  have h0 := (h.2.1 0 (by omega)).2.1
  rw [rix_0] at h0
  rw [whl_ro (r := gSize g) (fun k => (sT (fun i => ((gR g i).length : Int)) (k + 1), (k : Int))) 40 (by rw [h0]; simp [sT]) ?_ ?_, bnd_some]
  · intro k hk
    obtain ⟨e1, e2⟩ := g_manyOf h hk
    unfold f_G_totalSize_w10
    dsimp only
    rw [w32_of (x := (k : Int)) (by omega) (by omega), if_pos (by omega), if_pos (by omega), Int.toNat_natCast, e1]
    rfl
  · unfold f_G_totalSize_w10
    dsimp only
    rw [if_neg (by decide)]
    rfl
theorem g_longestBody (h : GC I t g) : f_G_longestBody t I = some (gLongest g, I) := by
  have hm : ∀ n : Nat, n ≤ 40 → 0 ≤ mT (fun r => ((gR g (r + 1)).length : Int)) n ∧ mT (fun r => ((gR g (r + 1)).length : Int)) n ≤ 400 := by
    intro n
    induction n with
    | zero => intro _; exact ⟨Int.le_refl _, by show (0 : Int) ≤ 400; decide⟩
    | succ n ih =>
      intro hn
      have i1 := ih (by omega)
      have i2 := (g_manyOf h (r := n) (by omega)).2
      unfold mT
      split <;> omega
  unfold f_G_longestBody
  rw [if_pos h.1]
  rw [whl_ro (r := gLongest g) (s0 := ((0 : Int), (0 : Int))) (fun k => (mT (fun r => ((gR g (r + 1)).length : Int)) k, (k : Int))) 40 rfl ?_ ?_, bnd_some]
  · intro k hk
    obtain ⟨e1, e2⟩ := g_manyOf h hk
    have hk2 := hm k (by omega)
    unfold f_G_longestBody_w4
    dsimp only
    rw [w32_of (x := (k : Int)) (by omega) (by omega), if_pos (by omega), if_pos (by omega), Int.toNat_natCast, e1]
    unfold imx
    rw [w32_of (x := mT _ k) (by omega) (by omega), w32_of (x := ((gR g (k + 1)).length : Int)) (by omega) (by omega)]
    rfl
  · unfold f_G_longestBody_w4
    dsimp only
    rw [if_neg (by decide)]
    rfl
theorem g_lowestFree (h : GC I t g) : f_G_lowestFree t I = some (gFree g, I) := by
  unfold f_G_lowestFree
  rw [if_pos h.1]
  refine whl_find _ 40 (fun k hk => ?_) ?_
  · obtain ⟨e1, e2⟩ := g_manyOf h hk
    unfold f_G_lowestFree_w2
    rw [w32_of (x := (k : Int)) (by omega) (by omega), if_pos (by omega), if_pos (by omega), Int.toNat_natCast, e1, w32_of (by omega) (by omega)]
    by_cases e : gR g (k + 1) = []
    · rw [if_pos (by rw [e]; rfl), if_pos (by simpa using e)]
    · have := List.length_pos_iff.mpr e
      rw [if_neg (by omega), if_neg (by simpa using e)]
  · unfold f_G_lowestFree_w2
    rw [if_neg (by decide)]
theorem g_keptOf (h : GC I t g) (w : ∀ i : Nat, i < 41 → SY (gR g i)) {a b : Int} (ha : 0 ≤ a ∧ a < 66) (hb : 0 ≤ b ∧ b < 66) : f_G_keptOf t a b I = some (gKept g a b, I) := by
  unfold f_G_keptOf
  rw [if_pos h.1]
  refine whl_find _ 40 (fun k hk => ?_) ?_
  · have hr := h.2.1 (k + 1) (by omega)
    rw [rix_s] at hr
    unfold f_G_keptOf_w2
    rw [w32_of (x := (k : Int)) (by omega) (by omega), if_pos (by omega), if_pos (by omega), Int.toNat_natCast, row_isPair hr (w (k + 1) (by omega)) ha hb, bnd_some]
    by_cases e : gR g (k + 1) = [a, b]
    · rw [if_neg (wb_pos e), if_pos (by simpa using e)]
    · rw [if_pos (wb_neg e), if_neg (by simpa using e)]
  · unfold f_G_keptOf_w2
    rw [if_neg (by decide)]
theorem g_usesOf (h : GC I t g) (w : ∀ i : Nat, i < 41 → SY (gR g i)) {r : Nat} (hr : r < 40) : f_G_usesOf t (r : Int) I = some (gUses g r, I) := by
  unfold f_G_usesOf
  have h0 := h.2.1 0 (by omega)
  rw [rix_0] at h0
  rw [if_pos h.1, row_timesOf h0 (w 0 (by omega)) (by omega), bnd_some]
  rw [whl_ro (r := gUses g r) (fun k => (sT (fun i => ((gR g i).count (26 + (r : Int)) : Int)) (k + 1), (k : Int))) 40 (by simp [sT]) ?_ ?_, bnd_some]
  · intro k hk
    have hrk := h.2.1 (k + 1) (by omega)
    rw [rix_s] at hrk
    unfold f_G_usesOf_w14
    dsimp only
    rw [w32_of (x := (k : Int)) (by omega) (by omega), if_pos (by omega), if_pos (by omega), Int.toNat_natCast, row_timesOf hrk (w (k + 1) (by omega)) (by omega), bnd_some]
    rfl
  · unfold f_G_usesOf_w14
    dsimp only
    rw [if_neg (by decide)]
    rfl
theorem g_textLength (h : GC I t g) (w : ∀ i : Nat, i < 41 → SY (gR g i)) : f_G_textLength t I = some (ll (gL g) (gR g 0), I) := by
  have h0 := h.2.1 0 (by omega)
  have hl := h0.len
  have hs := w 0 (by omega)
  rw [rix_0] at h0
  unfold f_G_textLength
  rw [if_pos h.1]
  rw [whl_ro (r := ll (gL g) (gR g 0)) (fun k => (ll (gL g) ((gR g 0).take k), (k : Int))) (gR g 0).length (by simp [ll]) ?_ ?_, bnd_some]
  · intro k hk
    have q := hs.at hk
    unfold f_G_textLength_w4
    dsimp only
    rw [w32_of (x := (k : Int)) (by omega) (by omega), h0.2.1, w32_of (x := ((gR g 0).length : Int)) (by omega) (by omega), if_pos (by omega), row_at h0 (by omega), bnd_some, g_lengthOf h q, bnd_some, take_at (d := -1) hk, ll_app, ll_cons, ll_nil, Int.add_zero]
    rfl
  · unfold f_G_textLength_w4
    dsimp only
    rw [w32_of (x := ((gR g 0).length : Int)) (by omega) (by omega), h0.2.1, w32_of (x := ((gR g 0).length : Int)) (by omega) (by omega), if_neg (by omega), List.take_length]
end GRAM
