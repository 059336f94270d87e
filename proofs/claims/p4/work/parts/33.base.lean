/-! ===== the functional side: what the methods' functions answer ===== -/
theorem w32_of {x : Int} (h1 : -2147483648 ≤ x) (h2 : x < 2147483648) : w32 x = x := by
  unfold w32
  exact Int.bmod_eq_of_le (by omega) (by omega)
theorem w32_rng (x : Int) : -2147483648 ≤ w32 x ∧ w32 x < 2147483648 := by
  unfold w32
  have h1 := Int.le_bmod (x := x) (m := 4294967296) (by decide)
  have h2 := Int.bmod_lt (x := x) (m := 4294967296) (by decide)
  omega
theorem w32_w32 (x : Int) : w32 (w32 x) = w32 x := w32_of (w32_rng x).1 (w32_rng x).2
def Tr {α : Type} (e : Option (α × Mem)) (Q : α → Mem → Prop) : Prop := ∃ (a : α) (J : Mem), e = some (a, J) ∧ Q a J
def LQ {σ ρ : Type} (P : σ → Mem → Prop) (Q : ρ → Mem → Prop) (x : σ ⊕ ρ) (J : Mem) : Prop := match x with
  | .inl s => P s J
  | .inr r => Q r J
section TR
variable {α β γ σ ρ : Type} {Q : β → Mem → Prop} {I : Mem}
theorem tr_ret {b : β} {J : Mem} (h : Q b J) : Tr (some (b, J)) Q := ⟨b, J, rfl, h⟩
theorem tr_some {b : β} {J : Mem} : Tr (some (b, J)) Q ↔ Q b J := ⟨fun ⟨_, _, e, h⟩ => by cases e; exact h, tr_ret⟩
theorem tr_call {e : Option (α × Mem)} {K : α → Mem → Option (β × Mem)} {P : α → Mem → Prop} (h : Tr e P) (k : ∀ (a : α) (J : Mem), P a J → Tr (K a J) Q) : Tr (bnd e K) Q := by
  obtain ⟨a, J, rfl, hp⟩ := h
  exact k a J hp
theorem tr_bnd {e : Option (α × Mem)} {K : α → Mem → Option (β × Mem)} : Tr (bnd e K) Q ↔ Tr e (fun a J => Tr (K a J) Q) := by
  constructor
  · cases e with
    | none => rintro ⟨_, _, h, _⟩; cases h
    | some q => obtain ⟨a, J⟩ := q; intro h; exact ⟨a, J, rfl, h⟩
  · intro h; exact tr_call h (fun _ _ q => q)
theorem tr_eq {e : Option (α × Mem)} {K : α → Mem → Option (β × Mem)} {a : α} {J : Mem} (h : e = some (a, J)) (k : Tr (K a J) Q) : Tr (bnd e K) Q := by rw [h]; exact k
theorem bnd_some {a : α} {J : Mem} {K : α → Mem → Option (β × Mem)} : bnd (some (a, J)) K = K a J := rfl
theorem tr_mono {e : Option (β × Mem)} {P : β → Mem → Prop} (h : Tr e P) (k : ∀ (b : β) (J : Mem), P b J → Q b J) : Tr e Q := by
  obtain ⟨a, J, e, hp⟩ := h
  exact ⟨a, J, e, k a J hp⟩
theorem tr_pos {c : Prop} [Decidable c] {e1 e2 : Option (β × Mem)} (hc : c) (h : Tr e1 Q) : Tr (if c then e1 else e2) Q := by rw [if_pos hc]; exact h
theorem tr_neg {c : Prop} [Decidable c] {e1 e2 : Option (β × Mem)} (hc : ¬ c) (h : Tr e2 Q) : Tr (if c then e1 else e2) Q := by rw [if_neg hc]; exact h
theorem tr_if {c : Prop} [Decidable c] {e1 e2 : Option (β × Mem)} (h1 : c → Tr e1 Q) (h2 : ¬ c → Tr e2 Q) : Tr (if c then e1 else e2) Q := by
  by_cases hc : c
  · exact tr_pos hc (h1 hc)
  · exact tr_neg hc (h2 hc)
theorem tr_ro {e : Option (β × Mem)} {b : β} (h : Tr e (fun a J => a = b ∧ J = I)) : e = some (b, I) := by
  obtain ⟨a, J, e, rfl, rfl⟩ := h
  exact e
theorem tr_whl {step : σ → Mem → Option ((σ ⊕ ρ) × Mem)} {Q : ρ → Mem → Prop} (P : Nat → σ → Mem → Prop) (hs : ∀ (n : Nat) (s : σ) (J : Mem), P n s J → Tr (step s J) (LQ (fun s' J' => ∃ m : Nat, m < n ∧ P m s' J') Q)) (n : Nat) : ∀ (s : σ) (J : Mem), P n s J → Tr (whl step s J) Q := by
  refine Nat.strongRecOn (motive := fun n => ∀ (s : σ) (J : Mem), P n s J → Tr (whl step s J) Q) n ?_
  intro n ih s J h
  obtain ⟨x, K, e, hq⟩ := hs n s J h
  rw [whl_eq, e]
  cases x with
  | inl s' =>
    obtain ⟨m, hm, hp⟩ := hq
    exact ih m hm s' K hp
  | inr r => exact tr_ret (Q := Q) hq
/-- a counted loop -/
theorem tr_cnt {step : σ → Mem → Option ((σ ⊕ ρ) × Mem)} {Q : ρ → Mem → Prop} (S : Nat → σ) (P : Nat → Mem → Prop) (n : Nat) {s0 : σ} (h0 : s0 = S 0) (hi : P 0 I)
    (hs : ∀ (k : Nat) (J : Mem), k < n → P k J → Tr (step (S k) J) (LQ (fun s' J' => s' = S (k + 1) ∧ P (k + 1) J') Q)) (he : ∀ J : Mem, P n J → Tr (step (S n) J) (LQ (fun _ _ => False) Q)) : Tr (whl step s0 I) Q := by
  refine tr_whl (fun m s J => ∃ k : Nat, k ≤ n ∧ m = n - k ∧ s = S k ∧ P k J) ?_ n s0 I ⟨0, Nat.zero_le n, rfl, h0, hi⟩
  rintro m s J ⟨k, hk, rfl, rfl, hp⟩
  by_cases hkn : k < n
  · refine tr_mono (hs k J hkn hp) ?_
    intro x K hx
    cases x with
    | inl s' =>
      obtain ⟨rfl, hp'⟩ := hx
      exact ⟨n - (k + 1), by omega, k + 1, by omega, rfl, rfl, hp'⟩
    | inr r => exact hx
  · have hk : k = n := by omega
    subst hk
    refine tr_mono (he J hp) ?_
    intro x K hx
    cases x with
    | inl s' => exact hx.elim
    | inr r => exact hx
/-- a counted loop that only reads -/
theorem whl_ro {step : σ → Mem → Option ((σ ⊕ ρ) × Mem)} {r : ρ} (S : Nat → σ) (n : Nat) {s0 : σ} (h0 : s0 = S 0) (hs : ∀ k : Nat, k < n → step (S k) I = some (.inl (S (k + 1)), I)) (he : step (S n) I = some (.inr r, I)) : whl step s0 I = some (r, I) := by
  refine tr_ro (tr_cnt S (fun _ J => J = I) n h0 rfl ?_ ?_)
  · rintro k J hk rfl
    rw [hs k hk]
    exact tr_ret ⟨rfl, rfl⟩
  · rintro J rfl
    rw [he]
    exact tr_ret ⟨rfl, rfl⟩
end TR
/-! frames; what is made is paid for by room -/
abbrev FP : Type := Nat → Nat → Nat → Prop
def Cap (I : Mem) : Int := ((List.range 516).map (fun r => I 2 r 2)).sum + I 10 0 2
def Gr (I J : Mem) : Prop := I 30 0 0 ≤ J 30 0 0 ∧ I 30 0 1 ≤ J 30 0 1 ∧ J 30 0 0 - I 30 0 0 ≤ Cap J - Cap I ∧ J 30 0 1 - I 30 0 1 ≤ 3 * (Cap J - Cap I)
def Fm (F : FP) (I J : Mem) : Prop := (∀ k i s : Nat, k ≠ 30 → ¬ F k i s → J k i s = I k i s) ∧ Gr I J
theorem Gr.refl (I : Mem) : Gr I I := by unfold Gr; omega
theorem Gr.trans {I J K : Mem} (h : Gr I J) (k : Gr J K) : Gr I K := by unfold Gr at *; omega
theorem cap_congr {I J : Mem} (h : ∀ r : Nat, J 2 r 2 = I 2 r 2) (h10 : J 10 0 2 = I 10 0 2) : Cap J = Cap I := by
  unfold Cap
  rw [h10, show (fun r => J 2 r 2) = (fun r => I 2 r 2) from funext h]
theorem Gr.same {I J : Mem} (h : ∀ r : Nat, J 2 r 2 = I 2 r 2) (h10 : J 10 0 2 = I 10 0 2) (h0 : J 30 0 0 = I 30 0 0) (h1 : J 30 0 1 = I 30 0 1) : Gr I J := by
  have := cap_congr h h10
  unfold Gr
  omega
theorem Fm.refl (F : FP) (I : Mem) : Fm F I I := ⟨fun _ _ _ _ _ => rfl, Gr.refl I⟩
theorem Fm.trans {F : FP} {I J K : Mem} (h : Fm F I J) (k : Fm F J K) : Fm F I K := ⟨fun a b c h1 h2 => (k.1 a b c h1 h2).trans (h.1 a b c h1 h2), h.2.trans k.2⟩
theorem Fm.mono {F F' : FP} {I J : Mem} (h : Fm F I J) (k : ∀ a b c : Nat, F a b c → F' a b c) : Fm F' I J := ⟨fun a b c h1 h2 => h.1 a b c h1 (fun q => h2 (k a b c q)), h.2⟩
theorem Fm.or {F F' : FP} {I J K : Mem} (h : Fm F I J) (k : Fm F' J K) : Fm (fun a b c => F a b c ∨ F' a b c) I K := (h.mono (fun _ _ _ => Or.inl)).trans (k.mono (fun _ _ _ => Or.inr))
theorem Fm.at {F : FP} {I J : Mem} (h : Fm F I J) {k i s : Nat} (hk : k ≠ 30) (hn : ¬ F k i s) : J k i s = I k i s := h.1 k i s hk hn
theorem Fm.sI {F : FP} {I : Mem} {k i s : Nat} {v : Int} (hk : k ≠ 30) (h2 : ¬ (k = 2 ∧ s = 2)) (h10 : ¬ (k = 10 ∧ s = 2)) (hF : F k i s) : Fm F I (sI I k i s v) := by
  refine ⟨fun a b c _ hn => sI_ne (fun q => ?_), Gr.same (fun r => sI_ne (fun q => h2 ⟨q.1.symm, q.2.2.symm⟩)) (sI_ne (fun q => h10 ⟨q.1.symm, q.2.2.symm⟩)) (sI_ne (fun q => hk q.1.symm)) (sI_ne (fun q => hk q.1.symm))⟩
  obtain ⟨rfl, rfl, rfl⟩ := q
  exact hn hF
theorem Fm.cpI {F : FP} {I : Mem} {k i sp i' dp n : Nat} (hk : k ≠ 30) (h2 : k ≠ 2) (h10 : k ≠ 10) (hF : ∀ s : Nat, dp ≤ s → s < dp + n → F k i' s) : Fm F I (cpI I k i sp i' dp n) := by
  refine ⟨fun a b c _ hn => if_neg (fun q => ?_), Gr.same (fun r => if_neg (fun q => h2 q.1.symm)) (if_neg (fun q => h10 q.1.symm)) (if_neg (fun q => hk q.1.symm)) (if_neg (fun q => hk q.1.symm))⟩
  obtain ⟨rfl, rfl, q1, q2⟩ := q
  exact hn (hF c q1 q2)
theorem sum_one {f g : Nat → Int} {r : Nat} : ∀ n : Nat, r < n → (∀ j : Nat, j ≠ r → g j = f j) → ((List.range n).map g).sum = ((List.range n).map f).sum + (g r - f r) := by
  intro n
  induction n with
  | zero => intro h; omega
  | succ n ih =>
    intro h hj
    rw [List.range_succ, List.map_append, List.map_append, List.sum_append, List.sum_append]
    by_cases hr : r = n
    · subst hr
      have : (List.range r).map g = (List.range r).map f := List.map_congr_left (fun j hm => hj j (by have := List.mem_range.mp hm; omega))
      rw [this]
      simp
      omega
    · rw [ih (by omega) hj]
      simp [hj n (fun e => hr e.symm)]
      omega
/-- a row's array is a wider one -/
theorem Fm.grwR {F : FP} {I : Mem} {r : Nat} {n many : Int} (hr : r < 516) (h1 : 1 ≤ n - I 2 r 2) (h2 : n ≤ 3 * (n - I 2 r 2)) (hF : ∀ s : Nat, F 12 r s ∧ F 2 r s) (hn : 0 ≤ n) : Fm F I (grw I 12 2 r n many) := by
  refine ⟨fun a b c h30 hnF => ?_, ?_⟩
  · unfold grw
    rw [if_neg (fun q => by obtain ⟨rfl, rfl⟩ := q; exact hnF (hF c).1), if_neg (fun q => by obtain ⟨rfl, rfl, rfl⟩ := q; exact hnF (hF 2).2), if_neg (fun q => h30 q.1), if_neg (fun q => h30 q.1)]
  · have e0 : grw I 12 2 r n many 30 0 0 = I 30 0 0 + 1 := by simp [grw]
    have e1 : grw I 12 2 r n many 30 0 1 = I 30 0 1 + n := by simp [grw]
    have e2 : Cap (grw I 12 2 r n many) = Cap I + (n - I 2 r 2) := by
      unfold Cap
      rw [sum_one (f := fun r => I 2 r 2) (g := fun r' => grw I 12 2 r n many 2 r' 2) (r := r) 516 hr (fun j hj => by simp [grw, hj])]
      simp [grw]
      omega
    unfold Gr
    rw [e0, e1, e2]
    omega
theorem getD_l {l m : List Int} {j : Nat} {d : Int} (h : j < l.length) : (l ++ m).getD j d = l.getD j d := by
  simp [List.getD_eq_getElem?_getD, List.getElem?_append, h]
theorem getD_r {l m : List Int} {j : Nat} {d : Int} (h : l.length ≤ j) : (l ++ m).getD j d = m.getD (j - l.length) d := by
  simp [List.getD_eq_getElem?_getD, List.getElem?_append, Nat.not_lt.mpr h]
theorem getD_0 {x d : Int} {l : List Int} : (x :: l).getD 0 d = x := rfl
theorem drop_at {l : List Int} {j : Nat} {d : Int} (h : j < l.length) : l.drop j = l.getD j d :: l.drop (j + 1) := by
  rw [List.drop_eq_getElem_cons h]
  simp [List.getD_eq_getElem?_getD, h]
theorem getD_mem {l : List Int} {j : Nat} {d : Int} (h : j < l.length) : l.getD j d ∈ l := by
  simp [List.getD_eq_getElem?_getD, h]
theorem getD_out {l : List Int} {j : Nat} {d : Int} (h : l.length ≤ j) : l.getD j d = d := by
  simp [List.getD_eq_getElem?_getD, h]
theorem getD_ext {l m : List Int} (h : l.length = m.length) (k : ∀ j : Nat, j < l.length → l.getD j (-1) = m.getD j (-1)) : l = m := by
  refine List.ext_getElem h (fun j h1 h2 => ?_)
  have := k j h1
  simpa [List.getD_eq_getElem?_getD, h1, h2] using this
theorem getD_drop {l : List Int} {i j : Nat} {d : Int} : (l.drop i).getD j d = l.getD (i + j) d := by
  simp [List.getD_eq_getElem?_getD]
theorem getD_take {l : List Int} {i j : Nat} {d : Int} (h : j < i) : (l.take i).getD j d = l.getD j d := by
  simp [List.getD_eq_getElem?_getD, List.getElem?_take, h]
theorem take_at {l : List Int} {j : Nat} {d : Int} (h : j < l.length) : l.take (j + 1) = l.take j ++ [l.getD j d] := by
  rw [List.take_add_one]
  simp [List.getD_eq_getElem?_getD, h]
theorem tn1 (k : Nat) : ((k : Int) + 1).toNat = k + 1 := by omega
def bI (p : Prop) [Decidable p] : Int := if p then 1 else 0
theorem bI_pos {p : Prop} [Decidable p] (h : p) : bI p = 1 := if_pos h
theorem bI_neg {p : Prop} [Decidable p] (h : ¬ p) : bI p = 0 := if_neg h
theorem wb_pos {p : Prop} [Decidable p] (h : p) : ¬ w32 (bI p) = 0 := by rw [bI_pos h]; decide
theorem wb_neg {p : Prop} [Decidable p] (h : ¬ p) : w32 (bI p) = 0 := by rw [bI_neg h]; decide
theorem bI_01 (p : Prop) [Decidable p] : bI p = 0 ∨ bI p = 1 := by unfold bI; split <;> omega
theorem bI_congr {p q : Prop} [Decidable p] [Decidable q] (h : p ↔ q) : bI p = bI q := by
  by_cases k : p
  · rw [bI_pos k, bI_pos (h.mp k)]
  · rw [bI_neg k, bI_neg (fun z => k (h.mpr z))]
