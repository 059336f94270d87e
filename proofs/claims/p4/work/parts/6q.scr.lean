/-! ===== scripts: what they say, how they run (pure) ===== -/
abbrev EN : Type := Nat × Int × Nat
def eD (E : List EN) (k : Nat) : EN := E.getD k (14, 0, 0)
def ew (E : List EN) (k : Nat) : Nat := (eD E k).1
/-- the agains that are open ahead of an entry, the innermost first -/
def enc (E : List EN) : Nat → List Nat
  | 0 => []
  | k + 1 => if ew E k = 12 then k :: enc E k else if ew E k = 13 then (enc E k).tail else enc E k
theorem eD_app {E : List EN} {e : EN} {k : Nat} (h : k < E.length) : eD (E ++ [e]) k = eD E k := gd_l h
theorem eD_last (E : List EN) (e : EN) : eD (E ++ [e]) E.length = e := by
  unfold eD
  rw [gd_r (Nat.le_refl _), Nat.sub_self]
  rfl
theorem ew_app {E : List EN} {e : EN} {k : Nat} (h : k < E.length) : ew (E ++ [e]) k = ew E k := by unfold ew; rw [eD_app h]
theorem ew_last (E : List EN) (e : EN) : ew (E ++ [e]) E.length = e.1 := by unfold ew; rw [eD_last]
theorem enc_app {E : List EN} {e : EN} : ∀ {k : Nat}, k ≤ E.length → enc (E ++ [e]) k = enc E k
  | 0, _ => rfl
  | k + 1, h => by
    show (if ew (E ++ [e]) k = 12 then k :: enc (E ++ [e]) k else if ew (E ++ [e]) k = 13 then (enc (E ++ [e]) k).tail else enc (E ++ [e]) k) = _
    rw [ew_app (by omega), enc_app (k := k) (by omega)]
    rfl
theorem enc_next (E : List EN) (e : EN) : enc (E ++ [e]) (E ++ [e]).length = if e.1 = 12 then E.length :: enc E E.length else if e.1 = 13 then (enc E E.length).tail else enc E E.length := by
  rw [List.length_append]
  show (if ew (E ++ [e]) E.length = 12 then E.length :: enc (E ++ [e]) E.length else if ew (E ++ [e]) E.length = 13 then (enc (E ++ [e]) E.length).tail else enc (E ++ [e]) E.length) = _
  rw [ew_last, enc_app (Nat.le_refl _)]
theorem enc_cons {E : List EN} : ∀ (k a : Nat) (t : List Nat), enc E k = a :: t → a < k ∧ ew E a = 12 ∧ t = enc E a := by
  intro k
  refine Nat.strongRecOn (motive := fun k => ∀ (a : Nat) (t : List Nat), enc E k = a :: t → a < k ∧ ew E a = 12 ∧ t = enc E a) k ?_
  intro k ih a t h
  cases k with
  | zero => cases h
  | succ k =>
    have h : (if ew E k = 12 then k :: enc E k else if ew E k = 13 then (enc E k).tail else enc E k) = a :: t := h
    by_cases q : ew E k = 12
    · rw [if_pos q] at h
      cases h
      exact ⟨by omega, q, rfl⟩
    · rw [if_neg q] at h
      by_cases q2 : ew E k = 13
      · rw [if_pos q2] at h
        cases hk : enc E k with
        | nil => rw [hk] at h; cases h
        | cons b u =>
          rw [hk] at h
          obtain ⟨h1, h2, h3⟩ := ih k (by omega) b u hk
          have h : u = a :: t := h
          rw [h3] at h
          obtain ⟨j1, j2, j3⟩ := ih b (by omega) a t h
          exact ⟨by omega, j2, j3⟩
      · rw [if_neg q2] at h
        obtain ⟨j1, j2, j3⟩ := ih k (by omega) a t h
        exact ⟨by omega, j2, j3⟩
theorem enc_closed {E : List EN} (hne : ∀ k : Nat, k < E.length → ew E k = 13 → enc E k ≠ []) : ∀ m : Nat, m ≤ E.length → ∀ a : Nat, a < m → ew E a = 12 → a ∈ enc E m ∨ ∃ k : Nat, a < k ∧ k < m ∧ ew E k = 13 ∧ enc E k = a :: enc E a := by
  intro m
  induction m with
  | zero => intro _ a h; omega
  | succ m ih =>
    intro hm a ha hw
    show a ∈ (if ew E m = 12 then m :: enc E m else if ew E m = 13 then (enc E m).tail else enc E m) ∨ _
    by_cases e : a = m
    · subst e
      rw [if_pos hw]
      exact Or.inl List.mem_cons_self
    · have h := ih (by omega) a (by omega) hw
      by_cases q : ew E m = 12
      · rw [if_pos q]
        rcases h with h | ⟨k, h1, h2, h3, h4⟩
        · exact Or.inl (List.mem_cons_of_mem _ h)
        · exact Or.inr ⟨k, h1, by omega, h3, h4⟩
      · rw [if_neg q]
        by_cases q2 : ew E m = 13
        · rw [if_pos q2]
          rcases h with h | ⟨k, h1, h2, h3, h4⟩
          · cases hk : enc E m with
            | nil => exact absurd hk (hne m (by omega) q2)
            | cons b u =>
              rw [hk] at h
              obtain ⟨j1, j2, j3⟩ := enc_cons m b u hk
              rcases List.mem_cons.mp h with z | z
              · subst z
                exact Or.inr ⟨m, by omega, by omega, q2, by rw [hk, j3]⟩
              · exact Or.inl z
          · exact Or.inr ⟨k, h1, by omega, h3, h4⟩
        · rw [if_neg q2]
          rcases h with h | ⟨k, h1, h2, h3, h4⟩
          · exact Or.inl h
          · exact Or.inr ⟨k, h1, by omega, h3, h4⟩
/-! reading -/
abbrev PS : Type := List EN × Nat × Nat
def ordP (bs : List Int) (E : List EN) (c p : Nat) : Int ⊕ PS :=
  if wOrd (wd bs p) = 0 then .inl 1 else if 30 ≤ c then .inl 5
  else if wd bs p = 7 then (if tK bs (tE bs p) = 3 then .inr (E ++ [(7, 0, 0)], c + 1, tE bs (tE bs p)) else .inl 1)
  else if wd bs p = 8 ∨ wd bs p = 10 then (if tK bs (tE bs p) ≠ 1 then .inl 1 else if wd bs p = 8 ∧ tE bs (tE bs p) - tF bs (tE bs p) ≠ 2 then .inl 4 else if tK bs (tE bs (tE bs p)) = 3 then .inr (E ++ [(wd bs p, (tF bs (tE bs p) : Int), tE bs (tE bs p) - tF bs (tE bs p))], c + 1, tE bs (tE bs (tE bs p))) else .inl 1)
  else if nbE bs (tE bs p) (wLow (wd bs p)) (wHig (wd bs p)) ≠ 0 then .inl (nbE bs (tE bs p) (wLow (wd bs p)) (wHig (wd bs p)))
  else if wd bs p = 12 then (if tK bs (tE bs (tE bs p)) = 4 ∧ 2 ≤ (enc E E.length).length then .inl 5 else if tK bs (tE bs (tE bs p)) ≠ 4 then .inl 1 else .inr (E ++ [(12, nV bs (tE bs p), 0)], c + 1, tE bs (tE bs (tE bs p))))
  else if tK bs (tE bs (tE bs p)) = 3 then .inr (E ++ [(wd bs p, nV bs (tE bs p), 0)], c + 1, tE bs (tE bs (tE bs p))) else .inl 1
def cloP (bs : List Int) (E : List EN) (c p : Nat) : Int ⊕ PS := if tK bs (tE bs p) = 3 then .inr (E ++ [(13, 0, 0)], c, tE bs (tE bs p)) else .inl 1
def scr (bs : List Int) : Nat → List EN → Nat → Nat → Int ⊕ PS
  | 0, _, _, _ => .inl 1
  | n + 1, E, c, p => if enc E E.length = [] ∧ tK bs p = 0 then .inr (E, c, p) else (match (if enc E E.length ≠ [] ∧ tK bs p = 5 then cloP bs E c p else ordP bs E c p) with
    | .inl e => .inl e
    | .inr s => scr bs n s.1 s.2.1 s.2.2)
def VE (bs : List Int) (e : EN) : Prop := 3 ≤ e.1 ∧ e.1 ≤ 13 ∧ (e.1 = 8 ∨ e.1 = 10 → ∃ f : Nat, e.2.1 = (f : Int) ∧ f + e.2.2 ≤ bs.length ∧ 1 ≤ e.2.2 ∧ (∀ j : Nat, j < e.2.2 → 97 ≤ bs.getD (f + j) 0 ∧ bs.getD (f + j) 0 ≤ 122) ∧ (e.1 = 8 → e.2.2 = 2)) ∧ (e.1 ≠ 7 → e.1 ≠ 8 → e.1 ≠ 10 → e.1 ≠ 13 → wLow e.1 ≤ e.2.1 ∧ e.2.1 ≤ wHig e.1)
def SEI (bs : List Int) (E : List EN) (c p : Nat) : Prop := p ≤ bs.length ∧ c ≤ 30 ∧ E.length + (enc E E.length).length ≤ 2 * c ∧ (∀ k : Nat, k ≤ E.length → (enc E k).length ≤ 2) ∧ (∀ k : Nat, k < E.length → ew E k = 13 → enc E k ≠ []) ∧ (∀ k : Nat, k < E.length → VE bs (eD E k))
theorem wOrd_1 : ∀ w : Nat, w < 15 → wOrd w ≠ 0 → 3 ≤ w ∧ w ≤ 12 := by decide
theorem wOrd_01 : ∀ w : Nat, w < 15 → w32 (wOrd w) = wOrd w := by decide
theorem wLH : ∀ w : Nat, w < 15 → 0 ≤ wLow w ∧ wLow w ≤ 1000 ∧ 0 ≤ wHig w ∧ wHig w ≤ 1000 := by decide
/-- one more entry -/
theorem SEI.app {bs : List Int} {E : List EN} {c p c' p' : Nat} {e : EN} (h : SEI bs E c p) (hp : p' ≤ bs.length) (hc : c' ≤ 30) (h2 : E.length + 1 + (if e.1 = 12 then (enc E E.length).length + 1 else if e.1 = 13 then (enc E E.length).length - 1 else (enc E E.length).length) ≤ 2 * c') (h3 : e.1 = 12 → (enc E E.length).length ≤ 1) (h4 : e.1 = 13 → enc E E.length ≠ []) (hv : VE bs e) : SEI bs (E ++ [e]) c' p' := by
  have hl : (E ++ [e]).length = E.length + 1 := by rw [List.length_append]; rfl
  have hlen : (enc (E ++ [e]) (E ++ [e]).length).length = (if e.1 = 12 then (enc E E.length).length + 1 else if e.1 = 13 then (enc E E.length).length - 1 else (enc E E.length).length) := by
    rw [enc_next]
    by_cases q : e.1 = 12
    · rw [if_pos q, if_pos q]; rfl
    · rw [if_neg q, if_neg q]
      by_cases q2 : e.1 = 13
      · rw [if_pos q2, if_pos q2, List.length_tail]
      · rw [if_neg q2, if_neg q2]
  have h22 := h.2.2.2.1 E.length (Nat.le_refl _)
  refine ⟨hp, hc, by rw [hlen, hl]; exact h2, fun k hk => ?_, fun k hk hw => ?_, fun k hk => ?_⟩
  · by_cases q : k = E.length + 1
    · rw [q, ← hl, hlen]
      split
      · rename_i z; have := h3 z; omega
      · split <;> omega
    · rw [enc_app (by omega)]
      exact h.2.2.2.1 k (by omega)
  · by_cases q : k = E.length
    · rw [q, ew_last] at hw
      rw [q, enc_app (Nat.le_refl _)]
      exact h4 hw
    · rw [ew_app (by omega)] at hw
      rw [enc_app (by omega)]
      exact h.2.2.2.2.1 k (by omega) hw
  · by_cases q : k = E.length
    · rw [q, eD_last]; exact hv
    · rw [eD_app (by omega)]
      exact h.2.2.2.2.2 k (by omega)
theorem ordP_inv {bs : List Int} {E : List EN} {c p : Nat} {s : PS} (h : SEI bs E c p) (e : ordP bs E c p = .inr s) : SEI bs s.1 s.2.1 s.2.2 ∧ p < s.2.2 := by
  have hp := h.1
  have hE := tE_le hp
  have hE2 := tE_le hE.2.1
  have hE3 := tE_le hE2.2.1
  have hwl := wd_lt bs p
  have h22 := h.2.2.2.1 E.length (Nat.le_refl _)
  have hcc := h.2.2.1
  unfold ordP at e
  by_cases q0 : wOrd (wd bs p) = 0
  · rw [if_pos q0] at e; cases e
  rw [if_neg q0] at e
  have hwr := wOrd_1 _ hwl q0
  have hk : tK bs p = 1 := wd_word (i := wd bs p) rfl (by omega)
  have hgt := tE_gt (bs := bs) (p := p) (by omega) hp
  by_cases qc : 30 ≤ c
  · rw [if_pos qc] at e; cases e
  rw [if_neg qc] at e
  by_cases q7 : wd bs p = 7
  · rw [if_pos q7] at e
    by_cases z : tK bs (tE bs p) = 3
    · rw [if_pos z] at e
      cases e
      refine ⟨h.app (c' := c + 1) hE2.2.1 (by omega) ?_ (fun z => absurd z (by decide)) (fun z => absurd z (by decide)) ⟨by decide, by decide, fun z => absurd z (by decide), fun z => absurd rfl z⟩, by show p < tE bs (tE bs p); omega⟩
      show E.length + 1 + (if (7 : Nat) = 12 then _ else if (7 : Nat) = 13 then _ else _) ≤ 2 * (c + 1)
      rw [if_neg (by decide), if_neg (by decide)]; omega
    · rw [if_neg z] at e; cases e
  rw [if_neg q7] at e
  by_cases q8 : wd bs p = 8 ∨ wd bs p = 10
  · rw [if_pos q8] at e
    by_cases z1 : tK bs (tE bs p) ≠ 1
    · rw [if_pos z1] at e; cases e
    rw [if_neg z1] at e
    by_cases z2 : wd bs p = 8 ∧ tE bs (tE bs p) - tF bs (tE bs p) ≠ 2
    · rw [if_pos z2] at e; cases e
    rw [if_neg z2] at e
    by_cases z3 : tK bs (tE bs (tE bs p)) = 3
    · rw [if_pos z3] at e
      cases e
      have z1 : tK bs (tE bs p) = 1 := Classical.byContradiction z1
      have hgt2 := tE_gt (bs := bs) (p := tE bs p) (by omega) hE.2.1
      have hv : VE bs (wd bs p, (tF bs (tE bs p) : Int), tE bs (tE bs p) - tF bs (tE bs p)) := by
        refine ⟨hwr.1, by show wd bs p ≤ 13; omega, fun _ => ⟨tF bs (tE bs p), rfl, ?_, ?_, fun j hj => ?_, fun w8 => ?_⟩, fun _ n8 n10 => absurd q8 (fun z => z.elim n8 n10)⟩
        · show tF bs (tE bs p) + (tE bs (tE bs p) - tF bs (tE bs p)) ≤ bs.length; omega
        · show 1 ≤ tE bs (tE bs p) - tF bs (tE bs p); omega
        · have hj : j < tE bs (tE bs p) - tF bs (tE bs p) := hj
          exact kd_1 (by rw [tK_all (Or.inl z1) (j := tF bs (tE bs p) + j) (by omega) (by omega)]; exact z1)
        · have w8 : wd bs p = 8 := w8
          show tE bs (tE bs p) - tF bs (tE bs p) = 2
          exact Classical.byContradiction (fun y => z2 ⟨w8, y⟩)
      refine ⟨h.app (c' := c + 1) hE3.2.1 (by omega) ?_ (fun z => ?_) (fun z => ?_) hv, by show p < tE bs (tE bs (tE bs p)); omega⟩
      · show E.length + 1 + (if wd bs p = 12 then _ else if wd bs p = 13 then _ else _) ≤ 2 * (c + 1)
        rw [if_neg (by omega), if_neg (by omega)]; omega
      · have z : wd bs p = 12 := z; omega
      · have z : wd bs p = 13 := z; omega
    · rw [if_neg z3] at e; cases e
  rw [if_neg q8] at e
  by_cases qn : nbE bs (tE bs p) (wLow (wd bs p)) (wHig (wd bs p)) ≠ 0
  · rw [if_pos qn] at e; cases e
  rw [if_neg qn] at e
  have hn : nbE bs (tE bs p) (wLow (wd bs p)) (wHig (wd bs p)) = 0 := Classical.byContradiction qn
  obtain ⟨-, v1, v2⟩ := nb_val hn
  by_cases q12 : wd bs p = 12
  · rw [if_pos q12] at e
    by_cases z4 : tK bs (tE bs (tE bs p)) = 4 ∧ 2 ≤ (enc E E.length).length
    · rw [if_pos z4] at e; cases e
    rw [if_neg z4] at e
    by_cases z5 : tK bs (tE bs (tE bs p)) ≠ 4
    · rw [if_pos z5] at e; cases e
    rw [if_neg z5] at e
    cases e
    have z5 : tK bs (tE bs (tE bs p)) = 4 := Classical.byContradiction z5
    rw [q12] at v1 v2
    refine ⟨h.app (c' := c + 1) hE3.2.1 (by omega) ?_ (fun _ => ?_) (fun z => absurd (show (12 : Nat) = 13 from z) (by decide)) ⟨by show 3 ≤ 12; decide, by show 12 ≤ 13; decide, fun z => absurd (show (12 : Nat) = 8 ∨ (12 : Nat) = 10 from z) (by decide), fun _ _ _ _ => ⟨v1, v2⟩⟩, by show p < tE bs (tE bs (tE bs p)); omega⟩
    · show E.length + 1 + (if (12 : Nat) = 12 then _ else _) ≤ 2 * (c + 1)
      rw [if_pos rfl]; omega
    · exact Classical.byContradiction (fun y => z4 ⟨z5, by omega⟩)
  rw [if_neg q12] at e
  by_cases z3 : tK bs (tE bs (tE bs p)) = 3
  · rw [if_pos z3] at e
    cases e
    refine ⟨h.app (c' := c + 1) hE3.2.1 (by omega) ?_ (fun z => absurd z q12) (fun z => ?_) ⟨hwr.1, by show wd bs p ≤ 13; omega, fun z => absurd z q8, fun _ _ _ _ => ⟨v1, v2⟩⟩, by show p < tE bs (tE bs (tE bs p)); omega⟩
    · show E.length + 1 + (if wd bs p = 12 then _ else if wd bs p = 13 then _ else _) ≤ 2 * (c + 1)
      rw [if_neg q12, if_neg (by omega)]; omega
    · have z : wd bs p = 13 := z; omega
  · rw [if_neg z3] at e; cases e
theorem cloP_inv {bs : List Int} {E : List EN} {c p : Nat} {s : PS} (h : SEI bs E c p) (hne : enc E E.length ≠ []) (h5 : tK bs p = 5) (e : cloP bs E c p = .inr s) : SEI bs s.1 s.2.1 s.2.2 ∧ p < s.2.2 := by
  have hp := h.1
  have hE := tE_le hp
  have hE2 := tE_le hE.2.1
  have hgt := tE_gt (bs := bs) (p := p) (by omega) hp
  have hcc := h.2.2.1
  have hpos := List.length_pos_iff.mpr hne
  unfold cloP at e
  by_cases z : tK bs (tE bs p) = 3
  · rw [if_pos z] at e
    cases e
    refine ⟨h.app (c' := c) hE2.2.1 h.2.1 ?_ (fun z => absurd z (by decide)) (fun _ => hne) ⟨by show 3 ≤ 13; decide, by show 13 ≤ 13; decide, fun z => absurd z (by decide), fun _ _ _ z => absurd rfl z⟩, by show p < tE bs (tE bs p); omega⟩
    show E.length + 1 + (if (13 : Nat) = 12 then _ else if (13 : Nat) = 13 then _ else _) ≤ 2 * c
    rw [if_neg (by decide), if_pos rfl]; omega
  · rw [if_neg z] at e; cases e
theorem SEI.nil {bs : List Int} : SEI bs [] 0 0 := ⟨Nat.zero_le _, by decide, Nat.le_refl _, fun k hk => by obtain rfl : k = 0 := Nat.le_zero.mp hk; exact Nat.zero_le _, fun k hk => absurd hk (Nat.not_lt_zero k), fun k hk => absurd hk (Nat.not_lt_zero k)⟩
