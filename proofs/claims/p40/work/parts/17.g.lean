section
/-! ===== scripts: what they say, how they run (pure) ===== -/
abbrev EN : Type := Nat × Int × Nat
def eD (E : List EN) (k : Nat) : EN := E.getD k (14, 0, 0)
def ew (E : List EN) (k : Nat) : Nat := (eD E k).1
/-- the agains that are open ahead of an entry, the innermost first -/
def enc (E : List EN) : Nat → List Nat
  | 0 => []
  | k + 1 => if ew E k = 12 then k :: enc E k else if ew E k = 13 then (enc E k).tail else enc E k
theorem eD_app {E : List EN} {e : EN} {k : Nat} (h : k < E.length) : eD (E ++ [e]) k = eD E k := gd_l h
theorem eD_last (E : List EN) (e : EN) : eD (E ++ [e]) E.length = e := by
  unfold eD
  rw [gd_r (Nat.le_refl _), Nat.sub_self]
  rfl
theorem ew_app {E : List EN} {e : EN} {k : Nat} (h : k < E.length) : ew (E ++ [e]) k = ew E k := by unfold ew; rw [eD_app h]
theorem ew_last (E : List EN) (e : EN) : ew (E ++ [e]) E.length = e.1 := by unfold ew; rw [eD_last]
theorem enc_app {E : List EN} {e : EN} : ∀ {k : Nat}, k ≤ E.length → enc (E ++ [e]) k = enc E k
  | 0, _ => rfl
  | k + 1, h => by
    show (if ew (E ++ [e]) k = 12 then k :: enc (E ++ [e]) k else if ew (E ++ [e]) k = 13 then (enc (E ++ [e]) k).tail else enc (E ++ [e]) k) = _
    rw [ew_app (by omega), enc_app (k := k) (by omega)]
    rfl
theorem enc_next (E : List EN) (e : EN) : enc (E ++ [e]) (E ++ [e]).length = if e.1 = 12 then E.length :: enc E E.length else if e.1 = 13 then (enc E E.length).tail else enc E E.length := by
  rw [List.length_append]
  show (if ew (E ++ [e]) E.length = 12 then E.length :: enc (E ++ [e]) E.length else if ew (E ++ [e]) E.length = 13 then (enc (E ++ [e]) E.length).tail else enc (E ++ [e]) E.length) = _
  rw [ew_last, enc_app (Nat.le_refl _)]
theorem enc_cons {E : List EN} : ∀ (k a : Nat) (t : List Nat), enc E k = a :: t → a < k ∧ ew E a = 12 ∧ t = enc E a := by
  intro k
  refine Nat.strongRecOn (motive := fun k => ∀ (a : Nat) (t : List Nat), enc E k = a :: t → a < k ∧ ew E a = 12 ∧ t = enc E a) k ?_
  intro k ih a t h
  cases k with
  | zero => cases h
  | succ k =>
    have h : (if ew E k = 12 then k :: enc E k else if ew E k = 13 then (enc E k).tail else enc E k) = a :: t := h
    by_cases q : ew E k = 12
    · rw [if_pos q] at h
      cases h
      exact ⟨by omega, q, rfl⟩
    · rw [if_neg q] at h
      by_cases q2 : ew E k = 13
      · rw [if_pos q2] at h
        cases hk : enc E k with
        | nil => rw [hk] at h; cases h
        | cons b u =>
          rw [hk] at h
          obtain ⟨h1, h2, h3⟩ := ih k (by omega) b u hk
          have h : u = a :: t := h
          rw [h3] at h
          obtain ⟨j1, j2, j3⟩ := ih b (by omega) a t h
          exact ⟨by omega, j2, j3⟩
      · rw [if_neg q2] at h
        obtain ⟨j1, j2, j3⟩ := ih k (by omega) a t h
        exact ⟨by omega, j2, j3⟩
theorem enc_closed {E : List EN} (hne : ∀ k : Nat, k < E.length → ew E k = 13 → enc E k ≠ []) : ∀ m : Nat, m ≤ E.length → ∀ a : Nat, a < m → ew E a = 12 → a ∈ enc E m ∨ ∃ k : Nat, a < k ∧ k < m ∧ ew E k = 13 ∧ enc E k = a :: enc E a := by
  intro m
  induction m with
  | zero => intro _ a h; omega
  | succ m ih =>
    intro hm a ha hw
    show a ∈ (if ew E m = 12 then m :: enc E m else if ew E m = 13 then (enc E m).tail else enc E m) ∨ _
    by_cases e : a = m
    · subst e
      rw [if_pos hw]
      exact Or.inl List.mem_cons_self
    · have h := ih (by omega) a (by omega) hw
      by_cases q : ew E m = 12
      · rw [if_pos q]
        rcases h with h | ⟨k, h1, h2, h3, h4⟩
        · exact Or.inl (List.mem_cons_of_mem _ h)
        · exact Or.inr ⟨k, h1, by omega, h3, h4⟩
      · rw [if_neg q]
        by_cases q2 : ew E m = 13
        · rw [if_pos q2]
          rcases h with h | ⟨k, h1, h2, h3, h4⟩
          · cases hk : enc E m with
            | nil => exact absurd hk (hne m (by omega) q2)
            | cons b u =>
              rw [hk] at h
              obtain ⟨j1, j2, j3⟩ := enc_cons m b u hk
              rcases List.mem_cons.mp h with z | z
              · subst z
                exact Or.inr ⟨m, by omega, by omega, q2, by rw [hk, j3]⟩
              · exact Or.inl z
          · exact Or.inr ⟨k, h1, by omega, h3, h4⟩
        · rw [if_neg q2]
          rcases h with h | ⟨k, h1, h2, h3, h4⟩
          · exact Or.inl h
          · exact Or.inr ⟨k, h1, by omega, h3, h4⟩
/-! reading -/
abbrev PS : Type := List EN × Nat × Nat
def ordP (bs : List Int) (E : List EN) (c p : Nat) : Int ⊕ PS :=
  if wOrd (wd bs p) = 0 then .inl 1 else if 30 ≤ c then .inl 5
  else if wd bs p = 7 then (if tK bs (tE bs p) = 3 then .inr (E ++ [(7, 0, 0)], c + 1, tE bs (tE bs p)) else .inl 1)
  else if wd bs p = 8 ∨ wd bs p = 10 then (if tK bs (tE bs p) ≠ 1 then .inl 1 else if wd bs p = 8 ∧ tE bs (tE bs p) - tF bs (tE bs p) ≠ 2 then .inl 4 else if tK bs (tE bs (tE bs p)) = 3 then .inr (E ++ [(wd bs p, (tF bs (tE bs p) : Int), tE bs (tE bs p) - tF bs (tE bs p))], c + 1, tE bs (tE bs (tE bs p))) else .inl 1)
  else if nbE bs (tE bs p) (wLow (wd bs p)) (wHig (wd bs p)) ≠ 0 then .inl (nbE bs (tE bs p) (wLow (wd bs p)) (wHig (wd bs p)))
  else if wd bs p = 12 then (if tK bs (tE bs (tE bs p)) = 4 ∧ 2 ≤ (enc E E.length).length then .inl 5 else if tK bs (tE bs (tE bs p)) ≠ 4 then .inl 1 else .inr (E ++ [(12, nV bs (tE bs p), 0)], c + 1, tE bs (tE bs (tE bs p))))
  else if tK bs (tE bs (tE bs p)) = 3 then .inr (E ++ [(wd bs p, nV bs (tE bs p), 0)], c + 1, tE bs (tE bs (tE bs p))) else .inl 1
def cloP (bs : List Int) (E : List EN) (c p : Nat) : Int ⊕ PS := if tK bs (tE bs p) = 3 then .inr (E ++ [(13, 0, 0)], c, tE bs (tE bs p)) else .inl 1
def scr (bs : List Int) : Nat → List EN → Nat → Nat → Int ⊕ PS
  | 0, _, _, _ => .inl 1
  | n + 1, E, c, p => if enc E E.length = [] ∧ tK bs p = 0 then .inr (E, c, p) else (match (if enc E E.length ≠ [] ∧ tK bs p = 5 then cloP bs E c p else ordP bs E c p) with
    | .inl e => .inl e
    | .inr s => scr bs n s.1 s.2.1 s.2.2)
def VE (bs : List Int) (e : EN) : Prop := 3 ≤ e.1 ∧ e.1 ≤ 13 ∧ (e.1 = 8 ∨ e.1 = 10 → ∃ f : Nat, e.2.1 = (f : Int) ∧ f + e.2.2 ≤ bs.length ∧ 1 ≤ e.2.2 ∧ (∀ j : Nat, j < e.2.2 → 97 ≤ bs.getD (f + j) 0 ∧ bs.getD (f + j) 0 ≤ 122) ∧ (e.1 = 8 → e.2.2 = 2)) ∧ (e.1 ≠ 7 → e.1 ≠ 8 → e.1 ≠ 10 → e.1 ≠ 13 → wLow e.1 ≤ e.2.1 ∧ e.2.1 ≤ wHig e.1)
def SEI (bs : List Int) (E : List EN) (c p : Nat) : Prop := p ≤ bs.length ∧ c ≤ 30 ∧ E.length + (enc E E.length).length ≤ 2 * c ∧ (∀ k : Nat, k ≤ E.length → (enc E k).length ≤ 2) ∧ (∀ k : Nat, k < E.length → ew E k = 13 → enc E k ≠ []) ∧ (∀ k : Nat, k < E.length → VE bs (eD E k))
theorem wOrd_1 : ∀ w : Nat, w < 15 → wOrd w ≠ 0 → 3 ≤ w ∧ w ≤ 12 := by decide
theorem wOrd_01 : ∀ w : Nat, w < 15 → w32 (wOrd w) = wOrd w := by decide
theorem wLH : ∀ w : Nat, w < 15 → 0 ≤ wLow w ∧ wLow w ≤ 1000 ∧ 0 ≤ wHig w ∧ wHig w ≤ 1000 := by decide
/-- one more entry -/
theorem SEI.app {bs : List Int} {E : List EN} {c p c' p' : Nat} {e : EN} (h : SEI bs E c p) (hp : p' ≤ bs.length) (hc : c' ≤ 30) (h2 : E.length + 1 + (if e.1 = 12 then (enc E E.length).length + 1 else if e.1 = 13 then (enc E E.length).length - 1 else (enc E E.length).length) ≤ 2 * c') (h3 : e.1 = 12 → (enc E E.length).length ≤ 1) (h4 : e.1 = 13 → enc E E.length ≠ []) (hv : VE bs e) : SEI bs (E ++ [e]) c' p' := by
  have hl : (E ++ [e]).length = E.length + 1 := by rw [List.length_append]; rfl
  have hlen : (enc (E ++ [e]) (E ++ [e]).length).length = (if e.1 = 12 then (enc E E.length).length + 1 else if e.1 = 13 then (enc E E.length).length - 1 else (enc E E.length).length) := by
    rw [enc_next]
    by_cases q : e.1 = 12
    · rw [if_pos q, if_pos q]; rfl
    · rw [if_neg q, if_neg q]
      by_cases q2 : e.1 = 13
      · rw [if_pos q2, if_pos q2, List.length_tail]
      · rw [if_neg q2, if_neg q2]
  have h22 := h.2.2.2.1 E.length (Nat.le_refl _)
  refine ⟨hp, hc, by rw [hlen, hl]; exact h2, fun k hk => ?_, fun k hk hw => ?_, fun k hk => ?_⟩
  · by_cases q : k = E.length + 1
    · rw [q, ← hl, hlen]
      split
      · rename_i z; have := h3 z; omega
      · split <;> omega
    · rw [enc_app (by omega)]
      exact h.2.2.2.1 k (by omega)
  · by_cases q : k = E.length
    · rw [q, ew_last] at hw
      rw [q, enc_app (Nat.le_refl _)]
      exact h4 hw
    · rw [ew_app (by omega)] at hw
      rw [enc_app (by omega)]
      exact h.2.2.2.2.1 k (by omega) hw
  · by_cases q : k = E.length
    · rw [q, eD_last]; exact hv
    · rw [eD_app (by omega)]
      exact h.2.2.2.2.2 k (by omega)
theorem ordP_inv {bs : List Int} {E : List EN} {c p : Nat} {s : PS} (h : SEI bs E c p) (e : ordP bs E c p = .inr s) : SEI bs s.1 s.2.1 s.2.2 ∧ p < s.2.2 := by
  have hp := h.1
  have hE := tE_le hp
  have hE2 := tE_le hE.2.1
  have hE3 := tE_le hE2.2.1
  have hwl := wd_lt bs p
  have h22 := h.2.2.2.1 E.length (Nat.le_refl _)
  have hcc := h.2.2.1
  unfold ordP at e
  by_cases q0 : wOrd (wd bs p) = 0
  · rw [if_pos q0] at e; cases e
  rw [if_neg q0] at e
  have hwr := wOrd_1 _ hwl q0
  have hk : tK bs p = 1 := wd_word (i := wd bs p) rfl (by omega)
  have hgt := tE_gt (bs := bs) (p := p) (by omega) hp
  by_cases qc : 30 ≤ c
  · rw [if_pos qc] at e; cases e
  rw [if_neg qc] at e
  by_cases q7 : wd bs p = 7
  · rw [if_pos q7] at e
    by_cases z : tK bs (tE bs p) = 3
    · rw [if_pos z] at e
      cases e
      refine ⟨h.app (c' := c + 1) hE2.2.1 (by omega) ?_ (fun z => absurd z (by decide)) (fun z => absurd z (by decide)) ⟨by decide, by decide, fun z => absurd z (by decide), fun z => absurd rfl z⟩, by show p < tE bs (tE bs p); omega⟩
      show E.length + 1 + (if (7 : Nat) = 12 then _ else if (7 : Nat) = 13 then _ else _) ≤ 2 * (c + 1)
      rw [if_neg (by decide), if_neg (by decide)]; omega
    · rw [if_neg z] at e; cases e
  rw [if_neg q7] at e
  by_cases q8 : wd bs p = 8 ∨ wd bs p = 10
  · rw [if_pos q8] at e
    by_cases z1 : tK bs (tE bs p) ≠ 1
    · rw [if_pos z1] at e; cases e
    rw [if_neg z1] at e
    by_cases z2 : wd bs p = 8 ∧ tE bs (tE bs p) - tF bs (tE bs p) ≠ 2
    · rw [if_pos z2] at e; cases e
    rw [if_neg z2] at e
    by_cases z3 : tK bs (tE bs (tE bs p)) = 3
    · rw [if_pos z3] at e
      cases e
      have z1 : tK bs (tE bs p) = 1 := Classical.byContradiction z1
      have hgt2 := tE_gt (bs := bs) (p := tE bs p) (by omega) hE.2.1
      have hv : VE bs (wd bs p, (tF bs (tE bs p) : Int), tE bs (tE bs p) - tF bs (tE bs p)) := by
        refine ⟨hwr.1, by show wd bs p ≤ 13; omega, fun _ => ⟨tF bs (tE bs p), rfl, ?_, ?_, fun j hj => ?_, fun w8 => ?_⟩, fun _ n8 n10 => absurd q8 (fun z => z.elim n8 n10)⟩
        · show tF bs (tE bs p) + (tE bs (tE bs p) - tF bs (tE bs p)) ≤ bs.length; omega
        · show 1 ≤ tE bs (tE bs p) - tF bs (tE bs p); omega
        · have hj : j < tE bs (tE bs p) - tF bs (tE bs p) := hj
          exact kd_1 (by rw [tK_all (Or.inl z1) (j := tF bs (tE bs p) + j) (by omega) (by omega)]; exact z1)
        · have w8 : wd bs p = 8 := w8
          show tE bs (tE bs p) - tF bs (tE bs p) = 2
          exact Classical.byContradiction (fun y => z2 ⟨w8, y⟩)
      refine ⟨h.app (c' := c + 1) hE3.2.1 (by omega) ?_ (fun z => ?_) (fun z => ?_) hv, by show p < tE bs (tE bs (tE bs p)); omega⟩
      · show E.length + 1 + (if wd bs p = 12 then _ else if wd bs p = 13 then _ else _) ≤ 2 * (c + 1)
        rw [if_neg (by omega), if_neg (by omega)]; omega
      · have z : wd bs p = 12 := z; omega
      · have z : wd bs p = 13 := z; omega
    · rw [if_neg z3] at e; cases e
  rw [if_neg q8] at e
  by_cases qn : nbE bs (tE bs p) (wLow (wd bs p)) (wHig (wd bs p)) ≠ 0
  · rw [if_pos qn] at e; cases e
  rw [if_neg qn] at e
  have hn : nbE bs (tE bs p) (wLow (wd bs p)) (wHig (wd bs p)) = 0 := Classical.byContradiction qn
  obtain ⟨-, v1, v2⟩ := nb_val hn
  by_cases q12 : wd bs p = 12
  · rw [if_pos q12] at e
    by_cases z4 : tK bs (tE bs (tE bs p)) = 4 ∧ 2 ≤ (enc E E.length).length
    · rw [if_pos z4] at e; cases e
    rw [if_neg z4] at e
    by_cases z5 : tK bs (tE bs (tE bs p)) ≠ 4
    · rw [if_pos z5] at e; cases e
    rw [if_neg z5] at e
    cases e
    have z5 : tK bs (tE bs (tE bs p)) = 4 := Classical.byContradiction z5
    rw [q12] at v1 v2
    refine ⟨h.app (c' := c + 1) hE3.2.1 (by omega) ?_ (fun _ => ?_) (fun z => absurd (show (12 : Nat) = 13 from z) (by decide)) ⟨by show 3 ≤ 12; decide, by show 12 ≤ 13; decide, fun z => absurd (show (12 : Nat) = 8 ∨ (12 : Nat) = 10 from z) (by decide), fun _ _ _ _ => ⟨v1, v2⟩⟩, by show p < tE bs (tE bs (tE bs p)); omega⟩
    · show E.length + 1 + (if (12 : Nat) = 12 then _ else _) ≤ 2 * (c + 1)
      rw [if_pos rfl]; omega
    · exact Classical.byContradiction (fun y => z4 ⟨z5, by omega⟩)
  rw [if_neg q12] at e
  by_cases z3 : tK bs (tE bs (tE bs p)) = 3
  · rw [if_pos z3] at e
    cases e
    refine ⟨h.app (c' := c + 1) hE3.2.1 (by omega) ?_ (fun z => absurd z q12) (fun z => ?_) ⟨hwr.1, by show wd bs p ≤ 13; omega, fun z => absurd z q8, fun _ _ _ _ => ⟨v1, v2⟩⟩, by show p < tE bs (tE bs (tE bs p)); omega⟩
    · show E.length + 1 + (if wd bs p = 12 then _ else if wd bs p = 13 then _ else _) ≤ 2 * (c + 1)
      rw [if_neg q12, if_neg (by omega)]; omega
    · have z : wd bs p = 13 := z; omega
  · rw [if_neg z3] at e; cases e
theorem cloP_inv {bs : List Int} {E : List EN} {c p : Nat} {s : PS} (h : SEI bs E c p) (hne : enc E E.length ≠ []) (h5 : tK bs p = 5) (e : cloP bs E c p = .inr s) : SEI bs s.1 s.2.1 s.2.2 ∧ p < s.2.2 := by
  have hp := h.1
  have hE := tE_le hp
  have hE2 := tE_le hE.2.1
  have hgt := tE_gt (bs := bs) (p := p) (by omega) hp
  have hcc := h.2.2.1
  have hpos := List.length_pos_iff.mpr hne
  unfold cloP at e
  by_cases z : tK bs (tE bs p) = 3
  · rw [if_pos z] at e
    cases e
    refine ⟨h.app (c' := c) hE2.2.1 h.2.1 ?_ (fun z => absurd z (by decide)) (fun _ => hne) ⟨by show 3 ≤ 13; decide, by show 13 ≤ 13; decide, fun z => absurd z (by decide), fun _ _ _ z => absurd rfl z⟩, by show p < tE bs (tE bs p); omega⟩
    show E.length + 1 + (if (13 : Nat) = 12 then _ else if (13 : Nat) = 13 then _ else _) ≤ 2 * c
    rw [if_neg (by decide), if_pos rfl]; omega
  · rw [if_neg z] at e; cases e
theorem SEI.nil {bs : List Int} : SEI bs [] 0 0 := ⟨Nat.zero_le _, by decide, Nat.le_refl _, fun k hk => by obtain rfl : k = 0 := Nat.le_zero.mp hk; exact Nat.zero_le _, fun k hk => absurd hk (Nat.not_lt_zero k), fun k hk => absurd hk (Nat.not_lt_zero k)⟩
end
section
/-! ===== scripts: the class reads ===== -/
section CSCR
variable {I J : Mem} {bs : List Int} {E : List EN} {c p : Nat}
/-- the class holds an entry -/
def ECl (I : Mem) (j : Nat) (e : EN) : Prop := I 20 0 j = (e.1 : Int) ∧ (e.1 = 8 ∨ e.1 = 10 → I 21 1 j = e.2.1 ∧ I 21 2 j = (e.2.2 : Int)) ∧ (e.1 ≠ 7 → e.1 ≠ 8 → e.1 ≠ 10 → e.1 ≠ 13 → I 21 0 j = e.2.1)
def SCl (I : Mem) (E : List EN) : Prop := I 8 0 8 = (E.length : Int) ∧ (∀ j : Nat, j < E.length → ECl I j (eD E j)) ∧ ∀ k : Nat, k < E.length → ew E k = 13 → ∀ (a : Nat) (t : List Nat), enc E k = a :: t → I 21 3 k = (a : Int) ∧ I 21 3 a = (k : Int)
def OPc (I : Mem) (E : List EN) : Prop := I 8 0 10 = ((enc E E.length).length : Int) ∧ ∀ d : Nat, d < (enc E E.length).length → I 21 5 d = (((enc E E.length).getD ((enc E E.length).length - 1 - d) 0 : Nat) : Int)
def PCl (I : Mem) (bs : List Int) (E : List EN) (c p : Nat) : Prop := BfC I bs ∧ TC I bs p ∧ SCl I E ∧ OPc I E ∧ I 8 0 9 = (c : Int)
abbrev FSc : FP := fun k i s => FSx k i s ∨ (k = 8 ∧ 8 ≤ s) ∨ k = 20 ∨ k = 21
def OKo (K : Mem) (bs : List Int) (x : Int) : Int ⊕ PS → Prop
  | .inl e => x = 0 ∧ K 6 0 6 = e
  | .inr s => x = 1 ∧ PCl K bs s.1 s.2.1 s.2.2
theorem fsx_sc : ∀ k i s : Nat, FSx k i s → FSc k i s := fun _ _ _ z => Or.inl z
theorem fec_sc : ∀ k i s : Nat, FEc k i s → FSc k i s := fun _ _ _ z => Or.inl (fec_sx _ _ _ z)
theorem BfC.scr (h : BfC I bs) (f : Fm FSc I J) : BfC J bs := h.fm f (by unfold FSc FSx; omega) (fun s => by unfold FSc FSx; omega)
theorem SCl.fm {F : FP} (h : SCl I E) (f : Fm F I J) (h8 : ¬ F 8 0 8) (hn : ∀ k i s : Nat, k = 20 ∨ (k = 21 ∧ i < 4) → ¬ F k i s) : SCl J E := by
  obtain ⟨a1, a2, a3⟩ := h
  refine ⟨by rw [f.at (by decide) h8]; exact a1, fun j hj => ?_, fun k hk hw a t e => ?_⟩
  · obtain ⟨b1, b2, b3⟩ := a2 j hj
    refine ⟨by rw [f.at (by decide) (hn _ _ _ (Or.inl rfl))]; exact b1, fun z => ?_, fun z1 z2 z3 z4 => by rw [f.at (by decide) (hn _ _ _ (Or.inr ⟨rfl, by decide⟩))]; exact b3 z1 z2 z3 z4⟩
    rw [f.at (by decide) (hn _ _ _ (Or.inr ⟨rfl, by decide⟩)), f.at (by decide) (hn _ _ _ (Or.inr ⟨rfl, by decide⟩))]
    exact b2 z
  · rw [f.at (by decide) (hn _ _ _ (Or.inr ⟨rfl, by decide⟩)), f.at (by decide) (hn _ _ _ (Or.inr ⟨rfl, by decide⟩))]
    exact a3 k hk hw a t e
theorem OPc.fm {F : FP} (h : OPc I E) (f : Fm F I J) (h8 : ¬ F 8 0 10) (hn : ∀ s : Nat, ¬ F 21 5 s) : OPc J E := ⟨by rw [f.at (by decide) h8]; exact h.1, fun d hd => by rw [f.at (by decide) (hn d)]; exact h.2 d hd⟩
theorem PCl.sx (h : PCl I bs E c p) {q : Nat} (f : Fm FSx I J) (hT : TC J bs q) : PCl J bs E c q := ⟨h.1.sx f, hT, h.2.2.1.fm f (by unfold FSx; omega) (fun k i s z => by unfold FSx; omega), h.2.2.2.1.fm f (by unfold FSx; omega) (fun s => by unfold FSx; omega), by rw [f.at (by decide) (by unfold FSx; omega)]; exact h.2.2.2.2⟩
/-- the memory of E with one more entry, said of the fields alone -/
theorem SCl.app {e : EN} (h : SCl I E) (h8 : J 8 0 8 = ((E.length + 1 : Nat) : Int)) (hk : ∀ j : Nat, j < E.length → J 20 0 j = I 20 0 j ∧ J 21 0 j = I 21 0 j ∧ J 21 1 j = I 21 1 j ∧ J 21 2 j = I 21 2 j) (he : ECl J E.length e) (h3 : ∀ k : Nat, k < E.length → ew E k = 13 → ∀ (a : Nat) (t : List Nat), enc E k = a :: t → J 21 3 k = I 21 3 k ∧ J 21 3 a = I 21 3 a) (h13 : e.1 = 13 → ∀ (a : Nat) (t : List Nat), enc E E.length = a :: t → J 21 3 E.length = (a : Int) ∧ J 21 3 a = (E.length : Int)) : SCl J (E ++ [e]) := by
  have hl : (E ++ [e]).length = E.length + 1 := by rw [List.length_append]; rfl
  obtain ⟨a1, a2, a3⟩ := h
  refine ⟨by rw [hl]; exact h8, fun j hj => ?_, fun k hkk hw a t ee => ?_⟩
  · by_cases q : j = E.length
    · rw [q, eD_last]; exact he
    · have hj : j < E.length := by omega
      obtain ⟨k1, k2, k3, k4⟩ := hk j hj
      obtain ⟨b1, b2, b3⟩ := a2 j hj
      rw [eD_app hj]
      exact ⟨k1.trans b1, fun z => ⟨k3.trans (b2 z).1, k4.trans (b2 z).2⟩, fun z1 z2 z3 z4 => k2.trans (b3 z1 z2 z3 z4)⟩
  · by_cases q : k = E.length
    · subst q
      rw [ew_last] at hw
      rw [enc_app (Nat.le_refl _)] at ee
      exact h13 hw a t ee
    · have hk2 : k < E.length := by omega
      rw [ew_app hk2] at hw
      rw [enc_app (by omega)] at ee
      obtain ⟨z1, z2⟩ := h3 k hk2 hw a t ee
      obtain ⟨y1, y2⟩ := a3 k hk2 hw a t ee
      exact ⟨z1.trans y1, z2.trans y2⟩
theorem c_addEntry (h8 : I 8 0 8 = (E.length : Int)) (hl : E.length ≤ 59) {w : Nat} (hw : w < 15) : f_Scr_addEntry w I = some ((E.length : Int), sI (sI I 20 0 E.length (w : Int)) 8 0 8 ((E.length : Int) + 1)) := by
  have e : imn (E.length : Int) 59 = (E.length : Int) := by
    rw [show (59 : Int) = ((59 : Nat) : Int) from rfl, imn_nat _ _ (by omega) (by omega), Nat.min_eq_left (by omega)]
  unfold f_Scr_addEntry
  rw [if_pos hw, h8, e, w32_of (x := (E.length : Int)) (by omega) (by omega), if_pos (by omega), Int.toNat_natCast]
  try dsimp only [ltI]
  try rw [sI_ne (by omega), h8, e]
/-- behind the entry of an order: what is still to be read -/
theorem t_cnum {w : Nat} (hl : bs.length ≤ 600) (hr : ∀ b ∈ bs, 1 ≤ b ∧ b ≤ 255) (hp : p ≤ bs.length) (hw : w < 15) {L : Nat} (hL : L < 60) (hB : BfC I bs) (hT : TC I bs p) (h20 : I 20 0 L = (w : Int)) : Tr (f_Scr_readNumber (L : Int) I) (fun x K => x = bI (nbE bs p (wLow w) (wHig w) = 0) ∧ (nbE bs p (wLow w) (wHig w) = 0 → K 21 0 L = nV bs p ∧ TC K bs (tE bs p)) ∧ (nbE bs p (wLow w) (wHig w) ≠ 0 → K 6 0 6 = nbE bs p (wLow w) (wHig w)) ∧ Fm (fun k i s => FSx k i s ∨ (k = 21 ∧ i = 0 ∧ s = L)) I K) := by
  have hlh := wLH w hw
  unfold f_Scr_readNumber
  rw [w32_of (x := (L : Int)) (by omega) (by omega), if_pos (by omega), Int.toNat_natCast, h20, Int.toNat_natCast, if_pos hw, if_pos hw]
  refine tr_call (t_readNumber hB hl hr hp hT ⟨hlh.1, hlh.2.1⟩ ⟨hlh.2.2.1, hlh.2.2.2⟩) ?_
  rintro x J1 ⟨rfl, n1, n2, t1, f1⟩
  by_cases q : nbE bs p (wLow w) (wHig w) = 0
  · rw [if_neg (wb_pos q), n1 q]
    try dsimp only [ltI]
    have f2 : Fm (fun k i s => k = 21 ∧ i = 0 ∧ s = L) J1 (sI J1 21 0 L (nV bs p)) := Fm.sI (by decide) (by omega) (by omega) ⟨rfl, rfl, rfl⟩
    have e21 : (sI J1 21 0 L (nV bs p)) 21 0 L = nV bs p := sI_self _ _ _ _ _
    generalize sI J1 21 0 L (nV bs p) = J2 at f2 e21
    refine tr_call (t_advS ((hB.sx f1).fm f2 (by omega) (fun s => by omega)) hl hr hp (t1.fm f2 (fun s _ _ => by omega))) ?_
    rintro _ J3 ⟨t3, f3⟩
    refine tr_ret ⟨(bI_pos q).symm, fun _ => ⟨by rw [f3.at (by decide) (by unfold FSx; omega)]; exact e21, t3⟩, fun z => absurd q z, (f1.mono (fun a b c z => Or.inl z)).trans ((f2.mono (fun a b c z => Or.inr z)).trans (f3.mono (fun a b c z => Or.inl z)))⟩
  · rw [if_pos (wb_neg q)]
    exact tr_ret ⟨(bI_neg q).symm, fun z => absurd z q, n2, f1.mono (fun a b c z => Or.inl z)⟩
theorem t_clet {w : Nat} (hl : bs.length ≤ 600) (hr : ∀ b ∈ bs, 1 ≤ b ∧ b ≤ 255) (hp : p ≤ bs.length) (hw : w < 15) {L : Nat} (hL : L < 60) (hB : BfC I bs) (hT : TC I bs p) (h20 : I 20 0 L = (w : Int)) : Tr (f_Scr_readLetters (L : Int) I) (fun x K => (tK bs p ≠ 1 → x = 0 ∧ K 6 0 6 = 1) ∧ (tK bs p = 1 → w = 8 ∧ tE bs p - tF bs p ≠ 2 → x = 0 ∧ K 6 0 6 = 4) ∧ (tK bs p = 1 → ¬ (w = 8 ∧ tE bs p - tF bs p ≠ 2) → x = 1 ∧ K 21 1 L = (tF bs p : Int) ∧ K 21 2 L = ((tE bs p - tF bs p : Nat) : Int) ∧ TC K bs (tE bs p)) ∧ Fm (fun k i s => FSx k i s ∨ (k = 21 ∧ (i = 1 ∨ i = 2) ∧ s = L)) I K) := by
  have hE := tE_le hp
  have j52 : Tr (f_Scr_readLetters_j52 (L : Int) I) (fun x K => (x = 1 ∧ K 21 1 L = (tF bs p : Int) ∧ K 21 2 L = ((tE bs p - tF bs p : Nat) : Int) ∧ TC K bs (tE bs p)) ∧ Fm (fun k i s => FSx k i s ∨ (k = 21 ∧ (i = 1 ∨ i = 2) ∧ s = L)) I K) := by
    unfold f_Scr_readLetters_j52
    rw [w32_of (x := (L : Int)) (by omega) (by omega), if_pos (by omega), Int.toNat_natCast]
    try dsimp only [ltI]
    rw [sI_ne (k' := 6) (s' := 4) (by omega), sI_ne (k' := 6) (s' := 3) (by omega), hT.2.1, hT.2.2]
    have f2 : Fm (fun k i s => k = 21 ∧ (i = 1 ∨ i = 2) ∧ s = L) I (sI (sI I 21 1 L ((tF bs p : Nat) : Int)) 21 2 L (((tE bs p : Nat) : Int) - ((tF bs p : Nat) : Int))) := (Fm.sI (by decide) (by omega) (by omega) ⟨rfl, Or.inl rfl, rfl⟩).trans (Fm.sI (by decide) (by omega) (by omega) ⟨rfl, Or.inr rfl, rfl⟩)
    have e1 : (sI (sI I 21 1 L ((tF bs p : Nat) : Int)) 21 2 L (((tE bs p : Nat) : Int) - ((tF bs p : Nat) : Int))) 21 1 L = (tF bs p : Int) := by rw [sI_ne (by omega), sI_self]
    have e2 : (sI (sI I 21 1 L ((tF bs p : Nat) : Int)) 21 2 L (((tE bs p : Nat) : Int) - ((tF bs p : Nat) : Int))) 21 2 L = ((tE bs p - tF bs p : Nat) : Int) := by rw [sI_self]; omega
    generalize sI (sI I 21 1 L ((tF bs p : Nat) : Int)) 21 2 L (((tE bs p : Nat) : Int) - ((tF bs p : Nat) : Int)) = J2 at f2 e1 e2
    refine tr_call (t_advS (hB.fm f2 (by omega) (fun s => by omega)) hl hr hp (hT.fm f2 (fun s _ _ => by omega))) ?_
    rintro _ J3 ⟨t3, f3⟩
    exact tr_ret ⟨⟨rfl, by rw [f3.at (by decide) (by unfold FSx; omega)]; exact e1, by rw [f3.at (by decide) (by unfold FSx; omega)]; exact e2, t3⟩, (f2.mono (fun a b c z => Or.inr z)).trans (f3.mono (fun a b c z => Or.inl z))⟩
  unfold f_Scr_readLetters
  rw [c_is hT (by omega), bnd_some]
  by_cases q : tK bs p = 1
  · rw [if_neg (wb_pos q), w32_of (x := (L : Int)) (by omega) (by omega), if_pos (by omega), Int.toNat_natCast, h20, Int.toNat_natCast, if_pos hw]
    by_cases q8 : w = 8
    · rw [if_pos q8, hT.2.1, hT.2.2, w32_of (x := ((tE bs p : Nat) : Int) - ((tF bs p : Nat) : Int)) (by omega) (by omega)]
      by_cases q2 : tE bs p - tF bs p = 2
      · rw [if_pos (by omega)]
        exact tr_mono j52 (fun x K z => ⟨fun y => absurd q y, fun _ y => absurd q2 y.2, fun _ _ => z.1, z.2⟩)
      · rw [if_neg (by omega)]
        refine tr_call (t_fail 4) ?_
        rintro x K ⟨rfl, g1, g2⟩
        rw [if_pos (Or.inl rfl)]
        exact tr_ret ⟨fun y => absurd q y, fun _ _ => ⟨rfl, g1⟩, fun _ y => absurd ⟨q8, q2⟩ y, g2.mono (fun a b c z => Or.inl (fec_sx _ _ _ z))⟩
    · rw [if_neg q8]
      exact tr_mono j52 (fun x K z => ⟨fun y => absurd q y, fun _ y => absurd y.1 q8, fun _ _ => z.1, z.2⟩)
  · rw [if_pos (wb_neg q)]
    refine tr_call (t_fail 1) ?_
    rintro x K ⟨rfl, g1, g2⟩
    rw [if_pos (Or.inl rfl)]
    exact tr_ret ⟨fun _ => ⟨rfl, g1⟩, fun y => absurd y q, fun y => absurd y q, g2.mono (fun a b c z => Or.inl (fec_sx _ _ _ z))⟩
/-- an entry added by hand: what stands then -/
theorem PCl.add {e : EN} {q c' : Nat} (h : PCl I bs E c p) (hB : BfC J bs) (hT : TC J bs q) (h8 : J 8 0 8 = ((E.length + 1 : Nat) : Int)) (h9 : J 8 0 9 = (c' : Int)) (f : Fm (fun k i s => FSx k i s ∨ (k = 8 ∧ (s = 8 ∨ s = 9)) ∨ (k = 20 ∧ s = E.length) ∨ (k = 21 ∧ i < 3 ∧ s = E.length)) I J) (he : ECl J E.length e) (h12 : e.1 ≠ 12) (h13 : e.1 ≠ 13) : PCl J bs (E ++ [e]) c' q := by
  have heq : enc (E ++ [e]) (E ++ [e]).length = enc E E.length := by rw [enc_next, if_neg h12, if_neg h13]
  refine ⟨hB, hT, h.2.2.1.app h8 (fun j hj => ⟨?_, ?_, ?_, ?_⟩) he (fun k hk hw a t ee => ⟨?_, ?_⟩) (fun z => absurd z h13), ?_, h9⟩
  · exact f.at (by decide) (by unfold FSx; omega)
  · exact f.at (by decide) (by unfold FSx; omega)
  · exact f.at (by decide) (by unfold FSx; omega)
  · exact f.at (by decide) (by unfold FSx; omega)
  · exact f.at (by decide) (by unfold FSx; omega)
  · exact f.at (by decide) (by unfold FSx; omega)
  · have := h.2.2.2.1.fm f (by unfold FSx; omega) (fun s => by unfold FSx; omega)
    unfold OPc at this ⊢
    rw [heq]
    exact this
end CSCR
end
section
/-! ===== scripts: the class reads, second part ===== -/
theorem enc_lt {E : List EN} : ∀ (k x : Nat), x ∈ enc E k → x < k
  | 0, x, h => absurd h List.not_mem_nil
  | k + 1, x, h => by
    have h : x ∈ (if ew E k = 12 then k :: enc E k else if ew E k = 13 then (enc E k).tail else enc E k) := h
    by_cases q : ew E k = 12
    · rw [if_pos q] at h
      rcases List.mem_cons.mp h with z | z
      · omega
      · have := enc_lt k x z; omega
    · rw [if_neg q] at h
      by_cases q2 : ew E k = 13
      · rw [if_pos q2] at h
        have := enc_lt k x (List.mem_of_mem_tail h); omega
      · rw [if_neg q2] at h
        have := enc_lt k x h; omega
theorem enc_gone {E : List EN} {k a : Nat} {t : List Nat} (hw : ew E k = 13) (h : enc E k = a :: t) : ∀ m : Nat, k < m → a ∉ enc E m := by
  obtain ⟨h1, h2, h3⟩ := enc_cons k a t h
  intro m
  induction m with
  | zero => intro hm; omega
  | succ m ih =>
    intro hm hx
    have hx : a ∈ (if ew E m = 12 then m :: enc E m else if ew E m = 13 then (enc E m).tail else enc E m) := hx
    by_cases e : m = k
    · subst e
      rw [if_neg (by omega), if_pos hw, h] at hx
      have hx : a ∈ t := hx
      rw [h3] at hx
      have := enc_lt a a hx
      omega
    · by_cases q : ew E m = 12
      · rw [if_pos q] at hx
        rcases List.mem_cons.mp hx with z | z
        · omega
        · exact ih (by omega) z
      · rw [if_neg q] at hx
        by_cases q2 : ew E m = 13
        · rw [if_pos q2] at hx
          exact ih (by omega) (List.mem_of_mem_tail hx)
        · rw [if_neg q2] at hx
          exact ih (by omega) hx
section CSCR2
variable {I J : Mem} {bs : List Int} {E : List EN} {c p : Nat}
theorem t_readOrder (hl : bs.length ≤ 600) (hr : ∀ b ∈ bs, 1 ≤ b ∧ b ≤ 255) (hS : SEI bs E c p) (h : PCl I bs E c p) : Tr (f_Scr_readOrder I) (fun x K => OKo K bs x (ordP bs E c p) ∧ Fm FSc I K) := by
  obtain ⟨hB, hT, hSC, hO, h9⟩ := id h
  have hp := hS.1
  have hE := tE_le hp
  have hE2 := tE_le hE.2.1
  have hwl := wd_lt bs p
  have hc30 := hS.2.1
  have hcc := hS.2.2.1
  have h22 := hS.2.2.2.1 E.length (Nat.le_refl _)
  unfold f_Scr_readOrder
  rw [c_word hB hl hr hp hT, bnd_some, if_pos hwl, wOrd_01 _ hwl]
  by_cases q0 : wOrd (wd bs p) = 0
  · have eo : ordP bs E c p = .inl 1 := by unfold ordP; rw [if_pos q0]
    rw [if_pos q0, eo]
    refine tr_call (t_fail 1) ?_
    rintro x K ⟨rfl, g1, g2⟩
    rw [if_pos (Or.inl rfl)]
    exact tr_ret ⟨⟨rfl, g1⟩, g2.mono fec_sc⟩
  have hwr := wOrd_1 _ hwl q0
  rw [if_neg q0, h9, w32_of (x := (c : Int)) (by omega) (by omega)]
  by_cases qc : 30 ≤ c
  · have eo : ordP bs E c p = .inl 5 := by unfold ordP; rw [if_neg q0, if_pos qc]
    rw [if_neg (by omega), eo]
    refine tr_call (t_fail 5) ?_
    rintro x K ⟨rfl, g1, g2⟩
    rw [if_pos (Or.inl rfl)]
    exact tr_ret ⟨⟨rfl, g1⟩, g2.mono fec_sc⟩
  have hL : E.length < 60 := by omega
  rw [if_pos (by omega)]
  try dsimp only [ltI]
  rw [c_addEntry (E := E) (by rw [sI_ne (by omega)]; exact hSC.1) (by omega) hwl, bnd_some]
  have f1 : Fm (fun k i s => (k = 8 ∧ (s = 8 ∨ s = 9)) ∨ (k = 20 ∧ s = E.length)) I (sI (sI (sI I 8 0 9 ((c : Int) + 1)) 20 0 E.length (wd bs p : Int)) 8 0 8 ((E.length : Int) + 1)) := ((Fm.sI (by decide) (by omega) (by omega) (Or.inl ⟨rfl, Or.inr rfl⟩)).trans (Fm.sI (by decide) (by omega) (by omega) (Or.inr ⟨rfl, rfl⟩))).trans (Fm.sI (by decide) (by omega) (by omega) (Or.inl ⟨rfl, Or.inl rfl⟩))
  have a8 : (sI (sI (sI I 8 0 9 ((c : Int) + 1)) 20 0 E.length (wd bs p : Int)) 8 0 8 ((E.length : Int) + 1)) 8 0 8 = ((E.length + 1 : Nat) : Int) := by rw [sI_self]; rfl
  have a9 : (sI (sI (sI I 8 0 9 ((c : Int) + 1)) 20 0 E.length (wd bs p : Int)) 8 0 8 ((E.length : Int) + 1)) 8 0 9 = ((c + 1 : Nat) : Int) := by rw [sI_ne (by omega), sI_ne (by omega), sI_self]; rfl
  have a20 : (sI (sI (sI I 8 0 9 ((c : Int) + 1)) 20 0 E.length (wd bs p : Int)) 8 0 8 ((E.length : Int) + 1)) 20 0 E.length = (wd bs p : Int) := by rw [sI_ne (by omega), sI_self]
  generalize sI (sI (sI I 8 0 9 ((c : Int) + 1)) 20 0 E.length (wd bs p : Int)) 8 0 8 ((E.length : Int) + 1) = J1 at f1 a8 a9 a20
  have hB1 : BfC J1 bs := hB.fm f1 (by omega) (fun s => by omega)
  have hT1 : TC J1 bs p := hT.fm f1 (fun s _ _ => by omega)
  refine tr_call (t_advS hB1 hl hr hp hT1) ?_
  rintro _ J2 ⟨t2, f2⟩
  have f12 : Fm (fun k i s => FSx k i s ∨ (k = 8 ∧ (s = 8 ∨ s = 9)) ∨ (k = 20 ∧ s = E.length) ∨ (k = 21 ∧ i < 3 ∧ s = E.length)) I J2 := (f1.mono (fun a b c z => z.elim (fun y => Or.inr (Or.inl y)) (fun y => Or.inr (Or.inr (Or.inl y))))).trans (f2.mono (fun a b c z => Or.inl z))
  have b8 : J2 8 0 8 = ((E.length + 1 : Nat) : Int) := by rw [f2.at (by decide) (by unfold FSx; omega)]; exact a8
  have b9 : J2 8 0 9 = ((c + 1 : Nat) : Int) := by rw [f2.at (by decide) (by unfold FSx; omega)]; exact a9
  have b20 : J2 20 0 E.length = (wd bs p : Int) := by rw [f2.at (by decide) (by unfold FSx; omega)]; exact a20
  have hB2 := hB1.sx f2
  have fsc : ∀ {K : Mem}, Fm (fun k i s => FSx k i s ∨ (k = 8 ∧ (s = 8 ∨ s = 9)) ∨ (k = 20 ∧ s = E.length) ∨ (k = 21 ∧ i < 3 ∧ s = E.length)) I K → Fm FSc I K := fun f => f.mono (fun a b c z => by
    rcases z with z | z | z | z
    · exact Or.inl z
    · exact Or.inr (Or.inl ⟨z.1, by omega⟩)
    · exact Or.inr (Or.inr (Or.inl z.1))
    · exact Or.inr (Or.inr (Or.inr z.1)))
  -- a semicolon behind all, and the entry stands
  have semi : ∀ (q : Nat) (e : EN) (K : Mem), q ≤ bs.length → Fm (fun k i s => FSx k i s ∨ (k = 8 ∧ (s = 8 ∨ s = 9)) ∨ (k = 20 ∧ s = E.length) ∨ (k = 21 ∧ i < 3 ∧ s = E.length)) I K → K 8 0 8 = ((E.length + 1 : Nat) : Int) → K 8 0 9 = ((c + 1 : Nat) : Int) → TC K bs q → ECl K E.length e → e.1 ≠ 12 → e.1 ≠ 13 → ordP bs E c p = (if tK bs q = 3 then .inr (E ++ [e], c + 1, tE bs q) else .inl 1) → Tr (f_Src_pass 3 K) (fun x L => (x = 0 ∨ x = 1) ∧ OKo L bs x (ordP bs E c p) ∧ Fm FSc I L) := by
    intro q e K hq f k8 k9 tK' he n12 n13 eo
    have hBK : BfC K bs := hB.fm f (by unfold FSx; omega) (fun s => by unfold FSx; omega)
    refine tr_mono (t_pass hBK hl hr hq tK' (a := 3) (by omega)) ?_
    rintro x L ⟨rfl, y1, y2, f3⟩
    have fL := f.trans (f3.mono (fun a b c z => Or.inl z))
    refine ⟨bI_01 _, ?_, fsc fL⟩
    rw [eo]
    by_cases z : tK bs q = 3
    · rw [if_pos z]
      refine ⟨bI_pos z, h.add (hBK.sx f3) (y1 z) ?_ ?_ fL ?_ n12 n13⟩
      · rw [f3.at (by decide) (by unfold FSx; omega)]; exact k8
      · rw [f3.at (by decide) (by unfold FSx; omega)]; exact k9
      · obtain ⟨c1, c2, c3⟩ := he
        refine ⟨by rw [f3.at (by decide) (by unfold FSx; omega)]; exact c1, fun z => ?_, fun z1 z2 z3 z4 => by rw [f3.at (by decide) (by unfold FSx; omega)]; exact c3 z1 z2 z3 z4⟩
        rw [f3.at (by decide) (by unfold FSx; omega), f3.at (by decide) (by unfold FSx; omega)]
        exact c2 z
    · rw [if_neg z]
      exact ⟨bI_neg z, y2 z⟩
  have wrap : ∀ {K : Mem}, Tr (f_Src_pass 3 K) (fun x L => (x = 0 ∨ x = 1) ∧ OKo L bs x (ordP bs E c p) ∧ Fm FSc I L) → Tr (bnd (f_Src_pass 3 K) fun x J => if w32 x = 0 then some ((0 : Int), J) else some (1, J)) (fun x L => OKo L bs x (ordP bs E c p) ∧ Fm FSc I L) := fun hk => by
    refine tr_call hk ?_
    rintro x L ⟨z | z, hx⟩
    · rw [z, if_pos (by decide)]; rw [z] at hx; exact tr_ret hx
    · rw [z, if_neg (by decide)]; rw [z] at hx; exact tr_ret hx
  -- a number, then a semicolon
  have num : wd bs p ≠ 7 → ¬ (wd bs p = 8 ∨ wd bs p = 10) → wd bs p ≠ 12 → Tr (bnd (f_Scr_readNumber (E.length : Int) J2) fun x J => if w32 x = 0 then some (0, J) else bnd (f_Src_pass 3 J) fun x J => if w32 x = 0 then some (0, J) else some (1, J)) (fun x L => OKo L bs x (ordP bs E c p) ∧ Fm FSc I L) := by
    intro n7 n8 n12
    refine tr_call (t_cnum hl hr hE.2.1 hwl hL hB2 t2 b20) ?_
    rintro x J3 ⟨rfl, y1, y2, f3⟩
    have f13 : Fm (fun k i s => FSx k i s ∨ (k = 8 ∧ (s = 8 ∨ s = 9)) ∨ (k = 20 ∧ s = E.length) ∨ (k = 21 ∧ i < 3 ∧ s = E.length)) I J3 := f12.trans (f3.mono (fun a b c z => z.elim Or.inl (fun y => Or.inr (Or.inr (Or.inr ⟨y.1, by omega, y.2.2⟩)))))
    by_cases qn : nbE bs (tE bs p) (wLow (wd bs p)) (wHig (wd bs p)) = 0
    · obtain ⟨v1, v2⟩ := y1 qn
      rw [if_neg (wb_pos qn)]
      refine wrap (semi (tE bs (tE bs p)) (wd bs p, nV bs (tE bs p), 0) J3 hE2.2.1 f13 ?_ ?_ v2 ⟨?_, fun z => absurd z n8, fun _ _ _ _ => v1⟩ n12 (by show wd bs p ≠ 13; omega) ?_)
      · rw [f3.at (by decide) (by unfold FSx; omega)]; exact b8
      · rw [f3.at (by decide) (by unfold FSx; omega)]; exact b9
      · rw [f3.at (by decide) (by unfold FSx; omega)]; exact b20
      · unfold ordP
        rw [if_neg q0, if_neg qc, if_neg n7, if_neg n8, if_neg (fun z => z qn), if_neg n12]
    · have eo : ordP bs E c p = .inl (nbE bs (tE bs p) (wLow (wd bs p)) (wHig (wd bs p))) := by
        unfold ordP
        rw [if_neg q0, if_neg qc, if_neg n7, if_neg n8, if_pos qn]
      rw [if_pos (wb_neg qn), eo]
      exact tr_ret ⟨⟨rfl, y2 qn⟩, fsc f13⟩
  -- letters, then a semicolon
  have letr : wd bs p = 8 ∨ wd bs p = 10 → Tr (bnd (f_Scr_readLetters (E.length : Int) J2) fun x J => if w32 x = 0 then some (0, J) else bnd (f_Src_pass 3 J) fun x J => if w32 x = 0 then some (0, J) else some (1, J)) (fun x L => OKo L bs x (ordP bs E c p) ∧ Fm FSc I L) := by
    intro q8
    refine tr_call (t_clet hl hr hE.2.1 hwl hL hB2 t2 b20) ?_
    rintro x J3 ⟨y1, y2, y3, f3⟩
    have f13 : Fm (fun k i s => FSx k i s ∨ (k = 8 ∧ (s = 8 ∨ s = 9)) ∨ (k = 20 ∧ s = E.length) ∨ (k = 21 ∧ i < 3 ∧ s = E.length)) I J3 := f12.trans (f3.mono (fun a b c z => z.elim Or.inl (fun y => Or.inr (Or.inr (Or.inr ⟨y.1, by omega, y.2.2⟩)))))
    by_cases z1 : tK bs (tE bs p) = 1
    · by_cases z2 : wd bs p = 8 ∧ tE bs (tE bs p) - tF bs (tE bs p) ≠ 2
      · obtain ⟨rfl, v⟩ := y2 z1 z2
        have eo : ordP bs E c p = .inl 4 := by
          unfold ordP
          rw [if_neg q0, if_neg qc, if_neg (by omega), if_pos q8, if_neg (fun z => z z1), if_pos z2]
        rw [if_pos (by decide), eo]
        exact tr_ret ⟨⟨rfl, v⟩, fsc f13⟩
      · obtain ⟨rfl, v1, v2, v3⟩ := y3 z1 z2
        rw [if_neg (by decide)]
        refine wrap (semi (tE bs (tE bs p)) (wd bs p, (tF bs (tE bs p) : Int), tE bs (tE bs p) - tF bs (tE bs p)) J3 hE2.2.1 f13 ?_ ?_ v3 ⟨?_, fun _ => ⟨v1, v2⟩, fun _ n8 n10 => absurd q8 (fun z => z.elim n8 n10)⟩ (by show wd bs p ≠ 12; omega) (by show wd bs p ≠ 13; omega) ?_)
        · rw [f3.at (by decide) (by unfold FSx; omega)]; exact b8
        · rw [f3.at (by decide) (by unfold FSx; omega)]; exact b9
        · rw [f3.at (by decide) (by unfold FSx; omega)]; exact b20
        · unfold ordP
          rw [if_neg q0, if_neg qc, if_neg (by omega), if_pos q8, if_neg (fun z => z z1), if_neg z2]
    · obtain ⟨rfl, v⟩ := y1 z1
      have eo : ordP bs E c p = .inl 1 := by
        unfold ordP
        rw [if_neg q0, if_neg qc, if_neg (by omega), if_pos q8, if_pos z1]
      rw [if_pos (by decide), eo]
      exact tr_ret ⟨⟨rfl, v⟩, fsc f13⟩
  rw [w32_of (x := ((wd bs p : Nat) : Int)) (by omega) (by omega), if_pos (by omega), Int.toNat_natCast]
  rcases (show wd bs p = 3 ∨ wd bs p = 4 ∨ wd bs p = 5 ∨ wd bs p = 6 ∨ wd bs p = 7 ∨ wd bs p = 8 ∨ wd bs p = 9 ∨ wd bs p = 10 ∨ wd bs p = 11 ∨ wd bs p = 12 by omega) with z | z | z | z | z | z | z | z | z | z
  · rw [show w32 (wSm.getD (wd bs p) 0) = 7 by rw [z]; decide, if_neg (by decide), if_neg (by decide), if_neg (by decide), if_neg (by decide), if_neg (by decide), if_pos rfl]
    exact num (by omega) (by omega) (by omega)
  · rw [show w32 (wSm.getD (wd bs p) 0) = 8 by rw [z]; decide, if_neg (by decide), if_neg (by decide), if_neg (by decide), if_neg (by decide), if_neg (by decide), if_neg (by decide), if_pos rfl]
    exact num (by omega) (by omega) (by omega)
  · rw [show w32 (wSm.getD (wd bs p) 0) = 9 by rw [z]; decide, if_neg (by decide), if_neg (by decide), if_neg (by decide), if_neg (by decide), if_neg (by decide), if_neg (by decide), if_neg (by decide), if_pos rfl]
    exact num (by omega) (by omega) (by omega)
  · rw [show w32 (wSm.getD (wd bs p) 0) = 1 by rw [z]; decide, if_neg (by decide), if_neg (by decide), if_neg (by decide), if_neg (by decide), if_neg (by decide), if_neg (by decide), if_neg (by decide), if_neg (by decide), if_neg (by decide)]
    exact num (by omega) (by omega) (by omega)
  · rw [show w32 (wSm.getD (wd bs p) 0) = 2 by rw [z]; decide, if_pos rfl]
    refine tr_call (semi (tE bs p) (7, 0, 0) J2 hE.2.1 f12 b8 b9 t2 ⟨by rw [b20, z], fun y => absurd (show (7 : Nat) = 8 ∨ (7 : Nat) = 10 from y) (by decide), fun y => absurd rfl y⟩ (by decide) (by decide) ?_) ?_
    · unfold ordP
      rw [if_neg q0, if_neg qc, if_pos z]
    · rintro x L ⟨h01, hx⟩
      rw [if_pos h01]
      exact tr_ret hx
  · rw [show w32 (wSm.getD (wd bs p) 0) = 3 by rw [z]; decide, if_neg (by decide), if_pos rfl]
    exact letr (Or.inl z)
  · rw [show w32 (wSm.getD (wd bs p) 0) = 4 by rw [z]; decide, if_neg (by decide), if_neg (by decide), if_pos rfl]
    exact num (by omega) (by omega) (by omega)
  · rw [show w32 (wSm.getD (wd bs p) 0) = 5 by rw [z]; decide, if_neg (by decide), if_neg (by decide), if_neg (by decide), if_pos rfl]
    exact letr (Or.inr z)
  · rw [show w32 (wSm.getD (wd bs p) 0) = 6 by rw [z]; decide, if_neg (by decide), if_neg (by decide), if_neg (by decide), if_neg (by decide), if_pos rfl]
    exact num (by omega) (by omega) (by omega)
  · rw [show w32 (wSm.getD (wd bs p) 0) = 10 by rw [z]; decide, if_neg (by decide), if_neg (by decide), if_neg (by decide), if_neg (by decide), if_neg (by decide), if_neg (by decide), if_neg (by decide), if_neg (by decide), if_pos rfl]
    have e0 : ordP bs E c p = (if nbE bs (tE bs p) (wLow (wd bs p)) (wHig (wd bs p)) ≠ 0 then .inl (nbE bs (tE bs p) (wLow (wd bs p)) (wHig (wd bs p))) else if tK bs (tE bs (tE bs p)) = 4 ∧ 2 ≤ (enc E E.length).length then .inl 5 else if tK bs (tE bs (tE bs p)) ≠ 4 then .inl 1 else .inr (E ++ [(12, nV bs (tE bs p), 0)], c + 1, tE bs (tE bs (tE bs p)))) := by
      unfold ordP
      rw [if_neg q0, if_neg qc, if_neg (by omega), if_neg (by omega)]
      by_cases qn : nbE bs (tE bs p) (wLow (wd bs p)) (wHig (wd bs p)) ≠ 0
      · rw [if_pos qn, if_pos qn]
      · rw [if_neg qn, if_neg qn, if_pos z]
    rw [e0]
    refine tr_call (t_cnum hl hr hE.2.1 hwl hL hB2 t2 b20) ?_
    rintro x J3 ⟨rfl, y1, y2, f3⟩
    have f13 : Fm (fun k i s => FSx k i s ∨ (k = 8 ∧ (s = 8 ∨ s = 9)) ∨ (k = 20 ∧ s = E.length) ∨ (k = 21 ∧ i < 3 ∧ s = E.length)) I J3 := f12.trans (f3.mono (fun a b c z => z.elim Or.inl (fun y => Or.inr (Or.inr (Or.inr ⟨y.1, by omega, y.2.2⟩)))))
    by_cases qn : nbE bs (tE bs p) (wLow (wd bs p)) (wHig (wd bs p)) = 0
    · obtain ⟨v1, v2⟩ := y1 qn
      rw [if_neg (wb_pos qn), if_neg (fun z => z qn)]
      have hB3 : BfC J3 bs := hB.fm f13 (by unfold FSx; omega) (fun s => by unfold FSx; omega)
      have hO3 : OPc J3 E := hO.fm f13 (by unfold FSx; omega) (fun s => by unfold FSx; omega)
      have k8 : J3 8 0 8 = ((E.length + 1 : Nat) : Int) := by rw [f3.at (by decide) (by unfold FSx; omega)]; exact b8
      have k9 : J3 8 0 9 = ((c + 1 : Nat) : Int) := by rw [f3.at (by decide) (by unfold FSx; omega)]; exact b9
      have k20 : J3 20 0 E.length = 12 := by rw [f3.at (by decide) (by unfold FSx; omega), b20, z]; rfl
      unfold f_Scr_readOpen
      rw [c_is v2 (by omega), bnd_some]
      -- the bracket
      have j28 : ¬ (tK bs (tE bs (tE bs p)) = 4 ∧ 2 ≤ (enc E E.length).length) → Tr (f_Scr_readOpen_j28 (E.length : Int) J3) (fun x K => (x = 0 ∨ x = 1) ∧ OKo K bs x (if tK bs (tE bs (tE bs p)) ≠ 4 then .inl 1 else .inr (E ++ [(12, nV bs (tE bs p), 0)], c + 1, tE bs (tE bs (tE bs p)))) ∧ Fm FSc I K) := by
        intro hno
        unfold f_Scr_readOpen_j28
        refine tr_call (t_pass hB3 hl hr hE2.2.1 v2 (a := 4) (by omega)) ?_
        rintro x J4 ⟨rfl, w1, w2, f4⟩
        by_cases q4 : tK bs (tE bs (tE bs p)) = 4
        · have e10 : J4 8 0 10 = ((enc E E.length).length : Int) := by rw [f4.at (by decide) (by unfold FSx; omega)]; exact hO3.1
          rw [if_neg (wb_pos q4), e10, w32_of (x := ((enc E E.length).length : Int)) (by omega) (by omega), if_pos (by omega), Int.toNat_natCast, if_neg (fun y => y q4)]
          try dsimp only [ltI]
          rw [sI_ne (k' := 8) (by omega), e10]
          have f5 : Fm (fun k i s => (k = 21 ∧ i = 5 ∧ s = (enc E E.length).length) ∨ (k = 8 ∧ s = 10)) J4 (sI (sI J4 21 5 (enc E E.length).length (E.length : Int)) 8 0 10 (((enc E E.length).length : Int) + 1)) := (Fm.sI (by decide) (by omega) (by omega) (Or.inl ⟨rfl, rfl, rfl⟩)).trans (Fm.sI (by decide) (by omega) (by omega) (Or.inr ⟨rfl, rfl⟩))
          have c10 : (sI (sI J4 21 5 (enc E E.length).length (E.length : Int)) 8 0 10 (((enc E E.length).length : Int) + 1)) 8 0 10 = (((enc E E.length).length + 1 : Nat) : Int) := by rw [sI_self]; rfl
          have c21 : (sI (sI J4 21 5 (enc E E.length).length (E.length : Int)) 8 0 10 (((enc E E.length).length : Int) + 1)) 21 5 (enc E E.length).length = (E.length : Int) := by rw [sI_ne (by omega), sI_self]
          generalize sI (sI J4 21 5 (enc E E.length).length (E.length : Int)) 8 0 10 (((enc E E.length).length : Int) + 1) = J5 at f5 c10 c21
          have fend : Fm (fun k i s => FSx k i s ∨ (k = 8 ∧ 8 ≤ s) ∨ (k = 20 ∧ s = E.length) ∨ (k = 21 ∧ i < 3 ∧ s = E.length) ∨ (k = 21 ∧ i = 5 ∧ s = (enc E E.length).length)) I J5 := (f13.mono (fun a b c z => by
            rcases z with z | z | z | z
            · exact Or.inl z
            · exact Or.inr (Or.inl ⟨z.1, by omega⟩)
            · exact Or.inr (Or.inr (Or.inl z))
            · exact Or.inr (Or.inr (Or.inr (Or.inl z))))).trans ((f4.mono (fun a b c z => Or.inl z)).trans (f5.mono (fun a b c z => z.elim (fun y => Or.inr (Or.inr (Or.inr (Or.inr y)))) (fun y => Or.inr (Or.inl ⟨y.1, by omega⟩)))))
          have heq : enc (E ++ [((12, nV bs (tE bs p), 0) : EN)]) (E ++ [((12, nV bs (tE bs p), 0) : EN)]).length = E.length :: enc E E.length := by rw [enc_next, if_pos rfl]
          refine tr_ret ⟨Or.inr rfl, ⟨rfl, ((hB3.sx f4).fm f5 (by omega) (fun s => by omega)), (w1 q4).fm f5 (fun s _ _ => by omega), ?_, ?_, ?_⟩, fend.mono (fun a b c z => by
            rcases z with z | z | z | z | z
            · exact Or.inl z
            · exact Or.inr (Or.inl z)
            · exact Or.inr (Or.inr (Or.inl z.1))
            · exact Or.inr (Or.inr (Or.inr z.1))
            · exact Or.inr (Or.inr (Or.inr z.1)))⟩
          · have at45 : ∀ {k i s : Nat}, k ≠ 30 → ¬ FSx k i s → ¬ ((k = 21 ∧ i = 5 ∧ s = (enc E E.length).length) ∨ (k = 8 ∧ s = 10)) → J5 k i s = J3 k i s := fun h1 h2 h3 => (f5.at h1 h3).trans (f4.at h1 h2)
            refine hSC.app ?_ (fun j hj => ⟨?_, ?_, ?_, ?_⟩) ⟨?_, fun y => absurd (show (12 : Nat) = 8 ∨ (12 : Nat) = 10 from y) (by decide), fun _ _ _ _ => ?_⟩ (fun k hk hw a t ee => ⟨?_, ?_⟩) (fun y => absurd (show (12 : Nat) = 13 from y) (by decide))
            · rw [at45 (by decide) (by unfold FSx; omega) (by omega)]; exact k8
            · exact fend.at (by decide) (by unfold FSx; omega)
            · exact fend.at (by decide) (by unfold FSx; omega)
            · exact fend.at (by decide) (by unfold FSx; omega)
            · exact fend.at (by decide) (by unfold FSx; omega)
            · rw [at45 (by decide) (by unfold FSx; omega) (by omega)]; exact k20
            · rw [at45 (by decide) (by unfold FSx; omega) (by omega)]; exact v1
            · exact fend.at (by decide) (by unfold FSx; omega)
            · exact fend.at (by decide) (by unfold FSx; omega)
          · refine ⟨by rw [heq]; exact c10, fun d hd => ?_⟩
            rw [heq] at hd ⊢
            have hd : d < (enc E E.length).length + 1 := hd
            show J5 21 5 d = (((E.length :: enc E E.length).getD ((enc E E.length).length + 1 - 1 - d) 0 : Nat) : Int)
            by_cases qd : d = (enc E E.length).length
            · rw [qd, c21, show (enc E E.length).length + 1 - 1 - (enc E E.length).length = 0 by omega]
              rfl
            · rw [f5.at (by decide) (by omega), f4.at (by decide) (by unfold FSx; omega), hO3.2 d (by omega)]
              obtain ⟨u, hu⟩ : ∃ u : Nat, (enc E E.length).length + 1 - 1 - d = u + 1 := ⟨(enc E E.length).length - 1 - d, by omega⟩
              rw [hu, show (enc E E.length).length - 1 - d = u by omega]
              rfl
          · show J5 8 0 9 = ((c + 1 : Nat) : Int)
            rw [f5.at (by decide) (by omega), f4.at (by decide) (by unfold FSx; omega)]
            exact k9
        · rw [if_pos (wb_neg q4), if_pos q4]
          exact tr_ret ⟨Or.inl rfl, ⟨rfl, w2 q4⟩, fsc (f13.trans (f4.mono (fun a b c z => Or.inl z)))⟩
      have wrapO : ∀ {K : Mem} {o : Int ⊕ PS} {e : Option (Int × Mem)}, Tr e (fun x L => (x = 0 ∨ x = 1) ∧ OKo L bs x o ∧ Fm FSc I L) → Tr (bnd e fun x J => if w32 x = 0 then some ((0 : Int), J) else some (1, J)) (fun x L => OKo L bs x o ∧ Fm FSc I L) := fun hk => by
        refine tr_call hk ?_
        rintro x L ⟨z | z, hx⟩
        · rw [z, if_pos (by decide)]; rw [z] at hx; exact tr_ret hx
        · rw [z, if_neg (by decide)]; rw [z] at hx; exact tr_ret hx
      refine wrapO (K := I) ?_
      by_cases q4 : tK bs (tE bs (tE bs p)) = 4
      · rw [if_neg (wb_pos q4), hO3.1, w32_of (x := ((enc E E.length).length : Int)) (by omega) (by omega)]
        by_cases q2 : 2 ≤ (enc E E.length).length
        · rw [if_neg (by omega), if_pos ⟨q4, q2⟩]
          refine tr_call (t_fail 5) ?_
          rintro x K ⟨rfl, g1, g2⟩
          rw [if_pos (Or.inl rfl)]
          exact tr_ret ⟨Or.inl rfl, ⟨rfl, g1⟩, fsc (f13.trans (g2.mono (fun a b c z => Or.inl (fec_sx _ _ _ z))))⟩
        · rw [if_pos (by omega), if_neg (fun y => q2 y.2)]
          exact j28 (fun y => q2 y.2)
      · rw [if_pos (wb_neg q4), if_neg (fun y => q4 y.1)]
        exact j28 (fun y => q4 y.1)
    · rw [if_pos (wb_neg qn), if_pos qn]
      exact tr_ret ⟨⟨rfl, y2 qn⟩, fsc f13⟩
end CSCR2
end
section
/-! ===== scripts: the class reads, third part ===== -/
theorem scr_inv {bs : List Int} : ∀ (n : Nat) (E : List EN) (c p : Nat) (s : PS), SEI bs E c p → scr bs n E c p = .inr s → SEI bs s.1 s.2.1 s.2.2 ∧ enc s.1 s.1.length = []
  | 0, E, c, p, s, _, e => by cases e
  | n + 1, E, c, p, s, h, e => by
    have e : (if enc E E.length = [] ∧ tK bs p = 0 then .inr (E, c, p) else (match (if enc E E.length ≠ [] ∧ tK bs p = 5 then cloP bs E c p else ordP bs E c p) with
      | .inl e => .inl e
      | .inr s => scr bs n s.1 s.2.1 s.2.2)) = (Sum.inr s : Int ⊕ PS) := e
    by_cases q : enc E E.length = [] ∧ tK bs p = 0
    · rw [if_pos q] at e
      cases e
      exact ⟨h, q.1⟩
    · rw [if_neg q] at e
      by_cases q2 : enc E E.length ≠ [] ∧ tK bs p = 5
      · rw [if_pos q2] at e
        cases hc : cloP bs E c p with
        | inl v => rw [hc] at e; cases e
        | inr t =>
          rw [hc] at e
          exact scr_inv n t.1 t.2.1 t.2.2 s (cloP_inv h q2.1 q2.2 hc).1 e
      · rw [if_neg q2] at e
        cases hc : ordP bs E c p with
        | inl v => rw [hc] at e; cases e
        | inr t =>
          rw [hc] at e
          exact scr_inv n t.1 t.2.1 t.2.2 s (ordP_inv h hc).1 e
section CSCR3
variable {I J : Mem} {bs : List Int} {E : List EN} {c p : Nat}
theorem t_readClose (hl : bs.length ≤ 600) (hr : ∀ b ∈ bs, 1 ≤ b ∧ b ≤ 255) (hS : SEI bs E c p) (h : PCl I bs E c p) (hne : enc E E.length ≠ []) (h5 : tK bs p = 5) : Tr (f_Scr_readClose I) (fun x K => OKo K bs x (cloP bs E c p) ∧ Fm FSc I K) := by
  obtain ⟨hB, hT, hSC, hO, h9⟩ := id h
  have hp := hS.1
  have hE := tE_le hp
  have hE2 := tE_le hE.2.1
  have hc30 := hS.2.1
  have hcc := hS.2.2.1
  have h22 := hS.2.2.2.1 E.length (Nat.le_refl _)
  have hpos := List.length_pos_iff.mpr hne
  obtain ⟨a, t, ha⟩ : ∃ a t, enc E E.length = a :: t := by
    cases hx : enc E E.length with
    | nil => exact absurd hx hne
    | cons a t => exact ⟨a, t, rfl⟩
  obtain ⟨ha1, ha2, ha3⟩ := enc_cons _ _ _ ha
  have hL : E.length < 60 := by omega
  unfold f_Scr_readClose
  rw [c_addEntry hSC.1 (by omega) (by decide), bnd_some]
  try dsimp only [ltI]
  have e10 : (sI (sI I 20 0 E.length ((13 : Nat) : Int)) 8 0 8 ((E.length : Int) + 1)) 8 0 10 = ((enc E E.length).length : Int) := by rw [sI_ne (by omega), sI_ne (by omega)]; exact hO.1
  rw [e10]
  have f1 : Fm (fun k i s => (k = 8 ∧ (s = 8 ∨ s = 10)) ∨ (k = 20 ∧ s = E.length)) I (sI (sI (sI I 20 0 E.length ((13 : Nat) : Int)) 8 0 8 ((E.length : Int) + 1)) 8 0 10 (((enc E E.length).length : Int) - 1)) := ((Fm.sI (by decide) (by omega) (by omega) (Or.inr ⟨rfl, rfl⟩)).trans (Fm.sI (by decide) (by omega) (by omega) (Or.inl ⟨rfl, Or.inl rfl⟩))).trans (Fm.sI (by decide) (by omega) (by omega) (Or.inl ⟨rfl, Or.inr rfl⟩))
  have a8 : (sI (sI (sI I 20 0 E.length ((13 : Nat) : Int)) 8 0 8 ((E.length : Int) + 1)) 8 0 10 (((enc E E.length).length : Int) - 1)) 8 0 8 = ((E.length + 1 : Nat) : Int) := by rw [sI_ne (by omega), sI_self]; rfl
  have a10 : (sI (sI (sI I 20 0 E.length ((13 : Nat) : Int)) 8 0 8 ((E.length : Int) + 1)) 8 0 10 (((enc E E.length).length : Int) - 1)) 8 0 10 = (((enc E E.length).length - 1 : Nat) : Int) := by rw [sI_self]; omega
  have a20 : (sI (sI (sI I 20 0 E.length ((13 : Nat) : Int)) 8 0 8 ((E.length : Int) + 1)) 8 0 10 (((enc E E.length).length : Int) - 1)) 20 0 E.length = 13 := by rw [sI_ne (by omega), sI_ne (by omega), sI_self]; rfl
  generalize sI (sI (sI I 20 0 E.length ((13 : Nat) : Int)) 8 0 8 ((E.length : Int) + 1)) 8 0 10 (((enc E E.length).length : Int) - 1) = J1 at f1 a8 a10 a20
  have hO1 : J1 21 5 ((enc E E.length).length - 1) = (a : Int) := by
    rw [f1.at (by decide) (by omega), hO.2 _ (by omega), show (enc E E.length).length - 1 - ((enc E E.length).length - 1) = 0 by omega, ha]
    rfl
  rw [a10, w32_of (x := (((enc E E.length).length - 1 : Nat) : Int)) (by omega) (by omega), if_neg (by omega), if_pos (by omega), if_pos (by omega), Int.toNat_natCast, hO1]
  unfold f_Scr_readClose_j46
  rw [w32_of (x := (a : Int)) (by omega) (by omega), if_pos (by omega), w32_of (x := (E.length : Int)) (by omega) (by omega)]
  try dsimp only [ltI]
  rw [if_pos (by omega), Int.toNat_natCast, Int.toNat_natCast]
  have f2 : Fm (fun k i s => k = 21 ∧ i = 3 ∧ (s = a ∨ s = E.length)) J1 (sI (sI J1 21 3 a (E.length : Int)) 21 3 E.length (a : Int)) := (Fm.sI (by decide) (by omega) (by omega) ⟨rfl, rfl, Or.inl rfl⟩).trans (Fm.sI (by decide) (by omega) (by omega) ⟨rfl, rfl, Or.inr rfl⟩)
  have b1 : (sI (sI J1 21 3 a (E.length : Int)) 21 3 E.length (a : Int)) 21 3 E.length = (a : Int) := sI_self _ _ _ _ _
  have b2 : (sI (sI J1 21 3 a (E.length : Int)) 21 3 E.length (a : Int)) 21 3 a = (E.length : Int) := by rw [sI_ne (by omega), sI_self]
  generalize sI (sI J1 21 3 a (E.length : Int)) 21 3 E.length (a : Int) = J2 at f2 b1 b2
  have f12 : Fm (fun k i s => (k = 8 ∧ (s = 8 ∨ s = 10)) ∨ (k = 20 ∧ s = E.length) ∨ (k = 21 ∧ i = 3 ∧ (s = a ∨ s = E.length))) I J2 := (f1.mono (fun a b c z => z.elim Or.inl (fun y => Or.inr (Or.inl y)))).trans (f2.mono (fun a b c z => Or.inr (Or.inr z)))
  have hB2 : BfC J2 bs := hB.fm f12 (by omega) (fun s => by omega)
  have hT2 : TC J2 bs p := hT.fm f12 (fun s _ _ => by omega)
  refine tr_call (t_advS hB2 hl hr hp hT2) ?_
  rintro _ J3 ⟨t3, f3⟩
  refine tr_call (t_pass (hB2.sx f3) hl hr hE.2.1 t3 (a := 3) (by omega)) ?_
  rintro x J4 ⟨rfl, w1, w2, f4⟩
  have f34 := f3.trans f4
  have fend : Fm FSc I J4 := (f12.mono (fun a b c z => by
    rcases z with z | z | z
    · exact Or.inr (Or.inl ⟨z.1, by omega⟩)
    · exact Or.inr (Or.inr (Or.inl z.1))
    · exact Or.inr (Or.inr (Or.inr z.1)))).trans (f34.mono fsx_sc)
  rw [if_pos (bI_01 _)]
  unfold cloP
  by_cases q3 : tK bs (tE bs p) = 3
  · rw [if_pos q3]
    have heq : enc (E ++ [((13, 0, 0) : EN)]) (E ++ [((13, 0, 0) : EN)]).length = t := by
      rw [enc_next, if_neg (by decide), if_pos rfl, ha]
      rfl
    have atJ : ∀ {k i s : Nat}, k ≠ 30 → ¬ FSx k i s → J4 k i s = J2 k i s := fun h1 h2 => f34.at h1 h2
    have htl : (enc E E.length).length = t.length + 1 := by rw [ha]; rfl
    refine tr_ret ⟨⟨bI_pos q3, hB2.sx f34, w1 q3, ?_, ?_, ?_⟩, fend⟩
    · refine hSC.app ?_ (fun j hj => ⟨?_, ?_, ?_, ?_⟩) ⟨?_, fun y => absurd (show (13 : Nat) = 8 ∨ (13 : Nat) = 10 from y) (by decide), fun _ _ _ y => absurd rfl y⟩ (fun k hk hw a' t' ee => ?_) (fun _ a' t' ee => ?_)
      · rw [atJ (by decide) (by unfold FSx; omega), f2.at (by decide) (by omega)]; exact a8
      · rw [atJ (by decide) (by unfold FSx; omega), f12.at (by decide) (by omega)]
      · rw [atJ (by decide) (by unfold FSx; omega), f12.at (by decide) (by omega)]
      · rw [atJ (by decide) (by unfold FSx; omega), f12.at (by decide) (by omega)]
      · rw [atJ (by decide) (by unfold FSx; omega), f12.at (by decide) (by omega)]
      · rw [atJ (by decide) (by unfold FSx; omega), f2.at (by decide) (by omega)]; exact a20
      · obtain ⟨z1, z2, z3⟩ := enc_cons _ _ _ ee
        have hg := enc_gone hw ee E.length hk
        have n1 : a' ≠ a := fun y => hg (by rw [y, ha]; exact List.mem_cons_self)
        have n2 : k ≠ a := fun y => by rw [y, ha2] at hw; exact absurd hw (by decide)
        exact ⟨by rw [atJ (by decide) (by unfold FSx; omega), f12.at (by decide) (by omega)], by rw [atJ (by decide) (by unfold FSx; omega), f12.at (by decide) (by omega)]⟩
      · rw [ha] at ee
        cases ee
        exact ⟨by rw [atJ (by decide) (by unfold FSx; omega)]; exact b1, by rw [atJ (by decide) (by unfold FSx; omega)]; exact b2⟩
    · refine ⟨by rw [heq, atJ (by decide) (by unfold FSx; omega), f2.at (by decide) (by omega), a10, htl]; rfl, fun d hd => ?_⟩
      rw [heq] at hd ⊢
      rw [atJ (by decide) (by unfold FSx; omega), f12.at (by decide) (by omega), hO.2 d (by omega), ha]
      show (((a :: t).getD (t.length + 1 - 1 - d) 0 : Nat) : Int) = _
      obtain ⟨u, hu⟩ : ∃ u : Nat, t.length + 1 - 1 - d = u + 1 := ⟨t.length - 1 - d, by omega⟩
      rw [hu, show t.length - 1 - d = u by omega]
      rfl
    · show J4 8 0 9 = (c : Int)
      rw [atJ (by decide) (by unfold FSx; omega), f12.at (by decide) (by omega)]
      exact h9
  · rw [if_neg q3]
    exact tr_ret ⟨⟨bI_neg q3, w2 q3⟩, fend⟩
theorem t_scrL (hl : bs.length ≤ 600) (hr : ∀ b ∈ bs, 1 ≤ b ∧ b ≤ 255) : ∀ (n m : Nat) (E : List EN) (c p : Nat) (I : Mem), m ≤ p → bs.length - p < n → SEI bs E c p → PCl I bs E c p → Tr (whl f_Scr_read_w24 (m : Int) I) (fun x K => OKo K bs x (scr bs n E c p) ∧ Fm FSc I K) := by
  intro n
  induction n with
  | zero => intro m E c p I _ h; omega
  | succ n ih =>
    intro m E c p I hm hn hS h
    obtain ⟨hB, hT, hSC, hO, h9⟩ := id h
    have hp := hS.1
    have h22 := hS.2.2.2.1 E.length (Nat.le_refl _)
    have e0 : scr bs (n + 1) E c p = (if enc E E.length = [] ∧ tK bs p = 0 then .inr (E, c, p) else (match (if enc E E.length ≠ [] ∧ tK bs p = 5 then cloP bs E c p else ordP bs E c p) with
      | .inl e => .inl e
      | .inr s => scr bs n s.1 s.2.1 s.2.2)) := rfl
    rw [e0]
    refine tr_step ?_
    have hlen0 : (enc E E.length).length = 0 ↔ enc E E.length = [] := List.length_eq_zero_iff
    -- behind an order or a close
    have next : ∀ (o : Int ⊕ PS), (∀ s : PS, o = .inr s → SEI bs s.1 s.2.1 s.2.2 ∧ p < s.2.2) → (scr bs (n + 1) E c p = (match o with
        | .inl e => .inl e
        | .inr s => scr bs n s.1 s.2.1 s.2.2)) → ∀ {e : Option (Int × Mem)}, Tr e (fun x K => OKo K bs x o ∧ Fm FSc I K) → Tr (bnd e fun x K => if w32 x = 0 then some ((Sum.inr 0 : Int ⊕ Int), K) else some (Sum.inl ((m : Int) + 1), K)) (LQ (fun s' J => Tr (whl f_Scr_read_w24 s' J) (fun x K => OKo K bs x (scr bs (n + 1) E c p) ∧ Fm FSc I K)) (fun x K => OKo K bs x (scr bs (n + 1) E c p) ∧ Fm FSc I K)) := by
      intro o ho eo e he
      refine tr_call he ?_
      rintro x K ⟨hk, f⟩
      rw [eo]
      cases o with
      | inl v =>
        obtain ⟨rfl, h2⟩ := hk
        rw [if_pos (by decide)]
        exact tr_ret (show OKo K bs 0 (.inl v) ∧ Fm FSc I K from ⟨⟨rfl, h2⟩, f⟩)
      | inr s =>
        obtain ⟨rfl, h2⟩ := hk
        obtain ⟨s1, s2⟩ := ho s rfl
        rw [if_neg (by decide)]
        refine tr_ret ?_
        show Tr (whl f_Scr_read_w24 ((m : Int) + 1) K) _
        refine tr_mono (ih (m + 1) s.1 s.2.1 s.2.2 K (by omega) (by have := s1.1; omega) s1 h2) ?_
        rintro x M ⟨z1, z2⟩
        exact ⟨z1, f.trans z2⟩
    rw [← e0]
    have ord : ¬ (enc E E.length = [] ∧ tK bs p = 0) → ¬ (enc E E.length ≠ [] ∧ tK bs p = 5) → Tr (f_Scr_read_j73 (m : Int) I) (LQ (fun s' J => Tr (whl f_Scr_read_w24 s' J) (fun x K => OKo K bs x (scr bs (n + 1) E c p) ∧ Fm FSc I K)) (fun x K => OKo K bs x (scr bs (n + 1) E c p) ∧ Fm FSc I K)) := by
      intro z1 z2
      unfold f_Scr_read_j73 f_Scr_read_j74
      rw [if_pos (by decide)]
      refine next (ordP bs E c p) (fun s hs => ordP_inv hS hs) ?_ (t_readOrder hl hr hS h)
      rw [e0, if_neg z1, if_neg z2]
    have j51 : ¬ (enc E E.length = [] ∧ tK bs p = 0) → Tr (f_Scr_read_j51 (m : Int) I) (LQ (fun s' J => Tr (whl f_Scr_read_w24 s' J) (fun x K => OKo K bs x (scr bs (n + 1) E c p) ∧ Fm FSc I K)) (fun x K => OKo K bs x (scr bs (n + 1) E c p) ∧ Fm FSc I K)) := by
      intro z1
      unfold f_Scr_read_j51
      rw [hO.1, w32_of (x := ((enc E E.length).length : Int)) (by omega) (by omega)]
      by_cases q : enc E E.length = []
      · rw [if_neg (by have := hlen0.mpr q; omega)]
        exact ord z1 (fun y => y.1 q)
      · have hpos := List.length_pos_iff.mpr q
        rw [if_pos (by omega), c_is hT (by omega), bnd_some]
        by_cases q5 : tK bs p = 5
        · rw [if_neg (wb_pos q5)]
          unfold f_Scr_read_j74
          rw [if_neg (by decide)]
          refine next (cloP bs E c p) (fun s hs => cloP_inv hS q q5 hs) ?_ (t_readClose hl hr hS h q q5)
          rw [e0, if_neg z1, if_pos ⟨q, q5⟩]
        · rw [if_pos (wb_neg q5)]
          exact ord z1 (fun y => q5 y.2)
    unfold f_Scr_read_w24
    rw [w32_of (x := (m : Int)) (by omega) (by omega), if_neg (by omega), hO.1, w32_of (x := ((enc E E.length).length : Int)) (by omega) (by omega)]
    by_cases q : enc E E.length = []
    · rw [if_pos (by have := hlen0.mpr q; omega), c_is hT (by omega), bnd_some]
      by_cases q0 : tK bs p = 0
      · rw [if_neg (wb_pos q0)]
        have e1 : scr bs (n + 1) E c p = .inr (E, c, p) := by rw [e0, if_pos ⟨q, q0⟩]
        rw [e1]
        exact tr_ret (show OKo I bs 1 (.inr (E, c, p)) ∧ Fm FSc I I from ⟨⟨rfl, h⟩, Fm.refl _ _⟩)
      · rw [if_pos (wb_neg q0)]
        exact j51 (fun y => q0 y.2)
    · rw [if_neg (by have := List.length_pos_iff.mpr q; omega)]
      exact j51 (fun y => q y.1)
theorem t_scrRead (hl : bs.length ≤ 600) (hr : ∀ b ∈ bs, 1 ≤ b ∧ b ≤ 255) (hB : BfC I bs) : Tr (f_Scr_read I) (fun x K => OKo K bs x (scr bs 601 [] 0 0) ∧ BfC K bs ∧ Fm FSc I K) := by
  suffices h : Tr (f_Scr_read I) (fun x K => OKo K bs x (scr bs 601 [] 0 0) ∧ Fm FSc I K) from tr_mono h (fun x K z => ⟨z.1, hB.scr z.2, z.2⟩)
  unfold f_Scr_read
  try dsimp only [ltI]
  have f2 : Fm FSc I (sI (sI (sI I 8 0 8 0) 8 0 9 0) 8 0 10 0) := ((Fm.sI (by decide) (by omega) (by omega) (Or.inr (Or.inl ⟨rfl, by decide⟩))).trans (Fm.sI (by decide) (by omega) (by omega) (Or.inr (Or.inl ⟨rfl, by decide⟩)))).trans (Fm.sI (by decide) (by omega) (by omega) (Or.inr (Or.inl ⟨rfl, by decide⟩)))
  have a8 : (sI (sI (sI I 8 0 8 0) 8 0 9 0) 8 0 10 0) 8 0 8 = 0 := by rw [sI_ne (by omega), sI_ne (by omega), sI_self]
  have a9 : (sI (sI (sI I 8 0 8 0) 8 0 9 0) 8 0 10 0) 8 0 9 = 0 := by rw [sI_ne (by omega), sI_self]
  have a10 : (sI (sI (sI I 8 0 8 0) 8 0 9 0) 8 0 10 0) 8 0 10 = 0 := sI_self _ _ _ _ _
  generalize sI (sI (sI I 8 0 8 0) 8 0 9 0) 8 0 10 0 = J2 at f2 a8 a9 a10
  have hB2 : BfC J2 bs := hB.scr f2
  unfold f_Src_rewind
  try dsimp only [ltI]
  have f3 : Fm FSx J2 (sI (sI (sI J2 6 0 4 0) 6 0 6 0) 6 0 7 (-1)) := ((Fm.sI (by decide) (by omega) (by omega) ⟨rfl, by omega, by omega⟩).trans (Fm.sI (by decide) (by omega) (by omega) ⟨rfl, by omega, by omega⟩)).trans (Fm.sI (by decide) (by omega) (by omega) ⟨rfl, by omega, by omega⟩)
  have a4 : (sI (sI (sI J2 6 0 4 0) 6 0 6 0) 6 0 7 (-1)) 6 0 4 = ((0 : Nat) : Int) := by rw [sI_ne (by omega), sI_ne (by omega), sI_self]; rfl
  generalize sI (sI (sI J2 6 0 4 0) 6 0 6 0) 6 0 7 (-1) = J3 at f3 a4
  refine tr_call (P := fun _ K => TC K bs 0 ∧ Fm FSx J3 K) (tr_call (t_adv (hB2.sx f3) hl hr (Nat.zero_le _) a4) (fun _ K z => tr_ret ⟨z.1, z.2.mono fad_sx⟩)) ?_
  rintro _ J4 ⟨hT4, f4⟩
  have f34 := f3.trans f4
  have hP : PCl J4 bs [] 0 0 := ⟨hB2.sx f34, hT4, ⟨by rw [f34.at (by decide) (by unfold FSx; omega)]; exact a8, fun j hj => absurd hj (Nat.not_lt_zero j), fun k hk => absurd hk (Nat.not_lt_zero k)⟩, ⟨by rw [f34.at (by decide) (by unfold FSx; omega)]; exact a10, fun d hd => absurd hd (Nat.not_lt_zero d)⟩, by rw [f34.at (by decide) (by unfold FSx; omega)]; exact a9⟩
  refine tr_mono (t_scrL hl hr 601 0 [] 0 0 J4 (Nat.le_refl _) (by omega) SEI.nil hP) ?_
  rintro x K ⟨z1, z2⟩
  exact ⟨z1, f2.trans ((f34.mono fsx_sc).trans z2)⟩
end CSCR3
end
section
/-! ===== scripts: the reference reads ===== -/
def oc (w : Nat) : Int := [0, 0, 0, 0, 1, 2, 10, 11, 12, 13, 14, 15, 16, 17].getD w 0
theorem oc_rng : ∀ w : Nat, w < 15 → 0 ≤ oc w ∧ oc w ≤ 17 := by decide
theorem oc_16 : ∀ w : Nat, w < 15 → (oc w = 16 ↔ w = 12) := by decide
theorem wOrd_no : ∀ w : Nat, w < 15 → w ≠ 3 → w ≠ 4 → w ≠ 5 → w ≠ 6 → w ≠ 7 → w ≠ 8 → w ≠ 9 → w ≠ 10 → w ≠ 11 → w ≠ 12 → wOrd w = 0 := by
  intro w hw n3 n4 n5 n6 n7 n8 n9 n10 n11 n12
  rcases (show w = 0 ∨ w = 1 ∨ w = 2 ∨ w = 13 ∨ w = 14 by omega) with rfl | rfl | rfl | rfl | rfl <;> rfl
section MSCR
variable {I J : Mem} {bs : List Int} {E : List EN} {c p : Nat}
def EMl (I : Mem) (j : Nat) (e : EN) : Prop := I 27 15 j = oc e.1 ∧ (e.1 ≠ 7 → e.1 ≠ 13 → I 27 16 j = e.2.1) ∧ (e.1 = 8 ∨ e.1 = 10 → I 27 17 j = (e.2.2 : Int))
def SMl (I : Mem) (E : List EN) : Prop := I 26 0 38 = (E.length : Int) ∧ (∀ j : Nat, j < E.length → EMl I j (eD E j)) ∧ ∀ k : Nat, k < E.length → ew E k = 13 → ∀ (a : Nat) (t : List Nat), enc E k = a :: t → I 27 18 a = (k : Int)
def OPm (I : Mem) (E : List EN) : Prop := I 26 0 40 = ((enc E E.length).length : Int) ∧ ∀ d : Nat, d < (enc E E.length).length → I 27 19 d = (((enc E E.length).getD ((enc E E.length).length - 1 - d) 0 : Nat) : Int)
def PMl (I : Mem) (bs : List Int) (E : List EN) (c p : Nat) : Prop := BfM I bs ∧ TM I bs p ∧ SMl I E ∧ OPm I E ∧ I 26 0 39 = (c : Int) ∧ I 26 0 25 = 0
abbrev FSn : FP := fun k i s => FMx k i s ∨ (k = 26 ∧ i = 0 ∧ (s = 31 ∨ (38 ≤ s ∧ s ≤ 40))) ∨ (k = 27 ∧ 15 ≤ i ∧ i ≤ 19)
def OKn (K : Mem) (bs : List Int) : Int ⊕ PS → Prop
  | .inl e => K 26 0 25 = e ∧ ERR K
  | .inr s => PMl K bs s.1 s.2.1 s.2.2
theorem fmx_sn : ∀ k i s : Nat, FMx k i s → FSn k i s := fun _ _ _ z => Or.inl z
theorem fem_sn : ∀ k i s : Nat, FEm k i s → FSn k i s := fun _ _ _ z => Or.inl (fem_mx _ _ _ z)
theorem BfM.sn (h : BfM I bs) (f : Fm FSn I J) : BfM J bs := h.fm f (by unfold FSn FMx; omega) (fun s => by unfold FSn FMx; omega)
theorem nbE_err {lo hi : Int} (h : nbE bs p lo hi ≠ 0) : 1 ≤ nbE bs p lo hi ∧ nbE bs p lo hi ≤ 5 := by
  unfold nbE at h ⊢
  by_cases z : tK bs p ≠ 2
  · rw [if_pos z]; decide
  · rw [if_neg z] at h ⊢
    by_cases z2 : lo ≤ nV bs p ∧ nV bs p ≤ hi
    · rw [if_pos z2] at h; exact absurd rfl h
    · rw [if_neg z2]; decide
theorem SMl.app {e : EN} (h : SMl I E) (h8 : J 26 0 38 = ((E.length + 1 : Nat) : Int)) (hk : ∀ j : Nat, j < E.length → J 27 15 j = I 27 15 j ∧ J 27 16 j = I 27 16 j ∧ J 27 17 j = I 27 17 j) (he : EMl J E.length e) (h3 : ∀ k : Nat, k < E.length → ew E k = 13 → ∀ (a : Nat) (t : List Nat), enc E k = a :: t → J 27 18 a = I 27 18 a) (h13 : e.1 = 13 → ∀ (a : Nat) (t : List Nat), enc E E.length = a :: t → J 27 18 a = (E.length : Int)) : SMl J (E ++ [e]) := by
  have hl : (E ++ [e]).length = E.length + 1 := by rw [List.length_append]; rfl
  obtain ⟨a1, a2, a3⟩ := h
  refine ⟨by rw [hl]; exact h8, fun j hj => ?_, fun k hkk hw a t ee => ?_⟩
  · by_cases q : j = E.length
    · rw [q, eD_last]; exact he
    · have hj : j < E.length := by omega
      obtain ⟨k1, k2, k3⟩ := hk j hj
      obtain ⟨b1, b2, b3⟩ := a2 j hj
      rw [eD_app hj]
      exact ⟨k1.trans b1, fun z1 z2 => k2.trans (b2 z1 z2), fun z => k3.trans (b3 z)⟩
  · by_cases q : k = E.length
    · subst q
      rw [ew_last] at hw
      rw [enc_app (Nat.le_refl _)] at ee
      exact h13 hw a t ee
    · have hk2 : k < E.length := by omega
      rw [ew_app hk2] at hw
      rw [enc_app (by omega)] at ee
      exact (h3 k hk2 hw a t ee).trans (a3 k hk2 hw a t ee)
theorem m_orderHere (hB : BfM I bs) (hl : bs.length ≤ 600) (hr : ∀ b ∈ bs, 1 ≤ b ∧ b ≤ 255) (hp : p ≤ bs.length) (ht : TM I bs p) (he : I 26 0 25 = 0) : f_M_orderHere I = some (if wOrd (wd bs p) = 0 then -1 else oc (wd bs p), I) := by
  have hwl := wd_lt bs p
  have key : ∀ {i : Nat}, i < 14 → f_M_isKey i I = some (bI (wd bs p = i), I) := fun hi => m_isKey hB hl hr hp ht he hi
  unfold f_M_orderHere
  rw [key (i := 6) (by decide), bnd_some]
  by_cases q6 : wd bs p = 6
  · rw [if_neg (wb_pos q6), q6, if_neg (by decide)]; rfl
  rw [if_pos (wb_neg q6), key (i := 7) (by decide), bnd_some]
  by_cases q7 : wd bs p = 7
  · rw [if_neg (wb_pos q7), q7, if_neg (by decide)]; rfl
  rw [if_pos (wb_neg q7), key (i := 8) (by decide), bnd_some]
  by_cases q8 : wd bs p = 8
  · rw [if_neg (wb_pos q8), q8, if_neg (by decide)]; rfl
  rw [if_pos (wb_neg q8), key (i := 9) (by decide), bnd_some]
  by_cases q9 : wd bs p = 9
  · rw [if_neg (wb_pos q9), q9, if_neg (by decide)]; rfl
  rw [if_pos (wb_neg q9), key (i := 10) (by decide), bnd_some]
  by_cases q10 : wd bs p = 10
  · rw [if_neg (wb_pos q10), q10, if_neg (by decide)]; rfl
  rw [if_pos (wb_neg q10), key (i := 11) (by decide), bnd_some]
  by_cases q11 : wd bs p = 11
  · rw [if_neg (wb_pos q11), q11, if_neg (by decide)]; rfl
  rw [if_pos (wb_neg q11), key (i := 3) (by decide), bnd_some]
  by_cases q3 : wd bs p = 3
  · rw [if_neg (wb_pos q3), q3, if_neg (by decide)]; rfl
  rw [if_pos (wb_neg q3), key (i := 4) (by decide), bnd_some]
  by_cases q4 : wd bs p = 4
  · rw [if_neg (wb_pos q4), q4, if_neg (by decide)]; rfl
  rw [if_pos (wb_neg q4), key (i := 5) (by decide), bnd_some]
  by_cases q5 : wd bs p = 5
  · rw [if_neg (wb_pos q5), q5, if_neg (by decide)]; rfl
  rw [if_pos (wb_neg q5), key (i := 12) (by decide), bnd_some]
  by_cases q12 : wd bs p = 12
  · rw [if_neg (wb_pos q12), q12, if_neg (by decide)]; rfl
  rw [if_pos (wb_neg q12), if_pos (wOrd_no _ hwl q3 q4 q5 q6 q7 q8 q9 q10 q11 q12)]
theorem t_mfnum {w : Nat} (hB : BfM I bs) (hl : bs.length ≤ 600) (hr : ∀ b ∈ bs, 1 ≤ b ∧ b ≤ 255) (hp : p ≤ bs.length) (ht : TM I bs p) (he : I 26 0 25 = 0) (hw : w = 3 ∨ w = 4 ∨ w = 5 ∨ w = 6 ∨ w = 9 ∨ w = 11 ∨ w = 12) : Tr (f_M_firstHere (oc w) I) (fun x K => (nbE bs p (wLow w) (wHig w) = 0 → x = nV bs p ∧ TM K bs (tE bs p) ∧ K 26 0 25 = 0) ∧ (nbE bs p (wLow w) (wHig w) ≠ 0 → K 26 0 25 = nbE bs p (wLow w) (wHig w)) ∧ Fm FMx I K) := by
  have num : ∀ {lo hi : Int}, lo = wLow w → hi = wHig w → 0 ≤ lo ∧ lo ≤ 1000 → 0 ≤ hi ∧ hi ≤ 1000 → Tr (bnd (f_M_number lo hi I) fun x J => some (x, J)) (fun x K => (nbE bs p (wLow w) (wHig w) = 0 → x = nV bs p ∧ TM K bs (tE bs p) ∧ K 26 0 25 = 0) ∧ (nbE bs p (wLow w) (wHig w) ≠ 0 → K 26 0 25 = nbE bs p (wLow w) (wHig w)) ∧ Fm FMx I K) := by
    intro lo hi e1 e2 h1 h2
    refine tr_call (t_mnumber hB hl hr hp ht he h1 h2) ?_
    rintro x K z
    rw [e1, e2] at z
    exact tr_ret z
  unfold f_M_firstHere
  rcases hw with rfl | rfl | rfl | rfl | rfl | rfl | rfl
  · rw [if_neg (by decide), if_neg (by decide), if_neg (by decide), if_neg (by decide), if_neg (by decide), if_neg (by decide), if_neg (by decide), show oc 3 = ((0 : Nat) : Int) from rfl, m_least (by decide), bnd_some, m_most (by decide), bnd_some]
    exact num rfl rfl (by decide) (by decide)
  · rw [if_neg (by decide), if_neg (by decide), if_neg (by decide), if_neg (by decide), if_neg (by decide), if_neg (by decide), if_neg (by decide), show oc 4 = ((1 : Nat) : Int) from rfl, m_least (by decide), bnd_some, m_most (by decide), bnd_some]
    exact num rfl rfl (by decide) (by decide)
  · rw [if_neg (by decide), if_neg (by decide), if_neg (by decide), if_neg (by decide), if_neg (by decide), if_neg (by decide), if_neg (by decide), show oc 5 = ((2 : Nat) : Int) from rfl, m_least (by decide), bnd_some, m_most (by decide), bnd_some]
    exact num rfl rfl (by decide) (by decide)
  · rw [if_pos (by decide)]
    exact num rfl rfl (by decide) (by decide)
  · rw [if_neg (by decide), if_neg (by decide), if_neg (by decide), if_pos (by decide)]
    exact num rfl rfl (by decide) (by decide)
  · rw [if_neg (by decide), if_neg (by decide), if_neg (by decide), if_neg (by decide), if_neg (by decide), if_pos (by decide)]
    exact num rfl rfl (by decide) (by decide)
  · rw [if_neg (by decide), if_neg (by decide), if_neg (by decide), if_neg (by decide), if_neg (by decide), if_neg (by decide), if_pos (by decide)]
    exact num rfl rfl (by decide) (by decide)
theorem t_mflet {w : Nat} {L : Nat} (hL : L < 60) (h38 : I 26 0 38 = (L : Int)) (hB : BfM I bs) (hl : bs.length ≤ 600) (hr : ∀ b ∈ bs, 1 ≤ b ∧ b ≤ 255) (hp : p ≤ bs.length) (ht : TM I bs p) (he : I 26 0 25 = 0) (hw : w = 8 ∨ w = 10) : Tr (f_M_firstHere (oc w) I) (fun x K => (tK bs p ≠ 1 → K 26 0 25 = 1) ∧ (tK bs p = 1 → w = 8 ∧ tE bs p - tF bs p ≠ 2 → K 26 0 25 = 4) ∧ (tK bs p = 1 → ¬ (w = 8 ∧ tE bs p - tF bs p ≠ 2) → x = (tF bs p : Int) ∧ K 27 17 L = ((tE bs p - tF bs p : Nat) : Int) ∧ TM K bs (tE bs p) ∧ K 26 0 25 = 0) ∧ Fm (fun k i s => FMx k i s ∨ (k = 27 ∧ i = 17 ∧ s = L)) I K) := by
  have hE := tE_le hp
  have j38 : tK bs p = 1 → ¬ (w = 8 ∧ tE bs p - tF bs p ≠ 2) → Tr (f_M_wordHere_j38 I) (fun x K => (tK bs p ≠ 1 → K 26 0 25 = 1) ∧ (tK bs p = 1 → w = 8 ∧ tE bs p - tF bs p ≠ 2 → K 26 0 25 = 4) ∧ (tK bs p = 1 → ¬ (w = 8 ∧ tE bs p - tF bs p ≠ 2) → x = (tF bs p : Int) ∧ K 27 17 L = ((tE bs p - tF bs p : Nat) : Int) ∧ TM K bs (tE bs p) ∧ K 26 0 25 = 0) ∧ Fm (fun k i s => FMx k i s ∨ (k = 27 ∧ i = 17 ∧ s = L)) I K) := by
    intro q1 q2
    unfold f_M_wordHere_j38 f_M_wordHere_j39
    rw [mf_0 he (by decide), bnd_some, if_pos (by decide), h38, w32_of (x := (L : Int)) (by omega) (by omega), if_pos (by omega), Int.toNat_natCast, ht.2.1, ht.2.2.1]
    try dsimp only [ltI]
    have f1 : Fm (fun k i s => k = 27 ∧ i = 17 ∧ s = L) I (sI I 27 17 L (((tE bs p : Nat) : Int) - ((tF bs p : Nat) : Int))) := Fm.sI (by decide) (by omega) (by omega) ⟨rfl, rfl, rfl⟩
    have e1 : (sI I 27 17 L (((tE bs p : Nat) : Int) - ((tF bs p : Nat) : Int))) 27 17 L = ((tE bs p - tF bs p : Nat) : Int) := by rw [sI_self]; omega
    generalize sI I 27 17 L (((tE bs p : Nat) : Int) - ((tF bs p : Nat) : Int)) = J1 at f1 e1
    refine tr_call (tm_advS (hB.fm f1 (by omega) (fun s => by omega)) hl hr hp (ht.fm f1 (fun s _ _ => by omega))) ?_
    rintro _ K ⟨t2, e2, f2⟩
    exact tr_ret ⟨fun y => absurd q1 y, fun _ y => absurd y q2, fun _ _ => ⟨rfl, by rw [f2.at (by decide) (by unfold FMx; omega)]; exact e1, t2, by rw [e2, f1.at (by decide) (by omega)]; exact he⟩, (f1.mono (fun a b c z => Or.inr z)).trans (f2.mono (fun a b c z => Or.inl z))⟩
  have key : ∀ b : Int, (b = 1 ∧ w = 8 ∨ b = 0 ∧ w = 10) → Tr (bnd (f_M_wordHere b I) fun x J => some (x, J)) (fun x K => (tK bs p ≠ 1 → K 26 0 25 = 1) ∧ (tK bs p = 1 → w = 8 ∧ tE bs p - tF bs p ≠ 2 → K 26 0 25 = 4) ∧ (tK bs p = 1 → ¬ (w = 8 ∧ tE bs p - tF bs p ≠ 2) → x = (tF bs p : Int) ∧ K 27 17 L = ((tE bs p - tF bs p : Nat) : Int) ∧ TM K bs (tE bs p) ∧ K 26 0 25 = 0) ∧ Fm (fun k i s => FMx k i s ∨ (k = 27 ∧ i = 17 ∧ s = L)) I K) := by
    intro b hb
    refine tr_call (P := fun x K => (tK bs p ≠ 1 → K 26 0 25 = 1) ∧ (tK bs p = 1 → w = 8 ∧ tE bs p - tF bs p ≠ 2 → K 26 0 25 = 4) ∧ (tK bs p = 1 → ¬ (w = 8 ∧ tE bs p - tF bs p ≠ 2) → x = (tF bs p : Int) ∧ K 27 17 L = ((tE bs p - tF bs p : Nat) : Int) ∧ TM K bs (tE bs p) ∧ K 26 0 25 = 0) ∧ Fm (fun k i s => FMx k i s ∨ (k = 27 ∧ i = 17 ∧ s = L)) I K) ?_ (fun x K z => tr_ret z)
    unfold f_M_wordHere
    rw [ht.1]
    by_cases q1 : tK bs p = 1
    · rw [if_pos ((km_1 bs p).mpr q1), mf_0 he (by decide), bnd_some, if_pos (by decide)]
      rcases hb with ⟨rfl, h8⟩ | ⟨rfl, h10⟩
      · rw [if_neg (by decide), ht.2.1, ht.2.2.1, w32_of (x := ((tE bs p : Nat) : Int) - ((tF bs p : Nat) : Int)) (by omega) (by omega)]
        by_cases q2 : tE bs p - tF bs p = 2
        · rw [if_pos (by omega)]
          exact j38 q1 (fun y => y.2 q2)
        · rw [if_neg (by omega)]
          unfold f_M_wordHere_j39
          refine tr_call (mf_1 he (by decide) (by decide)) ?_
          rintro x K ⟨rfl, b, f⟩
          rw [if_neg (by decide)]
          exact tr_ret ⟨fun y => absurd q1 y, fun _ _ => b, fun _ y => absurd ⟨h8, q2⟩ y, f.mono (fun a b c z => Or.inl (fem_mx _ _ _ z))⟩
      · rw [if_pos (by decide)]
        exact j38 q1 (fun y => by omega)
    · rw [if_neg (fun z => q1 ((km_1 bs p).mp z))]
      refine tr_call (mf_1 he (by decide) (by decide)) ?_
      rintro x K ⟨rfl, b, f⟩
      rw [if_neg (by decide)]
      exact tr_ret ⟨fun _ => b, fun y => absurd y q1, fun y => absurd y q1, f.mono (fun a b c z => Or.inl (fem_mx _ _ _ z))⟩
  unfold f_M_firstHere
  rcases hw with h8 | h10
  · rw [show oc w = 12 by rw [h8]; rfl, if_neg (by decide), if_neg (by decide), if_pos (by decide)]
    exact key 1 (Or.inl ⟨rfl, h8⟩)
  · rw [show oc w = 14 by rw [h10]; rfl, if_neg (by decide), if_neg (by decide), if_neg (by decide), if_neg (by decide), if_pos (by decide)]
    exact key 0 (Or.inr ⟨rfl, h10⟩)
/-- an entry added -/
theorem PMl.add {e : EN} {q c' : Nat} (h : PMl I bs E c p) (hB : BfM J bs) (hT : TM J bs q) (h8 : J 26 0 38 = ((E.length + 1 : Nat) : Int)) (h9 : J 26 0 39 = (c' : Int)) (he0 : J 26 0 25 = 0) (f : Fm (fun k i s => FMx k i s ∨ (k = 26 ∧ i = 0 ∧ (s = 38 ∨ s = 39)) ∨ (k = 27 ∧ 15 ≤ i ∧ i ≤ 17 ∧ s = E.length)) I J) (he : EMl J E.length e) (h12 : e.1 ≠ 12) (h13 : e.1 ≠ 13) : PMl J bs (E ++ [e]) c' q := by
  have heq : enc (E ++ [e]) (E ++ [e]).length = enc E E.length := by rw [enc_next, if_neg h12, if_neg h13]
  refine ⟨hB, hT, h.2.2.1.app h8 (fun j hj => ⟨?_, ?_, ?_⟩) he (fun k hk hw a t ee => ?_) (fun z => absurd z h13), ?_, h9, he0⟩
  · exact f.at (by decide) (by unfold FMx; omega)
  · exact f.at (by decide) (by unfold FMx; omega)
  · exact f.at (by decide) (by unfold FMx; omega)
  · exact f.at (by decide) (by unfold FMx; omega)
  · unfold OPm
    rw [heq]
    exact ⟨by rw [f.at (by decide) (by unfold FMx; omega)]; exact h.2.2.2.1.1, fun d hd => by rw [f.at (by decide) (by unfold FMx; omega)]; exact h.2.2.2.1.2 d hd⟩
theorem t_takesE (he : ERR I) (a : Int) : f_M_takesSign a I = some ((), I) := by
  unfold f_M_takesSign
  rw [m_isSignE he.ne, bnd_some, mf_E he.ne, bnd_some, if_neg (by decide)]
theorem t_mreadsOrder (hl : bs.length ≤ 600) (hr : ∀ b ∈ bs, 1 ≤ b ∧ b ≤ 255) (hS : SEI bs E c p) (h : PMl I bs E c p) : Tr (f_M_readsOrder I) (fun _ K => OKn K bs (ordP bs E c p) ∧ Fm FSn I K) := by
  obtain ⟨hB, hT, hSM, hO, h9, he⟩ := id h
  have hp := hS.1
  have hE := tE_le hp
  have hE2 := tE_le hE.2.1
  have hwl := wd_lt bs p
  have hc30 := hS.2.1
  have hcc := hS.2.2.1
  have h22 := hS.2.2.2.1 E.length (Nat.le_refl _)
  have hor := oc_rng _ hwl
  unfold f_M_readsOrder
  rw [m_orderHere hB hl hr hp hT he, bnd_some]
  by_cases q0 : wOrd (wd bs p) = 0
  · have eo : ordP bs E c p = .inl 1 := by unfold ordP; rw [if_pos q0]
    rw [if_pos q0, if_pos (by decide), eo]
    refine tr_call (mf_1 he (by decide) (by decide)) ?_
    rintro x K ⟨rfl, b, f⟩
    rw [if_neg (by decide)]
    exact tr_ret ⟨⟨b, ERR.of b (by decide)⟩, f.mono fem_sn⟩
  have hwr := wOrd_1 _ hwl q0
  rw [if_neg q0, w32_of (x := oc (wd bs p)) (by omega) (by omega), if_neg (by omega), mf_0 he (by decide), bnd_some, if_pos (by decide), h9, w32_of (x := (c : Int)) (by omega) (by omega)]
  by_cases qc : 30 ≤ c
  · have eo : ordP bs E c p = .inl 5 := by unfold ordP; rw [if_neg q0, if_pos qc]
    rw [if_pos (by omega), eo]
    refine tr_call (mf_1 he (by decide) (by decide)) ?_
    rintro x K ⟨rfl, b, f⟩
    rw [if_neg (by decide)]
    exact tr_ret ⟨⟨b, ERR.of b (by decide)⟩, f.mono fem_sn⟩
  have hL : E.length < 60 := by omega
  rw [if_neg (by omega), mf_0 he (by decide), bnd_some, if_pos (by decide)]
  try dsimp only [ltI]
  try rw [h9]
  have f1 : Fm (fun k i s => k = 26 ∧ i = 0 ∧ s = 39) I (sI I 26 0 39 ((c : Int) + 1)) := Fm.sI (by decide) (by omega) (by omega) ⟨rfl, rfl, rfl⟩
  have a9 : (sI I 26 0 39 ((c : Int) + 1)) 26 0 39 = ((c + 1 : Nat) : Int) := by rw [sI_self]; rfl
  generalize sI I 26 0 39 ((c : Int) + 1) = J1 at f1 a9
  have hB1 : BfM J1 bs := hB.fm f1 (by omega) (fun s => by omega)
  have hT1 : TM J1 bs p := hT.fm f1 (fun s _ _ => by omega)
  refine tr_call (tm_advS hB1 hl hr hp hT1) ?_
  rintro _ J2 ⟨t2, e2, f2⟩
  have he2 : J2 26 0 25 = 0 := by rw [e2, f1.at (by decide) (by omega)]; exact he
  have b8 : J2 26 0 38 = (E.length : Int) := by rw [f2.at (by decide) (by unfold FMx; omega), f1.at (by decide) (by omega)]; exact hSM.1
  have b9 : J2 26 0 39 = ((c + 1 : Nat) : Int) := by rw [f2.at (by decide) (by unfold FMx; omega)]; exact a9
  rw [b8, w32_of (x := (E.length : Int)) (by omega) (by omega), if_pos (by omega), Int.toNat_natCast]
  try dsimp only [ltI]
  have f3 : Fm (fun k i s => k = 27 ∧ i = 15 ∧ s = E.length) J2 (sI J2 27 15 E.length (oc (wd bs p))) := Fm.sI (by decide) (by omega) (by omega) ⟨rfl, rfl, rfl⟩
  have c15 : (sI J2 27 15 E.length (oc (wd bs p))) 27 15 E.length = oc (wd bs p) := sI_self _ _ _ _ _
  have c8 : (sI J2 27 15 E.length (oc (wd bs p))) 26 0 38 = (E.length : Int) := by rw [sI_ne (by omega)]; exact b8
  have c9 : (sI J2 27 15 E.length (oc (wd bs p))) 26 0 39 = ((c + 1 : Nat) : Int) := by rw [sI_ne (by omega)]; exact b9
  have he3 : (sI J2 27 15 E.length (oc (wd bs p))) 26 0 25 = 0 := by rw [sI_ne (by omega)]; exact he2
  generalize sI J2 27 15 E.length (oc (wd bs p)) = J3 at f3 c15 c8 c9 he3
  have hB3 : BfM J3 bs := (hB1.mx f2).fm f3 (by omega) (fun s => by omega)
  have hT3 : TM J3 bs (tE bs p) := t2.fm f3 (fun s _ _ => by omega)
  have f13 : Fm (fun k i s => FMx k i s ∨ (k = 26 ∧ i = 0 ∧ (s = 38 ∨ s = 39)) ∨ (k = 27 ∧ 15 ≤ i ∧ i ≤ 17 ∧ s = E.length)) I J3 := (f1.mono (fun a b c z => Or.inr (Or.inl ⟨z.1, z.2.1, Or.inr z.2.2⟩))).trans ((f2.mono (fun a b c z => Or.inl z)).trans (f3.mono (fun a b c z => Or.inr (Or.inr ⟨z.1, by omega, by omega, z.2.2⟩))))
  have fsn : ∀ {K : Mem}, Fm (fun k i s => FMx k i s ∨ (k = 26 ∧ i = 0 ∧ (s = 38 ∨ s = 39)) ∨ (k = 27 ∧ 15 ≤ i ∧ i ≤ 17 ∧ s = E.length)) I K → Fm FSn I K := fun f => f.mono (fun a b c z => by
    rcases z with z | z | z
    · exact Or.inl z
    · exact Or.inr (Or.inl ⟨z.1, z.2.1, by omega⟩)
    · exact Or.inr (Or.inr ⟨z.1, by omega, by omega⟩))
  rw [c8, w32_of (x := (E.length : Int)) (by omega) (by omega)]
  -- behind firstHere: an order that is no again
  have tail : ∀ (x : Int) (K : Mem) (o : Int ⊕ (EN × Nat)), wd bs p ≠ 12 → Fm (fun k i s => FMx k i s ∨ (k = 26 ∧ i = 0 ∧ (s = 38 ∨ s = 39)) ∨ (k = 27 ∧ 15 ≤ i ∧ i ≤ 17 ∧ s = E.length)) I K → K 26 0 38 = (E.length : Int) → K 26 0 39 = ((c + 1 : Nat) : Int) → K 27 15 E.length = oc (wd bs p) → (match o with
      | .inl e => K 26 0 25 = e ∧ ERR K
      | .inr t => t.2 ≤ bs.length ∧ TM K bs t.2 ∧ K 26 0 25 = 0 ∧ t.1.1 = wd bs p ∧ (t.1.1 ≠ 7 → x = t.1.2.1) ∧ (t.1.1 = 8 ∨ t.1.1 = 10 → K 27 17 E.length = (t.1.2.2 : Int))) → (ordP bs E c p = (match o with
      | .inl e => .inl e
      | .inr t => if tK bs t.2 = 3 then .inr (E ++ [t.1], c + 1, tE bs t.2) else .inl 1)) → Tr (if 0 ≤ (E.length : Int) ∧ (E.length : Int) < 64 then ltI (sI K 27 16 (E.length : Int).toNat x) fun J20 => if oc (wd bs p) = 16 then bnd (f_M_isSign 40 J20) fun x23 J22 => if w32 x23 = 0 then f_M_readsOrder_j129 J22 else if w32 (J22 26 0 40) = 2 then f_M_readsOrder_j130 1 J22 else f_M_readsOrder_j129 J22 else ltI (sI J20 26 0 38 (J20 26 0 38 + 1)) fun J54 => bnd (f_M_takesSign 59 J54) fun _ J56 => some ((), J56) else none) (fun _ K => OKn K bs (ordP bs E c p) ∧ Fm FSn I K) := by
    intro x K o n12 f k8 k9 k15 ho eo
    rw [if_pos (by omega), Int.toNat_natCast]
    try dsimp only [ltI]
    rw [if_neg (fun z => n12 ((oc_16 _ hwl).mp z))]
    try dsimp only [ltI]
    rw [sI_ne (k' := 26) (s' := 38) (by omega), k8]
    have g1 : Fm (fun k i s => FMx k i s ∨ (k = 26 ∧ i = 0 ∧ (s = 38 ∨ s = 39)) ∨ (k = 27 ∧ 15 ≤ i ∧ i ≤ 17 ∧ s = E.length)) I (sI (sI K 27 16 E.length x) 26 0 38 ((E.length : Int) + 1)) := f.trans ((Fm.sI (by decide) (by omega) (by omega) (Or.inr (Or.inr ⟨rfl, by decide, by decide, rfl⟩))).trans (Fm.sI (by decide) (by omega) (by omega) (Or.inr (Or.inl ⟨rfl, rfl, Or.inl rfl⟩))))
    have m8 : (sI (sI K 27 16 E.length x) 26 0 38 ((E.length : Int) + 1)) 26 0 38 = ((E.length + 1 : Nat) : Int) := by rw [sI_self]; rfl
    have m9 : (sI (sI K 27 16 E.length x) 26 0 38 ((E.length : Int) + 1)) 26 0 39 = ((c + 1 : Nat) : Int) := by rw [sI_ne (by omega), sI_ne (by omega)]; exact k9
    have m25 : (sI (sI K 27 16 E.length x) 26 0 38 ((E.length : Int) + 1)) 26 0 25 = K 26 0 25 := by rw [sI_ne (by omega), sI_ne (by omega)]
    have m15 : (sI (sI K 27 16 E.length x) 26 0 38 ((E.length : Int) + 1)) 27 15 E.length = oc (wd bs p) := by rw [sI_ne (by omega), sI_ne (by omega)]; exact k15
    have m16 : (sI (sI K 27 16 E.length x) 26 0 38 ((E.length : Int) + 1)) 27 16 E.length = x := by rw [sI_ne (by omega), sI_self]
    have m17 : (sI (sI K 27 16 E.length x) 26 0 38 ((E.length : Int) + 1)) 27 17 E.length = K 27 17 E.length := by rw [sI_ne (by omega), sI_ne (by omega)]
    have mT : ∀ q : Nat, TM K bs q → TM (sI (sI K 27 16 E.length x) 26 0 38 ((E.length : Int) + 1)) bs q := fun q hq => ⟨by rw [sI_ne (by omega), sI_ne (by omega)]; exact hq.1, by rw [sI_ne (by omega), sI_ne (by omega)]; exact hq.2.1, by rw [sI_ne (by omega), sI_ne (by omega)]; exact hq.2.2.1, fun z => by rw [sI_ne (by omega), sI_ne (by omega)]; exact hq.2.2.2 z⟩
    generalize sI (sI K 27 16 E.length x) 26 0 38 ((E.length : Int) + 1) = M at g1 m8 m9 m25 m15 m16 m17 mT
    have hBM : BfM M bs := hB.fm g1 (by unfold FMx; omega) (fun s => by unfold FMx; omega)
    cases o with
    | inl e =>
      have hE : ERR M := by unfold ERR; rw [m25]; exact ho.2
      rw [t_takesE hE, bnd_some, eo]
      exact tr_ret ⟨⟨by rw [m25]; exact ho.1, hE⟩, fsn g1⟩
    | inr t =>
      obtain ⟨h1, h2, h3, h4, h5, h6⟩ := ho
      refine tr_call (t_takesSign hBM hl hr h1 (mT _ h2) (by rw [m25]; exact h3) (c := 59) (k := 3) (by omega)) ?_
      rintro _ N ⟨y1, y2, f5⟩
      have gN := g1.trans (f5.mono (fun a b c z => Or.inl z))
      have nat : ∀ {k i s : Nat}, k ≠ 30 → ¬ FMx k i s → N k i s = M k i s := fun h1 h2 => f5.at h1 h2
      refine tr_ret ⟨?_, fsn gN⟩
      rw [eo]
      show OKn N bs (if tK bs t.2 = 3 then .inr (E ++ [t.1], c + 1, tE bs t.2) else .inl 1)
      by_cases q3 : tK bs t.2 = 3
      · rw [if_pos q3]
        obtain ⟨y3, y4⟩ := y1 q3
        refine h.add (hBM.mx f5) y3 (by rw [nat (by decide) (by unfold FMx; omega)]; exact m8) (by rw [nat (by decide) (by unfold FMx; omega)]; exact m9) y4 gN ⟨?_, fun z1 z2 => ?_, fun z => ?_⟩ (by omega) (by omega)
        · rw [nat (by decide) (by unfold FMx; omega), h4]; exact m15
        · rw [nat (by decide) (by unfold FMx; omega), m16]; exact h5 z1
        · rw [nat (by decide) (by unfold FMx; omega), m17]; exact h6 z
      · rw [if_neg q3]
        exact ⟨y2 q3, ERR.of (y2 q3) (by decide)⟩
  by_cases q7 : wd bs p = 7
  · have ef : f_M_firstHere (oc (wd bs p)) J3 = some (0, J3) := by
      unfold f_M_firstHere
      rw [show oc (wd bs p) = 11 by rw [q7]; rfl, if_neg (by decide), if_pos (by decide)]
    rw [ef, bnd_some]
    refine tail 0 J3 (.inr ((7, 0, 0), tE bs p)) (by omega) f13 c8 c9 c15 ⟨hE.2.1, hT3, he3, q7.symm, fun y => absurd rfl y, fun y => absurd (show (7 : Nat) = 8 ∨ (7 : Nat) = 10 from y) (by decide)⟩ ?_
    unfold ordP
    rw [if_neg q0, if_neg qc, if_pos q7]
  by_cases q8 : wd bs p = 8 ∨ wd bs p = 10
  · refine tr_call (t_mflet hL c8 hB3 hl hr hE.2.1 hT3 he3 q8) ?_
    rintro x J4 ⟨y1, y2, y3, f4⟩
    have f14 : Fm (fun k i s => FMx k i s ∨ (k = 26 ∧ i = 0 ∧ (s = 38 ∨ s = 39)) ∨ (k = 27 ∧ 15 ≤ i ∧ i ≤ 17 ∧ s = E.length)) I J4 := f13.trans (f4.mono (fun a b c z => z.elim Or.inl (fun y => Or.inr (Or.inr ⟨y.1, by omega, by omega, y.2.2⟩))))
    have k8 : J4 26 0 38 = (E.length : Int) := by rw [f4.at (by decide) (by unfold FMx; omega)]; exact c8
    have k9 : J4 26 0 39 = ((c + 1 : Nat) : Int) := by rw [f4.at (by decide) (by unfold FMx; omega)]; exact c9
    have k15 : J4 27 15 E.length = oc (wd bs p) := by rw [f4.at (by decide) (by unfold FMx; omega)]; exact c15
    by_cases z1 : tK bs (tE bs p) = 1
    · by_cases z2 : wd bs p = 8 ∧ tE bs (tE bs p) - tF bs (tE bs p) ≠ 2
      · refine tail x J4 (.inl 4) (by omega) f14 k8 k9 k15 ⟨y2 z1 z2, ERR.of (y2 z1 z2) (by decide)⟩ ?_
        unfold ordP
        rw [if_neg q0, if_neg qc, if_neg q7, if_pos q8, if_neg (fun z => z z1), if_pos z2]
      · obtain ⟨v1, v2, v3, v4⟩ := y3 z1 z2
        refine tail x J4 (.inr ((wd bs p, (tF bs (tE bs p) : Int), tE bs (tE bs p) - tF bs (tE bs p)), tE bs (tE bs p))) (by omega) f14 k8 k9 k15 ⟨hE2.2.1, v3, v4, rfl, fun _ => v1, fun _ => v2⟩ ?_
        unfold ordP
        rw [if_neg q0, if_neg qc, if_neg q7, if_pos q8, if_neg (fun z => z z1), if_neg z2]
    · refine tail x J4 (.inl 1) (by omega) f14 k8 k9 k15 ⟨y1 z1, ERR.of (y1 z1) (by decide)⟩ ?_
      unfold ordP
      rw [if_neg q0, if_neg qc, if_neg q7, if_pos q8, if_pos z1]
  refine tr_call (t_mfnum hB3 hl hr hE.2.1 hT3 he3 (w := wd bs p) (by omega)) ?_
  rintro x J4 ⟨y1, y2, f4⟩
  have f14 : Fm (fun k i s => FMx k i s ∨ (k = 26 ∧ i = 0 ∧ (s = 38 ∨ s = 39)) ∨ (k = 27 ∧ 15 ≤ i ∧ i ≤ 17 ∧ s = E.length)) I J4 := f13.trans (f4.mono (fun a b c z => Or.inl z))
  have k8 : J4 26 0 38 = (E.length : Int) := by rw [f4.at (by decide) (by unfold FMx; omega)]; exact c8
  have k9 : J4 26 0 39 = ((c + 1 : Nat) : Int) := by rw [f4.at (by decide) (by unfold FMx; omega)]; exact c9
  have k15 : J4 27 15 E.length = oc (wd bs p) := by rw [f4.at (by decide) (by unfold FMx; omega)]; exact c15
  by_cases q12 : wd bs p = 12
  · have e0 : ordP bs E c p = (if nbE bs (tE bs p) (wLow (wd bs p)) (wHig (wd bs p)) ≠ 0 then .inl (nbE bs (tE bs p) (wLow (wd bs p)) (wHig (wd bs p))) else if tK bs (tE bs (tE bs p)) = 4 ∧ 2 ≤ (enc E E.length).length then .inl 5 else if tK bs (tE bs (tE bs p)) ≠ 4 then .inl 1 else .inr (E ++ [(12, nV bs (tE bs p), 0)], c + 1, tE bs (tE bs (tE bs p)))) := by
      unfold ordP
      rw [if_neg q0, if_neg qc, if_neg q7, if_neg q8]
      by_cases qn : nbE bs (tE bs p) (wLow (wd bs p)) (wHig (wd bs p)) ≠ 0
      · rw [if_pos qn, if_pos qn]
      · rw [if_neg qn, if_neg qn, if_pos q12]
    rw [e0, if_pos (by omega), Int.toNat_natCast, q12]
    try dsimp only [ltI]
    rw [show oc 12 = 16 from rfl, if_pos rfl]
    have g1 : Fm (fun k i s => FMx k i s ∨ (k = 26 ∧ i = 0 ∧ (s = 38 ∨ s = 39)) ∨ (k = 27 ∧ 15 ≤ i ∧ i ≤ 17 ∧ s = E.length)) I (sI J4 27 16 E.length x) := f14.trans (Fm.sI (by decide) (by omega) (by omega) (Or.inr (Or.inr ⟨rfl, by decide, by decide, rfl⟩)))
    have ms : ∀ s : Nat, (sI J4 27 16 E.length x) 26 0 s = J4 26 0 s := fun s => sI_ne (by omega)
    have m16 : (sI J4 27 16 E.length x) 27 16 E.length = x := sI_self _ _ _ _ _
    have m15 : (sI J4 27 16 E.length x) 27 15 E.length = 16 := by rw [sI_ne (by omega), k15, q12]; rfl
    generalize sI J4 27 16 E.length x = M at g1 ms m16 m15
    have hBM : BfM M bs := hB.fm g1 (by unfold FMx; omega) (fun s => by unfold FMx; omega)
    rw [q12] at y1 y2
    by_cases qn : nbE bs (tE bs p) (wLow 12) (wHig 12) = 0
    · obtain ⟨v1, v2, v3⟩ := y1 qn
      have hTM : TM M bs (tE bs (tE bs p)) := ⟨by rw [ms]; exact v2.1, by rw [ms]; exact v2.2.1, by rw [ms]; exact v2.2.2.1, fun z => by rw [ms]; exact v2.2.2.2 z⟩
      have heM : M 26 0 25 = 0 := (ms 25).trans v3
      have hOM : OPm M E := ⟨by rw [g1.at (by decide) (by unfold FMx; omega)]; exact hO.1, fun d hd => by rw [g1.at (by decide) (by unfold FMx; omega)]; exact hO.2 d hd⟩
      rw [if_neg (fun z => z qn), m_isSign hBM hl hr hE2.2.1 hTM heM (c := 40) (k := 4) (by omega), bnd_some]
      have j129 : ¬ (tK bs (tE bs (tE bs p)) = 4 ∧ 2 ≤ (enc E E.length).length) → Tr (f_M_readsOrder_j129 M) (fun _ K => OKn K bs (if tK bs (tE bs (tE bs p)) ≠ 4 then .inl 1 else .inr (E ++ [(12, nV bs (tE bs p), 0)], c + 1, tE bs (tE bs (tE bs p)))) ∧ Fm FSn I K) := by
        intro hno
        unfold f_M_readsOrder_j129 f_M_readsOrder_j130
        rw [mf_0 heM (by decide), bnd_some, if_pos (by decide)]
        refine tr_call (t_takesSign hBM hl hr hE2.2.1 hTM heM (c := 40) (k := 4) (by omega)) ?_
        rintro _ N ⟨w1, w2, f5⟩
        have n10 : N 26 0 40 = ((enc E E.length).length : Int) := by rw [f5.at (by decide) (by unfold FMx; omega)]; exact hOM.1
        have n38 : N 26 0 38 = (E.length : Int) := by rw [f5.at (by decide) (by unfold FMx; omega), ms]; exact k8
        have emin : imn ((enc E E.length).length : Int) 1 = ((min (enc E E.length).length 1 : Nat) : Int) := by
          rw [show (1 : Int) = ((1 : Nat) : Int) from rfl, imn_nat _ _ (by omega) (by omega)]
        rw [n10, emin, w32_of (x := ((min (enc E E.length).length 1 : Nat) : Int)) (by omega) (by omega), if_pos (by omega), Int.toNat_natCast, n38]
        try dsimp only [ltI]
        rw [sI_ne (k' := 26) (s' := 40) (by omega), n10, sI_ne (k' := 26) (s' := 38) (by omega), sI_ne (k' := 26) (s' := 38) (by omega), n38]
        have g2 : Fm FSn N (sI (sI (sI N 27 19 (min (enc E E.length).length 1) (E.length : Int)) 26 0 40 (((enc E E.length).length : Int) + 1)) 26 0 38 ((E.length : Int) + 1)) := ((Fm.sI (by decide) (by omega) (by omega) (Or.inr (Or.inr ⟨rfl, by decide, by decide⟩))).trans (Fm.sI (by decide) (by omega) (by omega) (Or.inr (Or.inl ⟨rfl, rfl, by omega⟩)))).trans (Fm.sI (by decide) (by omega) (by omega) (Or.inr (Or.inl ⟨rfl, rfl, by omega⟩)))
        have gat : ∀ {k i s : Nat}, ¬ (k = 27 ∧ i = 19 ∧ s = min (enc E E.length).length 1) → ¬ (k = 26 ∧ i = 0 ∧ s = 40) → ¬ (k = 26 ∧ i = 0 ∧ s = 38) → (sI (sI (sI N 27 19 (min (enc E E.length).length 1) (E.length : Int)) 26 0 40 (((enc E E.length).length : Int) + 1)) 26 0 38 ((E.length : Int) + 1)) k i s = N k i s := fun h1 h2 h3 => by rw [sI_ne h3, sI_ne h2, sI_ne h1]
        have p38 : (sI (sI (sI N 27 19 (min (enc E E.length).length 1) (E.length : Int)) 26 0 40 (((enc E E.length).length : Int) + 1)) 26 0 38 ((E.length : Int) + 1)) 26 0 38 = ((E.length + 1 : Nat) : Int) := by rw [sI_self]; rfl
        have p40 : (sI (sI (sI N 27 19 (min (enc E E.length).length 1) (E.length : Int)) 26 0 40 (((enc E E.length).length : Int) + 1)) 26 0 38 ((E.length : Int) + 1)) 26 0 40 = (((enc E E.length).length + 1 : Nat) : Int) := by rw [sI_ne (by omega), sI_self]; rfl
        have p19 : (sI (sI (sI N 27 19 (min (enc E E.length).length 1) (E.length : Int)) 26 0 40 (((enc E E.length).length : Int) + 1)) 26 0 38 ((E.length : Int) + 1)) 27 19 (min (enc E E.length).length 1) = (E.length : Int) := by rw [sI_ne (by omega), sI_ne (by omega), sI_self]
        generalize sI (sI (sI N 27 19 (min (enc E E.length).length 1) (E.length : Int)) 26 0 40 (((enc E E.length).length : Int) + 1)) 26 0 38 ((E.length : Int) + 1) = R at g2 gat p38 p40 p19
        have gend : Fm FSn I R := (fsn g1).trans ((f5.mono fmx_sn).trans g2)
        refine tr_ret ⟨?_, gend⟩
        by_cases q4 : tK bs (tE bs (tE bs p)) = 4
        · obtain ⟨w3, w4⟩ := w1 q4
          have hl1 : (enc E E.length).length ≤ 1 := by
            refine Classical.byContradiction fun y => hno ⟨q4, by omega⟩
          have emin : min (enc E E.length).length 1 = (enc E E.length).length := by omega
          rw [emin] at gat p19
          have heq : enc (E ++ [((12, nV bs (tE bs p), 0) : EN)]) (E ++ [((12, nV bs (tE bs p), 0) : EN)]).length = E.length :: enc E E.length := by rw [enc_next, if_pos rfl]
          rw [if_neg (fun y => y q4)]
          have rIN : ∀ {k i s : Nat}, k ≠ 30 → ¬ FMx k i s → N k i s = M k i s := fun h1 h2 => f5.at h1 h2
          refine ⟨hB.sn gend, ?_, ?_, ⟨by rw [heq]; exact p40, fun d hd => ?_⟩, ?_, ?_⟩
          · exact ⟨by rw [gat (by omega) (by omega) (by omega)]; exact w3.1, by rw [gat (by omega) (by omega) (by omega)]; exact w3.2.1, by rw [gat (by omega) (by omega) (by omega)]; exact w3.2.2.1, fun z => by rw [gat (by omega) (by omega) (by omega)]; exact w3.2.2.2 z⟩
          · refine hSM.app p38 (fun j hj => ⟨?_, ?_, ?_⟩) ⟨?_, fun _ _ => ?_, fun y => absurd (show (12 : Nat) = 8 ∨ (12 : Nat) = 10 from y) (by decide)⟩ (fun k hk hw a t ee => ?_) (fun y => absurd (show (12 : Nat) = 13 from y) (by decide))
            · rw [gat (by omega) (by omega) (by omega), rIN (by decide) (by unfold FMx; omega), g1.at (by decide) (by unfold FMx; omega)]
            · rw [gat (by omega) (by omega) (by omega), rIN (by decide) (by unfold FMx; omega), g1.at (by decide) (by unfold FMx; omega)]
            · rw [gat (by omega) (by omega) (by omega), rIN (by decide) (by unfold FMx; omega), g1.at (by decide) (by unfold FMx; omega)]
            · rw [gat (by omega) (by omega) (by omega), rIN (by decide) (by unfold FMx; omega)]; exact m15
            · rw [gat (by omega) (by omega) (by omega), rIN (by decide) (by unfold FMx; omega), m16]; exact v1
            · rw [gat (by omega) (by omega) (by omega), rIN (by decide) (by unfold FMx; omega), g1.at (by decide) (by unfold FMx; omega)]
          · rw [heq] at hd ⊢
            have hd : d < (enc E E.length).length + 1 := hd
            show R 27 19 d = (((E.length :: enc E E.length).getD ((enc E E.length).length + 1 - 1 - d) 0 : Nat) : Int)
            by_cases qd : d = (enc E E.length).length
            · rw [qd, p19, show (enc E E.length).length + 1 - 1 - (enc E E.length).length = 0 by omega]
              rfl
            · rw [gat (by omega) (by omega) (by omega), rIN (by decide) (by unfold FMx; omega), hOM.2 d (by omega)]
              obtain ⟨u, hu⟩ : ∃ u : Nat, (enc E E.length).length + 1 - 1 - d = u + 1 := ⟨(enc E E.length).length - 1 - d, by omega⟩
              rw [hu, show (enc E E.length).length - 1 - d = u by omega]
              rfl
          · show R 26 0 39 = ((c + 1 : Nat) : Int)
            rw [gat (by omega) (by omega) (by omega), rIN (by decide) (by unfold FMx; omega), ms]
            exact k9
          · rw [gat (by omega) (by omega) (by omega)]; exact w4
        · rw [if_pos q4]
          have e25 : R 26 0 25 = 1 := by rw [gat (by omega) (by omega) (by omega)]; exact w2 q4
          exact ⟨e25, ERR.of e25 (by decide)⟩
      by_cases q4 : tK bs (tE bs (tE bs p)) = 4
      · rw [if_neg (wb_pos q4), hOM.1, w32_of (x := ((enc E E.length).length : Int)) (by omega) (by omega)]
        by_cases q2 : 2 ≤ (enc E E.length).length
        · rw [if_pos (by omega), if_pos ⟨q4, q2⟩]
          unfold f_M_readsOrder_j130
          refine tr_call (mf_1 heM (by decide) (by decide)) ?_
          rintro x K ⟨rfl, b, f⟩
          rw [if_neg (by decide)]
          exact tr_ret ⟨⟨b, ERR.of b (by decide)⟩, (fsn g1).trans (f.mono fem_sn)⟩
        · rw [if_neg (by omega), if_neg (fun y => q2 y.2)]
          exact j129 (fun y => q2 y.2)
      · rw [if_pos (wb_neg q4), if_neg (fun y => q4 y.1)]
        exact j129 (fun y => q4 y.1)
    · have heM : M 26 0 25 = nbE bs (tE bs p) (wLow 12) (wHig 12) := (ms 25).trans (y2 qn)
      have hEM : ERR M := ERR.of heM (nbE_err qn)
      rw [if_pos qn, m_isSignE hEM.ne, bnd_some, if_pos (by decide)]
      unfold f_M_readsOrder_j129 f_M_readsOrder_j130
      rw [mf_E hEM.ne, bnd_some, if_neg (by decide)]
      exact tr_ret ⟨⟨heM, hEM⟩, fsn g1⟩
  · by_cases qn : nbE bs (tE bs p) (wLow (wd bs p)) (wHig (wd bs p)) = 0
    · obtain ⟨v1, v2, v3⟩ := y1 qn
      refine tail x J4 (.inr ((wd bs p, nV bs (tE bs p), 0), tE bs (tE bs p))) q12 f14 k8 k9 k15 ⟨hE2.2.1, v2, v3, rfl, fun _ => v1, fun y => absurd y q8⟩ ?_
      unfold ordP
      rw [if_neg q0, if_neg qc, if_neg q7, if_neg q8, if_neg (fun z => z qn), if_neg q12]
    · refine tail x J4 (.inl (nbE bs (tE bs p) (wLow (wd bs p)) (wHig (wd bs p)))) q12 f14 k8 k9 k15 ⟨y2 qn, ERR.of (y2 qn) (nbE_err qn)⟩ ?_
      unfold ordP
      rw [if_neg q0, if_neg qc, if_neg q7, if_neg q8, if_pos qn]
end MSCR
end
section
/-! ===== scripts: the reference reads, second part ===== -/
section MSCR2
variable {I J : Mem} {bs : List Int} {E : List EN} {c p : Nat}
theorem closes_err (he : ERR I) : whl f_M_closes_w0 () I = some ((), I) := by
  rw [whl_eq]
  unfold f_M_closes_w0
  by_cases q : 0 < w32 (I 26 0 40)
  · rw [if_pos q, m_isSignE he.ne, bnd_some, if_pos (by decide)]
  · rw [if_neg q]
theorem script_err (he : ERR I) : whl f_M_script_w29 () I = some ((), I) := by
  rw [whl_eq]
  unfold f_M_script_w29
  rw [if_neg he.ne]
def OKend (K : Mem) (bs : List Int) : Int ⊕ PS → Prop
  | .inl e => (K 26 0 25 = e ∧ ERR K) ∨ (e = 1 ∧ K 26 0 25 = 0 ∧ 0 < w32 (K 26 0 40))
  | .inr s => PMl K bs s.1 s.2.1 s.2.2 ∧ enc s.1 s.1.length = []
theorem t_mclose1 (hl : bs.length ≤ 600) (hr : ∀ b ∈ bs, 1 ≤ b ∧ b ≤ 255) (hS : SEI bs E c p) (h : PMl I bs E c p) (hne : enc E E.length ≠ []) (h5 : tK bs p = 5) : Tr (f_M_closes_w0 () I) (fun x K => x = .inl () ∧ OKn K bs (cloP bs E c p) ∧ Fm FSn I K) := by
  obtain ⟨hB, hT, hSM, hO, h9, he⟩ := id h
  have hp := hS.1
  have hE := tE_le hp
  have hE2 := tE_le hE.2.1
  have hc30 := hS.2.1
  have hcc := hS.2.2.1
  have h22 := hS.2.2.2.1 E.length (Nat.le_refl _)
  have hpos := List.length_pos_iff.mpr hne
  obtain ⟨a, t, ha⟩ : ∃ a t, enc E E.length = a :: t := by
    cases hx : enc E E.length with
    | nil => exact absurd hx hne
    | cons a t => exact ⟨a, t, rfl⟩
  obtain ⟨ha1, ha2, ha3⟩ := enc_cons _ _ _ ha
  have hL : E.length < 60 := by omega
  unfold f_M_closes_w0
  rw [hO.1, w32_of (x := ((enc E E.length).length : Int)) (by omega) (by omega), if_pos (by omega), m_isSign hB hl hr hp hT he (c := 41) (k := 5) (by omega), bnd_some, if_neg (wb_pos h5)]
  try dsimp only [ltI]
  rw [hO.1]
  have f1 : Fm (fun k i s => k = 26 ∧ i = 0 ∧ s = 40) I (sI I 26 0 40 (((enc E E.length).length : Int) - 1)) := Fm.sI (by decide) (by omega) (by omega) ⟨rfl, rfl, rfl⟩
  have a10 : (sI I 26 0 40 (((enc E E.length).length : Int) - 1)) 26 0 40 = (((enc E E.length).length - 1 : Nat) : Int) := by rw [sI_self]; omega
  generalize sI I 26 0 40 (((enc E E.length).length : Int) - 1) = J1 at f1 a10
  have hO1 : J1 27 19 ((enc E E.length).length - 1) = (a : Int) := by
    rw [f1.at (by decide) (by omega), hO.2 _ (by omega), show (enc E E.length).length - 1 - ((enc E E.length).length - 1) = 0 by omega, ha]
    rfl
  have k38 : J1 26 0 38 = (E.length : Int) := by rw [f1.at (by decide) (by omega)]; exact hSM.1
  rw [a10, w32_of (x := (((enc E E.length).length - 1 : Nat) : Int)) (by omega) (by omega), if_pos (by omega), Int.toNat_natCast, hO1, w32_of (x := (a : Int)) (by omega) (by omega), if_pos (by omega), Int.toNat_natCast, k38]
  have e38 : (sI J1 27 18 a (E.length : Int)) 26 0 38 = (E.length : Int) := by rw [sI_ne (by omega)]; exact k38
  try dsimp only [ltI]
  rw [e38, w32_of (x := (E.length : Int)) (by omega) (by omega), if_pos (by omega), Int.toNat_natCast]
  try dsimp only [ltI]
  rw [sI_ne (k' := 26) (s' := 38) (by omega), e38]
  have f2 : Fm (fun k i s => (k = 27 ∧ i = 18 ∧ s = a) ∨ (k = 27 ∧ i = 15 ∧ s = E.length) ∨ (k = 26 ∧ i = 0 ∧ s = 38)) J1 (sI (sI (sI J1 27 18 a (E.length : Int)) 27 15 E.length 17) 26 0 38 ((E.length : Int) + 1)) := ((Fm.sI (by decide) (by omega) (by omega) (Or.inl ⟨rfl, rfl, rfl⟩)).trans (Fm.sI (by decide) (by omega) (by omega) (Or.inr (Or.inl ⟨rfl, rfl, rfl⟩)))).trans (Fm.sI (by decide) (by omega) (by omega) (Or.inr (Or.inr ⟨rfl, rfl, rfl⟩)))
  have b8 : (sI (sI (sI J1 27 18 a (E.length : Int)) 27 15 E.length 17) 26 0 38 ((E.length : Int) + 1)) 26 0 38 = ((E.length + 1 : Nat) : Int) := by rw [sI_self]; rfl
  have b18 : (sI (sI (sI J1 27 18 a (E.length : Int)) 27 15 E.length 17) 26 0 38 ((E.length : Int) + 1)) 27 18 a = (E.length : Int) := by rw [sI_ne (by omega), sI_ne (by omega), sI_self]
  have b15 : (sI (sI (sI J1 27 18 a (E.length : Int)) 27 15 E.length 17) 26 0 38 ((E.length : Int) + 1)) 27 15 E.length = 17 := by rw [sI_ne (by omega), sI_self]
  generalize sI (sI (sI J1 27 18 a (E.length : Int)) 27 15 E.length 17) 26 0 38 ((E.length : Int) + 1) = J2 at f2 b8 b18 b15
  have f12 : Fm (fun k i s => (k = 27 ∧ i = 18 ∧ s = a) ∨ (k = 27 ∧ i = 15 ∧ s = E.length) ∨ (k = 26 ∧ i = 0 ∧ (s = 38 ∨ s = 40))) I J2 := (f1.mono (fun a b c z => Or.inr (Or.inr ⟨z.1, z.2.1, Or.inr z.2.2⟩))).trans (f2.mono (fun a b c z => by
    rcases z with z | z | z
    · exact Or.inl z
    · exact Or.inr (Or.inl z)
    · exact Or.inr (Or.inr ⟨z.1, z.2.1, Or.inl z.2.2⟩)))
  have hB2 : BfM J2 bs := hB.fm f12 (by omega) (fun s => by omega)
  have hT2 : TM J2 bs p := hT.fm f12 (fun s _ _ => by omega)
  refine tr_call (tm_advS hB2 hl hr hp hT2) ?_
  rintro _ J3 ⟨t3, e3, f3⟩
  have he3 : J3 26 0 25 = 0 := by rw [e3, f12.at (by decide) (by omega)]; exact he
  refine tr_call (t_takesSign (hB2.mx f3) hl hr hE.2.1 t3 he3 (c := 59) (k := 3) (by omega)) ?_
  rintro _ J4 ⟨w1, w2, f4⟩
  have f34 := f3.trans f4
  have fend : Fm FSn I J4 := (f12.mono (fun a b c z => by
    rcases z with z | z | z
    · exact Or.inr (Or.inr ⟨z.1, by omega, by omega⟩)
    · exact Or.inr (Or.inr ⟨z.1, by omega, by omega⟩)
    · exact Or.inr (Or.inl ⟨z.1, z.2.1, by omega⟩))).trans (f34.mono fmx_sn)
  refine tr_ret ⟨rfl, ?_, fend⟩
  unfold cloP
  by_cases q3 : tK bs (tE bs p) = 3
  · rw [if_pos q3]
    obtain ⟨w3, w4⟩ := w1 q3
    have heq : enc (E ++ [((13, 0, 0) : EN)]) (E ++ [((13, 0, 0) : EN)]).length = t := by
      rw [enc_next, if_neg (by decide), if_pos rfl, ha]
      rfl
    have atJ : ∀ {k i s : Nat}, k ≠ 30 → ¬ FMx k i s → J4 k i s = J2 k i s := fun h1 h2 => f34.at h1 h2
    have htl : (enc E E.length).length = t.length + 1 := by rw [ha]; rfl
    refine ⟨hB2.mx f34, w3, ?_, ?_, ?_, w4⟩
    · refine hSM.app ?_ (fun j hj => ⟨?_, ?_, ?_⟩) ⟨?_, fun _ y => absurd rfl y, fun y => absurd (show (13 : Nat) = 8 ∨ (13 : Nat) = 10 from y) (by decide)⟩ (fun k hk hw a' t' ee => ?_) (fun _ a' t' ee => ?_)
      · rw [atJ (by decide) (by unfold FMx; omega)]; exact b8
      · rw [atJ (by decide) (by unfold FMx; omega), f12.at (by decide) (by omega)]
      · rw [atJ (by decide) (by unfold FMx; omega), f12.at (by decide) (by omega)]
      · rw [atJ (by decide) (by unfold FMx; omega), f12.at (by decide) (by omega)]
      · rw [atJ (by decide) (by unfold FMx; omega)]; exact b15
      · have hg := enc_gone hw ee E.length hk
        have n1 : a' ≠ a := fun y => hg (by rw [y, ha]; exact List.mem_cons_self)
        rw [atJ (by decide) (by unfold FMx; omega), f12.at (by decide) (by omega)]
      · rw [ha] at ee
        cases ee
        rw [atJ (by decide) (by unfold FMx; omega)]; exact b18
    · refine ⟨by rw [heq, atJ (by decide) (by unfold FMx; omega), f2.at (by decide) (by omega), a10, htl]; rfl, fun d hd => ?_⟩
      rw [heq] at hd ⊢
      rw [atJ (by decide) (by unfold FMx; omega), f12.at (by decide) (by omega), hO.2 d (by omega), ha]
      show (((a :: t).getD (t.length + 1 - 1 - d) 0 : Nat) : Int) = _
      obtain ⟨u, hu⟩ : ∃ u : Nat, t.length + 1 - 1 - d = u + 1 := ⟨t.length - 1 - d, by omega⟩
      rw [hu, show t.length - 1 - d = u by omega]
      rfl
    · show J4 26 0 39 = (c : Int)
      rw [atJ (by decide) (by unfold FMx; omega), f12.at (by decide) (by omega)]
      exact h9
  · rw [if_neg q3]
    exact ⟨w2 q3, ERR.of (w2 q3) (by decide)⟩
theorem t_mscrL (hl : bs.length ≤ 600) (hr : ∀ b ∈ bs, 1 ≤ b ∧ b ≤ 255) {I0 : Mem} : ∀ (n : Nat) (E : List EN) (c p : Nat) (I : Mem), Fm FSn I0 I → bs.length - p < n → SEI bs E c p → PMl I bs E c p → Tr (whl f_M_closes_w0 () I) (fun _ K => Tr (whl f_M_script_w29 () K) (fun _ K => OKend K bs (scr bs n E c p) ∧ Fm FSn I0 K)) := by
  intro n
  induction n with
  | zero => intro E c p I _ h; omega
  | succ n ih =>
    intro E c p I f0 hn hS h
    obtain ⟨hB, hT, hSM, hO, h9, he⟩ := id h
    have hp := hS.1
    have h22 := hS.2.2.2.1 E.length (Nat.le_refl _)
    have e0 : scr bs (n + 1) E c p = (if enc E E.length = [] ∧ tK bs p = 0 then .inr (E, c, p) else (match (if enc E E.length ≠ [] ∧ tK bs p = 5 then cloP bs E c p else ordP bs E c p) with
      | .inl e => .inl e
      | .inr s => scr bs n s.1 s.2.1 s.2.2)) := rfl
    have hlen0 : (enc E E.length).length = 0 ↔ enc E E.length = [] := List.length_eq_zero_iff
    -- behind an error
    have bad : ∀ (K : Mem) (e : Int), Fm FSn I0 K → K 26 0 25 = e ∧ ERR K → scr bs (n + 1) E c p = .inl e → Tr (whl f_M_closes_w0 () K) (fun _ K => Tr (whl f_M_script_w29 () K) (fun _ K => OKend K bs (scr bs (n + 1) E c p) ∧ Fm FSn I0 K)) := by
      intro K e fK hK es
      rw [closes_err hK.2, es]
      refine tr_ret ?_
      rw [script_err hK.2]
      exact tr_ret ⟨Or.inl hK, fK⟩
    by_cases q5 : enc E E.length ≠ [] ∧ tK bs p = 5
    · -- a close
      have e1 : scr bs (n + 1) E c p = (match cloP bs E c p with
        | .inl e => .inl e
        | .inr s => scr bs n s.1 s.2.1 s.2.2) := by rw [e0, if_neg (fun y => q5.1 y.1), if_pos q5]
      refine tr_step ?_
      refine tr_mono (t_mclose1 hl hr hS h q5.1 q5.2) ?_
      rintro x K ⟨rfl, hk, f⟩
      show Tr (whl f_M_closes_w0 () K) _
      cases hc : cloP bs E c p with
      | inl e =>
        rw [hc] at hk e1
        exact bad K e (f0.trans f) hk e1
      | inr s =>
        rw [hc] at hk e1
        obtain ⟨s1, s2⟩ := cloP_inv hS q5.1 q5.2 hc
        rw [e1]
        exact ih s.1 s.2.1 s.2.2 K (f0.trans f) (by have := s1.1; omega) s1 hk
    · -- none: on to an order
      have stop : whl f_M_closes_w0 () I = some ((), I) := by
        rw [whl_eq]
        unfold f_M_closes_w0
        rw [hO.1, w32_of (x := ((enc E E.length).length : Int)) (by omega) (by omega)]
        by_cases q : enc E E.length = []
        · rw [if_neg (by have := hlen0.mpr q; omega)]
        · rw [if_pos (by have := List.length_pos_iff.mpr q; omega), m_isSign hB hl hr hp hT he (c := 41) (k := 5) (by omega), bnd_some, if_pos (wb_neg (fun y => q5 ⟨q, y⟩))]
      rw [stop]
      refine tr_ret ?_
      by_cases q0 : tK bs p = 0
      · rw [whl_eq]
        unfold f_M_script_w29
        rw [he, if_pos (by decide), hT.1, if_pos ((km_0 bs p).mpr q0)]
        refine tr_ret ⟨?_, f0⟩
        by_cases q : enc E E.length = []
        · rw [e0, if_pos ⟨q, q0⟩]
          exact ⟨h, q⟩
        · have hw : wd bs p = 14 := by unfold wd; rw [if_neg (by omega)]
          have eo : ordP bs E c p = .inl 1 := by unfold ordP; rw [if_pos (by rw [hw]; rfl)]
          rw [e0, if_neg (fun y => q y.1), if_neg q5, eo]
          refine Or.inr ⟨rfl, he, ?_⟩
          rw [hO.1, w32_of (x := ((enc E E.length).length : Int)) (by omega) (by omega)]
          have := List.length_pos_iff.mpr q
          omega
      · have e1 : scr bs (n + 1) E c p = (match ordP bs E c p with
          | .inl e => .inl e
          | .inr s => scr bs n s.1 s.2.1 s.2.2) := by rw [e0, if_neg (fun y => q0 y.2), if_neg q5]
        refine tr_step ?_
        unfold f_M_script_w29
        rw [he, if_pos (by decide), hT.1, if_neg (fun y => q0 ((km_0 bs p).mp y))]
        refine tr_call (t_mreadsOrder hl hr hS h) ?_
        rintro _ K ⟨hk, f⟩
        have go : Tr (whl f_M_closes_w0 () K) (fun _ K => Tr (whl f_M_script_w29 () K) (fun _ K => OKend K bs (scr bs (n + 1) E c p) ∧ Fm FSn I0 K)) := by
          cases hc : ordP bs E c p with
          | inl e =>
            rw [hc] at hk e1
            exact bad K e (f0.trans f) hk e1
          | inr s =>
            rw [hc] at hk e1
            obtain ⟨s1, s2⟩ := ordP_inv hS hc
            rw [e1]
            exact ih s.1 s.2.1 s.2.2 K (f0.trans f) (by have := s1.1; omega) s1 hk
        unfold f_M_closes
        refine tr_call (P := fun _ K => Tr (whl f_M_script_w29 () K) (fun _ K => OKend K bs (scr bs (n + 1) E c p) ∧ Fm FSn I0 K)) (tr_call go (fun _ K z => tr_ret z)) ?_
        intro _ K z
        exact tr_ret z
theorem t_mscript (hl : bs.length ≤ 600) (hr : ∀ b ∈ bs, 1 ≤ b ∧ b ≤ 255) (hB : BfM I bs) : Tr (f_M_script I) (fun _ K => OKn K bs (scr bs 601 [] 0 0) ∧ Fm FSn I K) := by
  unfold f_M_script
  try dsimp only [ltI]
  have f1 : Fm FSn I (sI (sI (sI (sI (sI I 26 0 22 0) 26 0 25 0) 26 0 38 0) 26 0 39 0) 26 0 40 0) := ((((Fm.sI (by decide) (by omega) (by omega) (Or.inl ⟨rfl, rfl, by omega, by omega⟩)).trans (Fm.sI (by decide) (by omega) (by omega) (Or.inl ⟨rfl, rfl, by omega, by omega⟩))).trans (Fm.sI (by decide) (by omega) (by omega) (Or.inr (Or.inl ⟨rfl, rfl, by omega⟩)))).trans (Fm.sI (by decide) (by omega) (by omega) (Or.inr (Or.inl ⟨rfl, rfl, by omega⟩)))).trans (Fm.sI (by decide) (by omega) (by omega) (Or.inr (Or.inl ⟨rfl, rfl, by omega⟩)))
  have a22 : (sI (sI (sI (sI (sI I 26 0 22 0) 26 0 25 0) 26 0 38 0) 26 0 39 0) 26 0 40 0) 26 0 22 = ((0 : Nat) : Int) := by rw [sI_ne (by omega), sI_ne (by omega), sI_ne (by omega), sI_ne (by omega), sI_self]; rfl
  have a25 : (sI (sI (sI (sI (sI I 26 0 22 0) 26 0 25 0) 26 0 38 0) 26 0 39 0) 26 0 40 0) 26 0 25 = 0 := by rw [sI_ne (by omega), sI_ne (by omega), sI_ne (by omega), sI_self]
  have a38 : (sI (sI (sI (sI (sI I 26 0 22 0) 26 0 25 0) 26 0 38 0) 26 0 39 0) 26 0 40 0) 26 0 38 = 0 := by rw [sI_ne (by omega), sI_ne (by omega), sI_self]
  have a39 : (sI (sI (sI (sI (sI I 26 0 22 0) 26 0 25 0) 26 0 38 0) 26 0 39 0) 26 0 40 0) 26 0 39 = 0 := by rw [sI_ne (by omega), sI_self]
  have a40 : (sI (sI (sI (sI (sI I 26 0 22 0) 26 0 25 0) 26 0 38 0) 26 0 39 0) 26 0 40 0) 26 0 40 = 0 := sI_self _ _ _ _ _
  generalize sI (sI (sI (sI (sI I 26 0 22 0) 26 0 25 0) 26 0 38 0) 26 0 39 0) 26 0 40 0 = J1 at f1 a22 a25 a38 a39 a40
  have hB1 : BfM J1 bs := hB.sn f1
  refine tr_call (tm_adv hB1 hl hr (p := 0) (Nat.zero_le _) a22) ?_
  rintro _ J2 ⟨t2, f2⟩
  have k2 : ∀ s : Nat, 24 < s → J2 26 0 s = J1 26 0 s := fun s hs => f2.at (by decide) (by unfold FAm; omega)
  have hP : PMl J2 bs [] 0 0 := ⟨hB1.mx (f2.mono fam_mx), t2, ⟨by rw [k2 _ (by decide)]; exact a38, fun j hj => absurd hj (Nat.not_lt_zero j), fun k hk => absurd hk (Nat.not_lt_zero k)⟩, ⟨by rw [k2 _ (by decide)]; exact a40, fun d hd => absurd hd (Nat.not_lt_zero d)⟩, by rw [k2 _ (by decide)]; exact a39, by rw [k2 _ (by decide)]; exact a25⟩
  have f12 : Fm FSn I J2 := f1.trans (f2.mono (fun a b c z => fmx_sn _ _ _ (fam_mx _ _ _ z)))
  have stop : whl f_M_closes_w0 () J2 = some ((), J2) := by
    rw [whl_eq]
    unfold f_M_closes_w0
    rw [k2 _ (by decide), a40, if_neg (by decide)]
  have hL := t_mscrL hl hr 601 [] 0 0 J2 f12 (by omega) SEI.nil hP
  rw [stop] at hL
  obtain ⟨_, J2', e2, hL⟩ := hL
  cases e2
  refine tr_call hL ?_
  rintro _ J3 ⟨ok, f3⟩
  have s31 : ∀ (M : Mem) (v : Int), Fm FSn M (sI M 26 0 31 v) := fun M v => Fm.sI (by decide) (by omega) (by omega) (Or.inr (Or.inl ⟨rfl, rfl, Or.inl rfl⟩))
  have m31 : ∀ (M : Mem) (v : Int) (s : Nat), s ≠ 31 → (sI M 26 0 31 v) 26 0 s = M 26 0 s := fun M v s hs => sI_ne (by omega)
  cases hc : scr bs 601 [] 0 0 with
  | inl e =>
    rw [hc] at ok
    by_cases z : ERR J3
    · have hz : J3 26 0 25 = e := by
        rcases ok with y | y
        · exact y.1
        · unfold ERR at z; have := y.2.1; omega
      rw [mf_E z.ne, bnd_some, if_pos (Or.inr rfl)]
      try dsimp only [ltI]
      exact tr_ret ⟨⟨by rw [m31 _ _ _ (by decide)]; exact hz, by unfold ERR; rw [m31 _ _ _ (by decide)]; exact z⟩, f3.trans (s31 _ _)⟩
    · obtain ⟨rfl, y2, y3⟩ := ok.resolve_left (fun y => z y.2)
      rw [if_pos y3]
      refine tr_call (mf_1 y2 (by decide) (by decide)) ?_
      rintro x K ⟨rfl, b, f⟩
      rw [if_pos (Or.inr rfl)]
      try dsimp only [ltI]
      exact tr_ret ⟨⟨by rw [m31 _ _ _ (by decide)]; exact b, ERR.of (c := 1) (by rw [m31 _ _ _ (by decide)]; exact b) (by decide)⟩, (f3.trans (f.mono fem_sn)).trans (s31 _ _)⟩
  | inr s =>
    rw [hc] at ok
    obtain ⟨⟨oB, oT, oS, oO, o9, oe⟩, on⟩ := ok
    have h0 : J3 26 0 40 = 0 := by have := oO.1; rw [on] at this; exact this
    rw [h0, if_neg (by decide), mf_0 oe (by decide), bnd_some, if_pos (Or.inl rfl)]
    try dsimp only [ltI]
    have fx : Fm (fun k i s => k = 26 ∧ i = 0 ∧ s = 31) J3 (sI J3 26 0 31 0) := Fm.sI (by decide) (by omega) (by omega) ⟨rfl, rfl, rfl⟩
    refine tr_ret ⟨⟨oB.fm fx (by omega) (fun s => by omega), oT.fm fx (fun s _ _ => by omega), ⟨by rw [m31 _ _ _ (by decide)]; exact oS.1, fun j hj => ?_, fun k hk hw a t ee => ?_⟩, ⟨by rw [m31 _ _ _ (by decide)]; exact oO.1, fun d hd => by rw [fx.at (by decide) (by omega)]; exact oO.2 d hd⟩, by rw [m31 _ _ _ (by decide)]; exact o9, by rw [m31 _ _ _ (by decide)]; exact oe⟩, f3.trans (s31 _ _)⟩
    · obtain ⟨y1, y2, y3⟩ := oS.2.1 j hj
      exact ⟨by rw [fx.at (by decide) (by omega)]; exact y1, fun z1 z2 => by rw [fx.at (by decide) (by omega)]; exact y2 z1 z2, fun z => by rw [fx.at (by decide) (by omega)]; exact y3 z⟩
    · rw [fx.at (by decide) (by omega)]
      exact oS.2.2 k hk hw a t ee
end MSCR2
end
section
/-! ===== scripts: one order, on both sides ===== -/
def apL : List Int → GS → GS × Bool
  | [], g => (g, true)
  | x :: xs, g => if (gT g).length < 400 then apL xs (gAppend g x) else (g, false)
noncomputable def dO (bs : List Int) (e : EN) (g : GS) : GS × Bool :=
  if e.1 = 6 then ((stepsG e.2.1.toNat g).2, true)
  else if e.1 = 7 then ((inlG 40 g).2, true)
  else if e.1 = 8 then (mkS g (bs.getD e.2.1.toNat 0 - 97) (bs.getD (e.2.1.toNat + 1) 0 - 97), decide (0 ≤ mkC g (bs.getD e.2.1.toNat 0 - 97) (bs.getD (e.2.1.toNat + 1) 0 - 97)))
  else if e.1 = 9 then (if gR g (e.2.1.toNat + 1) = [] then (g, false) else (gDis g e.2.1.toNat 4, true))
  else if e.1 = 10 then apL (letL ((bs.drop e.2.1.toNat).take e.2.2)) g
  else if e.1 = 11 then (if e.2.1.toNat < (gT g).length then (gCut g e.2.1.toNat, true) else (g, false))
  else (gsN g (e.1 - 3) e.2.1, true)
theorem apL_wf : ∀ {l : List Int} {g : GS}, WF g → (∀ x ∈ l, 0 ≤ x ∧ x < 26) → WF (apL l g).1
  | [], g, w, _ => w
  | x :: xs, g, w, h => by
    show WF (if (gT g).length < 400 then apL xs (gAppend g x) else (g, false)).1
    by_cases q : (gT g).length < 400
    · rw [if_pos q]
      exact apL_wf (w.app q (h x List.mem_cons_self)) (fun y hy => h y (List.mem_cons_of_mem _ hy))
    · rw [if_neg q]; exact w
theorem gd_ge {l : List Int} {j : Nat} (hj : j < l.length) : l.getD j 0 = l[j] := by simp [List.getD_eq_getElem?_getD, hj]
theorem lts_rng {bs : List Int} {f m : Nat} (hf : f + m ≤ bs.length) (h : ∀ j : Nat, j < m → 97 ≤ bs.getD (f + j) 0 ∧ bs.getD (f + j) 0 ≤ 122) : ∀ x ∈ letL ((bs.drop f).take m), 0 ≤ x ∧ x < 26 := by
  intro x hx
  obtain ⟨b, hb, rfl⟩ := List.mem_map.mp hx
  obtain ⟨j, hj, e⟩ := List.getElem_of_mem hb
  have hl : ((bs.drop f).take m).length = m := by rw [List.length_take, List.length_drop]; omega
  have e2 : ((bs.drop f).take m).getD j 0 = b := by rw [← e]; exact gd_ge hj
  rw [gd_take (by omega), gd_drop] at e2
  have := h j (by omega)
  rw [e2] at this
  omega
theorem dO_wf {bs : List Int} {e : EN} {g : GS} (w : WF g) (v : VE bs e) (h12 : e.1 ≠ 12) (h13 : e.1 ≠ 13) : WF (dO bs e g).1 := by
  obtain ⟨v1, v2, v3, v4⟩ := v
  unfold dO
  by_cases q6 : e.1 = 6
  · rw [if_pos q6]; exact stepsG_wf _ w
  rw [if_neg q6]
  by_cases q7 : e.1 = 7
  · rw [if_pos q7]; exact (mu_inl 40 w).2
  rw [if_neg q7]
  by_cases q8 : e.1 = 8
  · rw [if_pos q8]
    obtain ⟨f, f1, f2, f3, f4, f5⟩ := v3 (Or.inl q8)
    have h2 := f5 q8
    have a := f4 0 (by omega)
    have b := f4 1 (by omega)
    rw [f1, Int.toNat_natCast]
    rw [Nat.add_zero] at a
    exact w.mkS (by omega) (by omega)
  rw [if_neg q8]
  by_cases q9 : e.1 = 9
  · rw [if_pos q9]
    have v5 := v4 q7 q8 (by omega) h13
    rw [q9] at v5
    have : wHig 9 = 39 := rfl
    have : wLow 9 = 0 := rfl
    by_cases z : gR g (e.2.1.toNat + 1) = []
    · rw [if_pos z]; exact w
    · rw [if_neg z]; exact w.dis (by omega) z 4
  rw [if_neg q9]
  by_cases q10 : e.1 = 10
  · rw [if_pos q10]
    obtain ⟨f, f1, f2, f3, f4, f5⟩ := v3 (Or.inr q10)
    rw [f1, Int.toNat_natCast]
    exact apL_wf w (lts_rng f2 f4)
  rw [if_neg q10]
  by_cases q11 : e.1 = 11
  · rw [if_pos q11]
    by_cases z : e.2.1.toNat < (gT g).length
    · rw [if_pos z]; exact w.cut z
    · rw [if_neg z]; exact w
  rw [if_neg q11]
  have v5 := v4 q7 q8 q10 h13
  clear v3 v4
  rcases (show e.1 = 3 ∨ e.1 = 4 ∨ e.1 = 5 by omega) with z | z | z <;> rw [z] at v5 ⊢
  · exact WF_gN w ⟨fun _ => ⟨v5.1, v5.2⟩, fun q => absurd q (by decide), fun q => absurd q (by decide)⟩
  · exact WF_gN w ⟨fun q => absurd q (by decide), fun _ => ⟨v5.1, v5.2⟩, fun q => absurd q (by decide)⟩
  · exact WF_gN w ⟨fun q => absurd q (by decide), fun q => absurd q (by decide), fun _ => ⟨v5.1, v5.2⟩⟩
section ORD
variable {I J : Mem} {g g' : GS} {ps : List GS} {kp : Nat → Option GS} {bs rp : List Int} {E : List EN} {k : Nat}
theorem c_isEntry (h : SCl I E) (hl : E.length ≤ 60) (hk : k < E.length) : f_Scr_isEntry (k : Int) I = some (1, I) := by
  unfold f_Scr_isEntry
  rw [h.1, w32_of (x := (k : Int)) (by omega) (by omega), w32_of (x := (E.length : Int)) (by omega) (by omega), if_neg (by omega), if_pos (by omega)]
theorem c_scrWord (h : SCl I E) (hl : E.length ≤ 60) (hk : k < E.length) (hw : (eD E k).1 < 15) : f_Scr_word (k : Int) I = some ((eD E k).1, I) := by
  unfold f_Scr_word
  rw [c_isEntry h hl hk, bnd_some, if_neg (by decide), w32_of (x := (k : Int)) (by omega) (by omega), if_pos (by omega), Int.toNat_natCast, (h.2.1 k hk).1, Int.toNat_natCast, if_pos hw]
theorem c_scrNum (h : SCl I E) (hl : E.length ≤ 60) (hk : k < E.length) : f_Scr_number (k : Int) I = some (I 21 0 k, I) := by
  unfold f_Scr_number
  rw [c_isEntry h hl hk, bnd_some, if_neg (by decide), w32_of (x := (k : Int)) (by omega) (by omega), if_pos (by omega), Int.toNat_natCast]
theorem c_scrLet (h : SCl I E) (hl : E.length ≤ 60) (hk : k < E.length) (hB : BfC I bs) (hb : bs.length ≤ 600) (hw : (eD E k).1 = 8 ∨ (eD E k).1 = 10) {f j : Nat} (hf : (eD E k).2.1 = (f : Int)) (hj : f + j < bs.length) : f_Scr_letter (k : Int) (j : Int) I = some (bs.getD (f + j) 0 - 97, I) := by
  unfold f_Scr_letter
  rw [c_isEntry h hl hk, bnd_some, if_neg (by decide), w32_of (x := (k : Int)) (by omega) (by omega), if_pos (by omega), Int.toNat_natCast, ((h.2.1 k hk).2.1 hw).1, hf, show (f : Int) + (j : Int) = ((f + j : Nat) : Int) from by omega, c_byteAt hB hb hj, bnd_some]
theorem c_scrMany (h : SCl I E) (hl : E.length ≤ 60) (hk : k < E.length) (hw : (eD E k).1 = 8 ∨ (eD E k).1 = 10) : f_Scr_manyLetters (k : Int) I = some (((eD E k).2.2 : Int), I) := by
  unfold f_Scr_manyLetters
  rw [c_isEntry h hl hk, bnd_some, if_neg (by decide), w32_of (x := (k : Int)) (by omega) (by omega), if_pos (by omega), Int.toNat_natCast, ((h.2.1 k hk).2.1 hw).2]
theorem SCl.op (h : SCl I E) (f : Fm FOp I J) : SCl J E := h.fm f (by unfold FOp FG; omega) (fun k i s z => by unfold FOp FG; omega)
theorem t_doAppend (hE : E.length ≤ 60) (hk : k < E.length) (hw : (eD E k).1 = 10) {f : Nat} (hf : (eD E k).2.1 = (f : Int)) (hfm : f + (eD E k).2.2 ≤ bs.length) (hb : bs.length ≤ 600) (hlet : ∀ j : Nat, j < (eD E k).2.2 → 97 ≤ bs.getD (f + j) 0 ∧ bs.getD (f + j) 0 ≤ 122) : ∀ (n j : Nat) (g : GS) (I : Mem), j + n = (eD E k).2.2 → SC I (g, ps, kp, bs, rp) → WF g → SCl I E → Tr (whl (f_PR_doAppend_w2 (k : Int)) (j : Int) I) (fun x K => x = bI ((apL (letL ((bs.drop (f + j)).take n)) g).2 = true) ∧ SC K ((apL (letL ((bs.drop (f + j)).take n)) g).1, ps, kp, bs, rp) ∧ Fm FOp I K) := by
  intro n
  induction n with
  | zero =>
    intro j g I hj h w hS
    have hst : f_PR_doAppend_w2 (k : Int) (j : Int) I = some (.inr 1, I) := by
      unfold f_PR_doAppend_w2
      rw [c_scrMany hS hE hk (Or.inr hw), bnd_some, w32_of (x := (j : Int)) (by omega) (by omega), w32_of (x := ((eD E k).2.2 : Int)) (by omega) (by omega), if_neg (by omega)]
    rw [whl_eq, hst]
    have e0 : apL (letL ((bs.drop (f + j)).take 0)) g = (g, true) := by rw [List.take_zero]; rfl
    rw [e0]
    exact tr_ret ⟨(bI_pos rfl).symm, h, Fm.refl _ _⟩
  | succ n ih =>
    intro j g I hj h w hS
    have hlr := hlet j (by omega)
    have hG0 : GC I 0 g := h.1
    have hBs : BfC I bs := h.2.2.2.2.2.1
    have ed : letL ((bs.drop (f + j)).take (n + 1)) = (bs.getD (f + j) 0 - 97) :: letL ((bs.drop (f + (j + 1))).take n) := by
      have hc : bs.drop (f + j) = bs.getD (f + j) 0 :: bs.drop (f + (j + 1)) := by
        rw [gd_ge (show f + j < bs.length by omega), show f + (j + 1) = f + j + 1 from rfl]
        exact List.drop_eq_getElem_cons _
      rw [hc]
      rfl
    have e1 : apL (letL ((bs.drop (f + j)).take (n + 1))) g = if (gT g).length < 400 then apL (letL ((bs.drop (f + (j + 1))).take n)) (gAppend g (bs.getD (f + j) 0 - 97)) else (g, false) := by rw [ed]; rfl
    refine tr_step ?_
    rw [e1]
    unfold f_PR_doAppend_w2
    have hT : ll (gL g) (gR g 0) = (gT g).length := w.2.2.1
    have hT4 : (gT g).length ≤ 400 := w.2.2.2.2.1
    rw [c_scrMany hS hE hk (Or.inr hw), bnd_some, w32_of (x := (j : Int)) (by omega) (by omega), w32_of (x := ((eD E k).2.2 : Int)) (by omega) (by omega), if_pos (by omega), g_textLength hG0 (fun i hi => w.sy hi), bnd_some, hT, w32_of (x := ((gT g).length : Int)) (by omega) (by omega)]
    by_cases q : (gT g).length < 400
    · have l0 := (w.lle (i := 0) (by decide)).1
      rw [if_pos (by omega), if_pos q, c_scrLet (bs := bs) hS hE hk hBs hb (Or.inr hw) hf (by omega), bnd_some]
      refine tr_call (t_addLetter hG0 (by omega) q _) ?_
      rintro _ K ⟨gc, f1⟩
      have sc : SC K (gAppend g (bs.getD (f + j) 0 - 97), ps, kp, bs, rp) := h.op (f1.mono fo_g) gc (g1_fm (h.2.1 1 (by decide)) f1 (fun k i s z q => by unfold FG at z q; omega)) (pt_g h.2.2.1 f1)
      refine tr_ret ?_
      show Tr (whl (f_PR_doAppend_w2 (k : Int)) ((j : Int) + 1) K) _
      refine tr_mono (ih (j + 1) _ K (by omega) sc (w.app q (by omega)) (hS.op (f1.mono fo_g))) ?_
      rintro x L ⟨a, b, c⟩
      exact ⟨a, b, (f1.mono fo_g).trans c⟩
    · rw [if_neg (by omega), if_neg q]
      exact tr_ret (show (0 : Int) = bI (false = true) ∧ SC I (g, ps, kp, bs, rp) ∧ Fm FOp I I from ⟨(bI_neg (by decide)).symm, h, Fm.refl _ _⟩)
theorem t_doOrder (h : SC I (g, ps, kp, bs, rp)) (w : WF g) (hb : bs.length ≤ 600) (hS : SCl I E) (hE : E.length ≤ 60) (hk : k < E.length) (v : VE bs (eD E k)) (h12 : (eD E k).1 ≠ 12) (h13 : (eD E k).1 ≠ 13) : Tr (f_PR_doOrder (k : Int) I) (fun x K => x = bI ((dO bs (eD E k) g).2 = true) ∧ SC K ((dO bs (eD E k) g).1, ps, kp, bs, rp) ∧ Fm FOp I K) := by
  have hz : (eD E k).1 = 3 ∨ (eD E k).1 = 4 ∨ (eD E k).1 = 5 ∨ (eD E k).1 = 6 ∨ (eD E k).1 = 7 ∨ (eD E k).1 = 8 ∨ (eD E k).1 = 9 ∨ (eD E k).1 = 10 ∨ (eD E k).1 = 11 := by
    have a := v.1
    have b := v.2.1
    clear v
    omega
  obtain ⟨v1, v2, v3, v4⟩ := v
  have hT : ll (gL g) (gR g 0) = (gT g).length := w.2.2.1
  have hT4 : (gT g).length ≤ 400 := w.2.2.2.2.1
  have g1 := h.2.1 1 (by decide)
  have hG0 : GC I 0 g := h.1
  have hBs : BfC I bs := h.2.2.2.2.2.1
  have hcl := hS.2.1 k hk
  have hnum := hcl.2.2
  unfold f_PR_doOrder
  rw [c_scrNum hS hE hk, bnd_some, c_scrWord hS hE hk (by omega), bnd_some, if_pos (by omega), w32_of (x := (((eD E k).1 : Nat) : Int)) (by omega) (by omega), if_pos (by omega), Int.toNat_natCast]
  have yes : ∀ {α : Type} {e : Option (α × Mem)} {g' : GS} {R : α → Prop}, dO bs (eD E k) g = (g', true) → Tr e (fun x K => SC K (g', ps, kp, bs, rp) ∧ Fm FOp I K) → Tr (bnd e fun _ J => some ((1 : Int), J)) (fun x K => x = bI ((dO bs (eD E k) g).2 = true) ∧ SC K ((dO bs (eD E k) g).1, ps, kp, bs, rp) ∧ Fm FOp I K) := by
    intro α e g' R ed he
    refine tr_call he ?_
    rintro x K ⟨a, b⟩
    rw [ed]
    exact tr_ret ⟨rfl, a, b⟩
  have guard : ∀ {e : Option (Int × Mem)}, Tr e (fun x K => x = bI ((dO bs (eD E k) g).2 = true) ∧ SC K ((dO bs (eD E k) g).1, ps, kp, bs, rp) ∧ Fm FOp I K) → Tr (bnd e fun x J => if x = 0 ∨ x = 1 then some (x, J) else none) (fun x K => x = bI ((dO bs (eD E k) g).2 = true) ∧ SC K ((dO bs (eD E k) g).1, ps, kp, bs, rp) ∧ Fm FOp I K) := by
    intro e he
    refine tr_call he ?_
    rintro x K ⟨rfl, a, b⟩
    rw [if_pos (bI_01 _)]
    exact tr_ret ⟨rfl, a, b⟩
  have num3 : ∀ j : Nat, j < 3 → (eD E k).1 = 3 + j → Tr (bnd (f_G_putNumber 0 (4 + (j : Int)) (I 21 0 k) I) fun _ J => some ((1 : Int), J)) (fun x K => x = bI ((dO bs (eD E k) g).2 = true) ∧ SC K ((dO bs (eD E k) g).1, ps, kp, bs, rp) ∧ Fm FOp I K) := by
    intro j hj hw
    refine yes (R := fun _ => True) (g' := gsN g j (eD E k).2.1) ?_ ?_
    · unfold dO
      rw [if_neg (by omega), if_neg (by omega), if_neg (by omega), if_neg (by omega), if_neg (by omega), if_neg (by omega), hw, show 3 + j - 3 = j by omega]
    · rw [hnum (by omega) (by omega) (by omega) (by omega)]
      refine tr_mono (t_putNumber hG0 hj _) ?_
      rintro _ K ⟨gc, f⟩
      exact ⟨h.op (f.mono fo_g) gc (g1_fm g1 f (fun k i s z q => by unfold FG at z q; omega)) (pt_g h.2.2.1 f), f.mono fo_g⟩
  rcases hz with z | z | z | z | z | z | z | z | z
  · rw [show w32 (wSm.getD (eD E k).1 0) = 7 by rw [z]; decide, if_neg (by decide), if_neg (by decide), if_neg (by decide), if_neg (by decide), if_neg (by decide), if_neg (by decide), if_pos rfl]
    exact num3 0 (by decide) z
  · rw [show w32 (wSm.getD (eD E k).1 0) = 8 by rw [z]; decide, if_neg (by decide), if_neg (by decide), if_neg (by decide), if_neg (by decide), if_neg (by decide), if_neg (by decide), if_neg (by decide), if_pos rfl]
    exact num3 1 (by decide) z
  · rw [show w32 (wSm.getD (eD E k).1 0) = 9 by rw [z]; decide, if_neg (by decide), if_neg (by decide), if_neg (by decide), if_neg (by decide), if_neg (by decide), if_neg (by decide), if_neg (by decide), if_neg (by decide), if_pos rfl]
    exact num3 2 (by decide) z
  · have v5 := v4 (by omega) (by omega) (by omega) h13
    rw [z] at v5
    have hh : wHig 6 = 50 := rfl
    have hw : wLow 6 = 1 := rfl
    rw [show w32 (wSm.getD (eD E k).1 0) = 1 by rw [z]; decide, if_pos rfl]
    refine yes (R := fun _ => True) (g' := (stepsG (eD E k).2.1.toNat g).2) (by unfold dO; rw [if_pos z]) ?_
    rw [hnum (by omega) (by omega) (by omega) (by omega), show (eD E k).2.1 = (((eD E k).2.1.toNat : Nat) : Int) by omega, Int.toNat_natCast]
    refine tr_mono (t_makeSteps hG0 w h.2.2.1 (by omega)) ?_
    rintro x K ⟨-, gc, -, pt2, f⟩
    exact ⟨h.op (f.mono fo_s) gc (g1_fm g1 f (fun k i s z q => by unfold FG at z; unfold FST FG FPA at q; omega)) pt2, f.mono fo_s⟩
  · rw [show w32 (wSm.getD (eD E k).1 0) = 2 by rw [z]; decide, if_neg (by decide), if_pos rfl]
    refine yes (R := fun _ => True) (g' := (inlG 40 g).2) (by unfold dO; rw [if_neg (by omega), if_pos z]) ?_
    refine tr_mono (t_inlineAll hG0 w) ?_
    rintro x K ⟨-, gc, -, f⟩
    exact ⟨h.op (f.mono fo_u) gc (g1_fm g1 f (fun k i s z q => by unfold FG at z; unfold FGU FG at q; omega)) (h.2.2.1.fgu f), f.mono fo_u⟩
  · obtain ⟨f, f1, f2, f3, f4, f5⟩ := v3 (Or.inl z)
    have hm2 := f5 z
    have ha := f4 0 (by omega)
    have hbb := f4 1 (by omega)
    rw [show w32 (wSm.getD (eD E k).1 0) = 3 by rw [z]; decide, if_neg (by decide), if_neg (by decide), if_pos rfl]
    rw [show (0 : Int) = ((0 : Nat) : Int) from rfl, c_scrLet (bs := bs) hS hE hk hBs hb (Or.inl z) f1 (j := 0) (by omega), bnd_some, show (1 : Int) = ((1 : Nat) : Int) from rfl, c_scrLet (bs := bs) hS hE hk hBs hb (Or.inl z) f1 (j := 1) (by omega), bnd_some]
    rw [Nat.add_zero] at ha ⊢
    have ed : dO bs (eD E k) g = (mkS g (bs.getD f 0 - 97) (bs.getD (f + 1) 0 - 97), decide (0 ≤ mkC g (bs.getD f 0 - 97) (bs.getD (f + 1) 0 - 97))) := by
      unfold dO
      rw [if_neg (by omega), if_neg (by omega), if_pos z, f1, Int.toNat_natCast]
    refine guard ?_
    rw [ed]
    unfold f_PR_doMake
    have mr := mkC_rng (g := g) (a := bs.getD f 0 - 97) (b := bs.getD (f + 1) 0 - 97)
    refine tr_call (t_refusal h w (a := bs.getD f 0 - 97) (b := bs.getD (f + 1) 0 - 97) (by omega) (by omega)) ?_
    rintro x K ⟨y | y, sc, ff⟩
    · rw [y.2, w32_of (x := mkC g (bs.getD f 0 - 97) (bs.getD (f + 1) 0 - 97)) (by omega) (by omega), if_pos y.1]
      refine tr_ret ⟨?_, ?_, ff⟩
      · rw [bI_neg (by simpa using y.1)]
      · show SC K (mkS g (bs.getD f 0 - 97) (bs.getD (f + 1) 0 - 97), ps, kp, bs, rp)
        rw [show mkS g (bs.getD f 0 - 97) (bs.getD (f + 1) 0 - 97) = g from if_pos y.1]
        exact sc
    · rw [y.2, if_neg (by decide)]
      refine tr_call (t_gjoin sc.1 (fun i hi => w.sy hi) (a := bs.getD f 0 - 97) (b := bs.getD (f + 1) 0 - 97) (by omega) (by omega)) ?_
      rintro x L ⟨-, gc, f2⟩
      refine tr_ret ⟨?_, ?_, ff.trans (f2.mono fo_g)⟩
      · rw [bI_pos (by simpa using y.1)]
      · show SC L (mkS g (bs.getD f 0 - 97) (bs.getD (f + 1) 0 - 97), ps, kp, bs, rp)
        rw [show mkS g (bs.getD f 0 - 97) (bs.getD (f + 1) 0 - 97) = gJoin g (bs.getD f 0 - 97) (bs.getD (f + 1) 0 - 97) from if_neg (by omega)]
        exact sc.op (f2.mono fo_g) gc (g1_fm (sc.2.1 1 (by decide)) f2 (fun k i s z q => by unfold FG at z q; omega)) (pt_g sc.2.2.1 f2)
  · have v5 := v4 (by omega) (by omega) (by omega) h13
    rw [z] at v5
    have hh : wHig 9 = 39 := rfl
    have hw : wLow 9 = 0 := rfl
    rw [show w32 (wSm.getD (eD E k).1 0) = 4 by rw [z]; decide, if_neg (by decide), if_neg (by decide), if_neg (by decide), if_pos rfl]
    refine guard ?_
    have ed : dO bs (eD E k) g = if gR g ((eD E k).2.1.toNat + 1) = [] then (g, false) else (gDis g (eD E k).2.1.toNat 4, true) := by
      unfold dO
      rw [if_neg (by omega), if_neg (by omega), if_neg (by omega), if_pos z]
    rw [ed, hnum (by omega) (by omega) (by omega) (by omega), show (eD E k).2.1 = (((eD E k).2.1.toNat : Nat) : Int) by omega, Int.toNat_natCast]
    unfold f_PR_doExpand
    rw [g_hasRule hG0 (by omega), bnd_some]
    by_cases q : gR g ((eD E k).2.1.toNat + 1) = []
    · rw [if_pos (wb_neg (fun y => y q)), if_pos q]
      exact tr_ret ⟨rfl, h, Fm.refl _ _⟩
    · rw [if_neg (wb_pos q), if_neg q, show (4 : Int) = ((4 : Nat) : Int) from rfl]
      refine tr_call (t_dissolve hG0 w (by omega) q (c := 4) (by decide)) ?_
      rintro x K ⟨-, gc, f⟩
      exact tr_ret ⟨rfl, h.op (f.mono fo_g) gc (g1_fm g1 f (fun k i s z q => by unfold FG at z q; omega)) (pt_g h.2.2.1 f), f.mono fo_g⟩
  · obtain ⟨f, f1, f2, f3, f4, f5⟩ := v3 (Or.inr z)
    rw [show w32 (wSm.getD (eD E k).1 0) = 5 by rw [z]; decide, if_neg (by decide), if_neg (by decide), if_neg (by decide), if_neg (by decide), if_pos rfl]
    refine guard ?_
    have ed : dO bs (eD E k) g = apL (letL ((bs.drop (f + 0)).take (eD E k).2.2)) g := by
      unfold dO
      rw [if_neg (by omega), if_neg (by omega), if_neg (by omega), if_neg (by omega), if_pos z, f1, Int.toNat_natCast, Nat.add_zero]
    rw [ed]
    unfold f_PR_doAppend
    exact t_doAppend hE hk z f1 f2 hb f4 (eD E k).2.2 0 g I (Nat.zero_add _) h w hS
  · have v5 := v4 (by omega) (by omega) (by omega) h13
    rw [z] at v5
    have hh : wHig 11 = 400 := rfl
    have hw : wLow 11 = 1 := rfl
    rw [show w32 (wSm.getD (eD E k).1 0) = 6 by rw [z]; decide, if_neg (by decide), if_neg (by decide), if_neg (by decide), if_neg (by decide), if_neg (by decide), if_pos rfl]
    refine guard ?_
    have ed : dO bs (eD E k) g = if (eD E k).2.1.toNat < (gT g).length then (gCut g (eD E k).2.1.toNat, true) else (g, false) := by
      unfold dO
      rw [if_neg (by omega), if_neg (by omega), if_neg (by omega), if_neg (by omega), if_neg (by omega), if_pos z]
    rw [ed, hnum (by omega) (by omega) (by omega) (by omega), show (eD E k).2.1 = (((eD E k).2.1.toNat : Nat) : Int) by omega, Int.toNat_natCast]
    unfold f_PR_doCut
    rw [g_textLength hG0 (fun i hi => w.sy hi), bnd_some, hT, w32_of (x := ((gT g).length : Int)) (by omega) (by omega), w32_of (x := (((eD E k).2.1.toNat : Nat) : Int)) (by omega) (by omega)]
    by_cases q : (eD E k).2.1.toNat < (gT g).length
    · rw [if_pos (by omega), if_pos q]
      refine tr_call (t_dropLetters hG0 w (by omega) q) ?_
      rintro _ K ⟨gc, f⟩
      exact tr_ret ⟨rfl, h.op (f.mono fo_g) gc (g1_fm g1 f (fun k i s z q => by unfold FG at z q; omega)) (pt_g h.2.2.1 f), f.mono fo_g⟩
    · rw [if_neg (by omega), if_neg q]
      exact tr_ret ⟨rfl, h, Fm.refl _ _⟩
end ORD
end
section
/-! ===== scripts: one order, the reference ===== -/
theorem tf_no {p : Prop} (h : true = false) : p := Bool.noConfusion h
theorem ft_no {p : Prop} (h : false = true) : p := Bool.noConfusion h
section MDO
variable {I J : Mem} {g g' : GS} {bs : List Int} {E : List EN} {k : Nat}
def BUF (I : Mem) (bs : List Int) : Prop := ∀ j : Nat, j < bs.length → I 27 14 j = bs.getD j 0
theorem BUF.ms (h : BUF I bs) (f : Fm FMS I J) : BUF J bs := fun j hj => by rw [f.at (by decide) (by unfold FMS FW FBP FMP FL; omega)]; exact h j hj
theorem fw_ms : ∀ k i s : Nat, FW k i s → FMS k i s := fun _ _ _ z => Or.inl z
theorem t_mapp {f m : Nat} (hfm : f + m ≤ bs.length) (hb : bs.length ≤ 600) (hr : ∀ b ∈ bs, 1 ≤ b ∧ b ≤ 255) (hlet : ∀ j : Nat, j < m → 97 ≤ bs.getD (f + j) 0 ∧ bs.getD (f + j) 0 ≤ 122) : ∀ (n j : Nat) (g : GS) (its : Int) (I : Mem), j + n = m → 0 ≤ its ∧ its ≤ 1000 → GW I g → WF g → BUF I bs → Tr (whl (f_M_appendsWord_w5 (f : Int) (m : Int)) (its, (j : Int)) I) (fun x K => ((apL (letL ((bs.drop (f + j)).take n)) g).2 = true → 0 ≤ w32 x) ∧ ((apL (letL ((bs.drop (f + j)).take n)) g).2 = false → w32 x < 0) ∧ GW K (apL (letL ((bs.drop (f + j)).take n)) g).1 ∧ Fm FW I K) := by
  intro n
  induction n with
  | zero =>
    intro j g its I hj hi h w hBu
    have hst : f_M_appendsWord_w5 (f : Int) (m : Int) (its, (j : Int)) I = some (.inr its, I) := by
      unfold f_M_appendsWord_w5
      dsimp only
      rw [w32_of (x := (j : Int)) (by omega) (by omega), w32_of (x := (m : Int)) (by omega) (by omega), if_neg (by omega)]
    rw [whl_eq, hst]
    have e0 : apL (letL ((bs.drop (f + j)).take 0)) g = (g, true) := by rw [List.take_zero]; rfl
    rw [e0]
    exact tr_ret ⟨fun _ => by rw [w32_of (x := its) (by omega) (by omega)]; exact hi.1, fun z => tf_no z, h, Fm.refl _ _⟩
  | succ n ih =>
    intro j g its I hj hi h w hBu
    have hlr := hlet j (by omega)
    have hT4 : (gT g).length ≤ 400 := w.2.2.2.2.1
    have ed : letL ((bs.drop (f + j)).take (n + 1)) = (bs.getD (f + j) 0 - 97) :: letL ((bs.drop (f + (j + 1))).take n) := by
      have hc : bs.drop (f + j) = bs.getD (f + j) 0 :: bs.drop (f + (j + 1)) := by
        rw [gd_ge (show f + j < bs.length by omega), show f + (j + 1) = f + j + 1 from rfl]
        exact List.drop_eq_getElem_cons _
      rw [hc]
      rfl
    have e1 : apL (letL ((bs.drop (f + j)).take (n + 1))) g = if (gT g).length < 400 then apL (letL ((bs.drop (f + (j + 1))).take n)) (gAppend g (bs.getD (f + j) 0 - 97)) else (g, false) := by rw [ed]; rfl
    have hst : ∀ {Q : (Int × Int) ⊕ Int → Mem → Prop}, Tr (f_M_appendNow (bs.getD (f + j) 0 - 97) I) (fun x K => Q (.inl (x, (j : Int) + 1)) K) → Tr (f_M_appendsWord_w5 (f : Int) (m : Int) (its, (j : Int)) I) Q := by
      intro Q hq
      unfold f_M_appendsWord_w5
      dsimp only
      rw [w32_of (x := (j : Int)) (by omega) (by omega), w32_of (x := (m : Int)) (by omega) (by omega), if_pos (by omega), w32_of (x := its) (by omega) (by omega), if_neg (by omega), show (f : Int) + (j : Int) = ((f + j : Nat) : Int) from by omega, w32_of (x := ((f + j : Nat) : Int)) (by omega) (by omega), if_pos (by omega), Int.toNat_natCast, hBu _ (by omega)]
      exact tr_call hq (fun x K z => tr_ret z)
    refine tr_step (hst ?_)
    by_cases q : (gT g).length < 400
    · have e2 := e1
      rw [if_pos q] at e2
      rw [e2]
      have l0 := (w.lle (i := 0) (by decide)).1
      have hT : ll (gL g) (gR g 0) = (gT g).length := w.2.2.1
      refine tr_mono (t_mappendNow h (by omega) q _) ?_
      rintro x K ⟨rfl, gc, f1⟩
      show Tr (whl (f_M_appendsWord_w5 (f : Int) (m : Int)) ((((gT g).length : Int) + 1), ((j : Int) + 1)) K) _
      refine tr_mono (ih (j + 1) _ (((gT g).length : Int) + 1) K (by omega) (by omega) gc (w.app q (by omega)) (hBu.ms (f1.mono fw_ms))) ?_
      rintro x L ⟨a, b, c, d⟩
      exact ⟨a, b, c, f1.trans d⟩
    · have e2 := e1
      rw [if_neg q] at e2
      rw [e2]
      have e3 : I 27 0 3 = ((gT g).length : Int) := h.2.1
      have ea : f_M_appendNow (bs.getD (f + j) 0 - 97) I = some (-5, I) := by
        unfold f_M_appendNow
        rw [e3, w32_of (x := ((gT g).length : Int)) (by omega) (by omega), if_pos (by omega)]
      rw [ea]
      refine tr_ret ?_
      show Tr (whl (f_M_appendsWord_w5 (f : Int) (m : Int)) (-5, ((j : Int) + 1)) I) _
      have hs2 : f_M_appendsWord_w5 (f : Int) (m : Int) (-5, ((j : Int) + 1)) I = some (.inr (-5), I) := by
        unfold f_M_appendsWord_w5
        dsimp only
        by_cases z : w32 ((j : Int) + 1) < w32 (m : Int)
        · rw [if_pos z, if_pos (by decide)]
        · rw [if_neg z]
      rw [whl_eq, hs2]
      exact tr_ret ⟨fun z => ft_no z, fun _ => by decide, h, Fm.refl _ _⟩
theorem t_does (h : GW I g) (w : WF g) (hb : bs.length ≤ 600) (hr : ∀ b ∈ bs, 1 ≤ b ∧ b ≤ 255) (hBu : BUF I bs) (hS : SMl I E) (hE : E.length ≤ 60) (hk : k < E.length) (v : VE bs (eD E k)) (h12 : (eD E k).1 ≠ 12) (h13 : (eD E k).1 ≠ 13) : Tr (f_M_does (k : Int) I) (fun x K => ((dO bs (eD E k) g).2 = true → 0 ≤ w32 x) ∧ ((dO bs (eD E k) g).2 = false → w32 x < 0) ∧ GW K (dO bs (eD E k) g).1 ∧ Fm FMS I K) := by
  have hz : (eD E k).1 = 3 ∨ (eD E k).1 = 4 ∨ (eD E k).1 = 5 ∨ (eD E k).1 = 6 ∨ (eD E k).1 = 7 ∨ (eD E k).1 = 8 ∨ (eD E k).1 = 9 ∨ (eD E k).1 = 10 ∨ (eD E k).1 = 11 := by
    have a := v.1
    have b := v.2.1
    clear v
    omega
  obtain ⟨v1, v2, v3, v4⟩ := v
  obtain ⟨m1, m2, m3⟩ := hS.2.1 k hk
  have hT4 : (gT g).length ≤ 400 := w.2.2.2.2.1
  unfold f_M_does
  rw [w32_of (x := (k : Int)) (by omega) (by omega), if_pos (by omega), Int.toNat_natCast]
  have fin : ∀ {e : Option (Int × Mem)} {g' : GS}, dO bs (eD E k) g = (g', true) → Tr e (fun x K => 0 ≤ w32 x ∧ GW K g' ∧ Fm FMS I K) → Tr (bnd e fun x J => some (x, J)) (fun x K => ((dO bs (eD E k) g).2 = true → 0 ≤ w32 x) ∧ ((dO bs (eD E k) g).2 = false → w32 x < 0) ∧ GW K (dO bs (eD E k) g).1 ∧ Fm FMS I K) := by
    intro e g' ed he
    refine tr_call he ?_
    rintro x K ⟨a, b, c⟩
    rw [ed]
    exact tr_ret ⟨fun _ => a, fun z => tf_no z, b, c⟩
  have num3 : ∀ j : Nat, j < 3 → (eD E k).1 = 3 + j → Tr (bnd (f_M_setNow (j : Int) (I 27 16 k) I) fun x J => some (x, J)) (fun x K => ((dO bs (eD E k) g).2 = true → 0 ≤ w32 x) ∧ ((dO bs (eD E k) g).2 = false → w32 x < 0) ∧ GW K (dO bs (eD E k) g).1 ∧ Fm FMS I K) := by
    intro j hj hw
    refine fin (g' := gsN g j (eD E k).2.1) ?_ ?_
    · unfold dO
      rw [if_neg (by omega), if_neg (by omega), if_neg (by omega), if_neg (by omega), if_neg (by omega), if_neg (by omega), hw, show 3 + j - 3 = j by omega]
    · rw [m2 (by omega) (by omega)]
      have nr := gN_rng w hj
      refine tr_mono (t_msetNow h hj _) ?_
      rintro x K ⟨rfl, gc, f⟩
      exact ⟨by rw [w32_of (x := gN g j) (by omega) (by omega)]; omega, gc, f.mono fw_ms⟩
  rcases hz with z | z | z | z | z | z | z | z | z
  · rw [m1, show w32 (oc (eD E k).1) = 0 by rw [z]; decide, if_neg (by decide), if_neg (by decide), if_neg (by decide), if_neg (by decide), if_neg (by decide), if_neg (by decide), show oc (eD E k).1 = ((0 : Nat) : Int) by rw [z]; rfl]
    exact num3 0 (by decide) z
  · rw [m1, show w32 (oc (eD E k).1) = 1 by rw [z]; decide, if_neg (by decide), if_neg (by decide), if_neg (by decide), if_neg (by decide), if_neg (by decide), if_neg (by decide), show oc (eD E k).1 = ((1 : Nat) : Int) by rw [z]; rfl]
    exact num3 1 (by decide) z
  · rw [m1, show w32 (oc (eD E k).1) = 2 by rw [z]; decide, if_neg (by decide), if_neg (by decide), if_neg (by decide), if_neg (by decide), if_neg (by decide), if_neg (by decide), show oc (eD E k).1 = ((2 : Nat) : Int) by rw [z]; rfl]
    exact num3 2 (by decide) z
  · have v5 := v4 (by omega) (by omega) (by omega) h13
    rw [z] at v5
    have hh : wHig 6 = 50 := rfl
    have hw : wLow 6 = 1 := rfl
    rw [m1, show w32 (oc (eD E k).1) = 10 by rw [z]; decide, if_pos rfl]
    refine fin (g' := (stepsG (eD E k).2.1.toNat g).2) (by unfold dO; rw [if_pos z]) ?_
    rw [m2 (by omega) (by omega), show (eD E k).2.1 = (((eD E k).2.1.toNat : Nat) : Int) by omega, Int.toNat_natCast]
    have key : ∀ (n : Nat) (g : GS), (stepsG n g).1 ≤ n := by
      intro n
      induction n with
      | zero => intro g; exact Nat.le_refl 0
      | succ n ih =>
        intro g
        by_cases q : bestP g = -1
        · rw [stepsG_none q]; exact Nat.zero_le _
        · rw [stepsG_some q]; have := ih (stG g); show _ + 1 ≤ n + 1; omega
    have kk := key (eD E k).2.1.toNat g
    refine tr_mono (t_mstepsMany h w (by omega)) ?_
    rintro x K ⟨rfl, gc, f⟩
    exact ⟨by rw [w32_of (by omega) (by omega)]; omega, gc, f⟩
  · rw [m1, show w32 (oc (eD E k).1) = 11 by rw [z]; decide, if_neg (by decide), if_pos rfl]
    refine fin (g' := (inlG 40 g).2) (by unfold dO; rw [if_neg (by omega), if_pos z]) ?_
    have kk := inlG_le 40 g
    refine tr_mono (t_minlines h w) ?_
    rintro x K ⟨rfl, gc, f⟩
    exact ⟨by rw [w32_of (by omega) (by omega)]; omega, gc, f.mono fw_ms⟩
  · obtain ⟨f, f1, f2, f3, f4, f5⟩ := v3 (Or.inl z)
    have hm2 := f5 z
    have ha := f4 0 (by omega)
    have hbb := f4 1 (by omega)
    rw [Nat.add_zero] at ha
    rw [m1, show w32 (oc (eD E k).1) = 12 by rw [z]; decide, if_neg (by decide), if_neg (by decide), if_pos rfl, m2 (by omega) (by omega), f1, w32_of (x := (f : Int)) (by omega) (by omega), show (f : Int) + 1 = ((f + 1 : Nat) : Int) from by omega, w32_of (x := ((f + 1 : Nat) : Int)) (by omega) (by omega), if_pos (by omega), if_pos (by omega), Int.toNat_natCast, Int.toNat_natCast, hBu f (by omega), hBu (f + 1) (by omega)]
    have ed : dO bs (eD E k) g = (mkS g (bs.getD f 0 - 97) (bs.getD (f + 1) 0 - 97), decide (0 ≤ mkC g (bs.getD f 0 - 97) (bs.getD (f + 1) 0 - 97))) := by
      unfold dO
      rw [if_neg (by omega), if_neg (by omega), if_pos z, f1, Int.toNat_natCast]
    rw [ed]
    have mr := mkC_rng (g := g) (a := bs.getD f 0 - 97) (b := bs.getD (f + 1) 0 - 97)
    refine tr_call (t_mmakeNow h w (a := bs.getD f 0 - 97) (b := bs.getD (f + 1) 0 - 97) (by omega) (by omega)) ?_
    rintro x K ⟨rfl, gc, ff⟩
    refine tr_ret ⟨fun y => ?_, fun y => ?_, gc, ff⟩
    · have y : 0 ≤ mkC g (bs.getD f 0 - 97) (bs.getD (f + 1) 0 - 97) := of_decide_eq_true y
      rw [w32_of (by omega) (by omega)]; exact y
    · have y : ¬ 0 ≤ mkC g (bs.getD f 0 - 97) (bs.getD (f + 1) 0 - 97) := of_decide_eq_false y
      rw [w32_of (by omega) (by omega)]; omega
  · have v5 := v4 (by omega) (by omega) (by omega) h13
    rw [z] at v5
    have hh : wHig 9 = 39 := rfl
    have hw : wLow 9 = 0 := rfl
    rw [m1, show w32 (oc (eD E k).1) = 13 by rw [z]; decide, if_neg (by decide), if_neg (by decide), if_neg (by decide), if_pos rfl]
    have ed : dO bs (eD E k) g = if gR g ((eD E k).2.1.toNat + 1) = [] then (g, false) else (gDis g (eD E k).2.1.toNat 4, true) := by
      unfold dO
      rw [if_neg (by omega), if_neg (by omega), if_neg (by omega), if_pos z]
    rw [ed, m2 (by omega) (by omega), show (eD E k).2.1 = (((eD E k).2.1.toNat : Nat) : Int) by omega, Int.toNat_natCast]
    have ur : 0 ≤ gUses g (eD E k).2.1.toNat ∧ gUses g (eD E k).2.1.toNat ≤ 16400 := by
      constructor
      · unfold gUses
        have : ∀ n : Nat, 0 ≤ sT (fun i => ((gR g i).count (26 + (((eD E k).2.1.toNat : Nat) : Int)) : Int)) n := by
          intro n
          induction n with
          | zero => exact Int.le_refl 0
          | succ n ih => show 0 ≤ sT (fun i => ((gR g i).count (26 + (((eD E k).2.1.toNat : Nat) : Int)) : Int)) n + ((gR g n).count (26 + (((eD E k).2.1.toNat : Nat) : Int)) : Int); omega
        exact this 41
      · unfold gUses
        have : ∀ n : Nat, n ≤ 41 → sT (fun i => ((gR g i).count (26 + (((eD E k).2.1.toNat : Nat) : Int)) : Int)) n ≤ 400 * (n : Int) := by
          intro n
          induction n with
          | zero => intro _; exact Int.le_refl 0
          | succ n ih =>
            intro hn
            have i1 := ih (by omega)
            have i2 := w.len400 n (by omega)
            have i3 := List.count_le_length (a := (26 + (((eD E k).2.1.toNat : Nat) : Int))) (l := gR g n)
            show sT (fun i => ((gR g i).count (26 + (((eD E k).2.1.toNat : Nat) : Int)) : Int)) n + ((gR g n).count (26 + (((eD E k).2.1.toNat : Nat) : Int)) : Int) ≤ 400 * ((n + 1 : Nat) : Int)
            omega
        have := this 41 (Nat.le_refl _)
        omega
    refine tr_call (t_mexpandNow h w (r := (eD E k).2.1.toNat) (by omega)) ?_
    rintro x K ⟨y | y, ff⟩
    · obtain ⟨y1, rfl, y3⟩ := y
      rw [if_pos y1]
      exact tr_ret ⟨fun u => ft_no u, fun _ => by decide, y3, ff.mono fw_ms⟩
    · obtain ⟨y1, rfl, y3⟩ := y
      rw [if_neg y1]
      exact tr_ret ⟨fun _ => by rw [w32_of (by omega) (by omega)]; exact ur.1, fun u => tf_no u, y3, ff.mono fw_ms⟩
  · obtain ⟨f, f1, f2, f3, f4, f5⟩ := v3 (Or.inr z)
    rw [m1, show w32 (oc (eD E k).1) = 14 by rw [z]; decide, if_neg (by decide), if_neg (by decide), if_neg (by decide), if_neg (by decide), if_pos rfl]
    have ed : dO bs (eD E k) g = apL (letL ((bs.drop (f + 0)).take (eD E k).2.2)) g := by
      unfold dO
      rw [if_neg (by omega), if_neg (by omega), if_neg (by omega), if_neg (by omega), if_pos z, f1, Int.toNat_natCast, Nat.add_zero]
    rw [ed, m2 (by omega) (by omega), m3 (Or.inr z), f1]
    unfold f_M_appendsWord
    refine tr_call (tr_call (t_mapp f2 hb hr f4 (eD E k).2.2 0 g 0 I (Nat.zero_add _) (by decide) h w hBu) (fun x K y => tr_ret y)) ?_
    rintro x K ⟨a, b, c, d⟩
    exact tr_ret ⟨a, b, c, d.mono fw_ms⟩
  · have v5 := v4 (by omega) (by omega) (by omega) h13
    rw [z] at v5
    have hh : wHig 11 = 400 := rfl
    have hw : wLow 11 = 1 := rfl
    rw [m1, show w32 (oc (eD E k).1) = 15 by rw [z]; decide, if_neg (by decide), if_neg (by decide), if_neg (by decide), if_neg (by decide), if_neg (by decide), if_pos rfl]
    have ed : dO bs (eD E k) g = if (eD E k).2.1.toNat < (gT g).length then (gCut g (eD E k).2.1.toNat, true) else (g, false) := by
      unfold dO
      rw [if_neg (by omega), if_neg (by omega), if_neg (by omega), if_neg (by omega), if_neg (by omega), if_pos z]
    rw [ed, m2 (by omega) (by omega), show (eD E k).2.1 = (((eD E k).2.1.toNat : Nat) : Int) by omega, Int.toNat_natCast]
    by_cases q : (eD E k).2.1.toNat < (gT g).length
    · rw [if_pos q]
      have l2 := (w.cut q).len400 0 (by decide)
      refine tr_call (t_mcutNow h w (by omega) q) ?_
      rintro x K ⟨rfl, gc, f⟩
      exact tr_ret ⟨fun _ => by rw [w32_of (by omega) (by omega)]; omega, fun u => tf_no u, gc, f⟩
    · rw [if_neg q]
      have e3 : I 27 0 3 = ((gT g).length : Int) := h.2.1
      have ea : f_M_cutNow (((eD E k).2.1.toNat : Nat) : Int) I = some (-6, I) := by
        unfold f_M_cutNow
        rw [e3, w32_of (x := ((gT g).length : Int)) (by omega) (by omega), w32_of (x := (((eD E k).2.1.toNat : Nat) : Int)) (by omega) (by omega), if_neg (by omega)]
      rw [ea, bnd_some]
      exact tr_ret ⟨fun u => ft_no u, fun _ => by decide, h, Fm.refl _ _⟩
end MDO
end
section
/-! ===== scripts: how they run (pure) ===== -/
def cl (E : List EN) (a : Nat) : Nat := (fF (fun c => decide (ew E c = 13 ∧ enc E c = a :: enc E a)) E.length 0).toNat
/-- a script that was read to its end -/
def FIN (bs : List Int) (E : List EN) : Prop := E.length ≤ 60 ∧ enc E E.length = [] ∧ (∀ k : Nat, k ≤ E.length → (enc E k).length ≤ 2) ∧ (∀ k : Nat, k < E.length → ew E k = 13 → enc E k ≠ []) ∧ (∀ k : Nat, k < E.length → VE bs (eD E k))
theorem SEI.fin {bs : List Int} {E : List EN} {c p : Nat} (h : SEI bs E c p) (he : enc E E.length = []) : FIN bs E := ⟨by have := h.2.1; have := h.2.2.1; omega, he, h.2.2.2.1, h.2.2.2.2.1, h.2.2.2.2.2⟩
theorem cl_spec {bs : List Int} {E : List EN} (h : FIN bs E) {a : Nat} (ha : a < E.length) (hw : ew E a = 12) : ew E (cl E a) = 13 ∧ enc E (cl E a) = a :: enc E a ∧ a < cl E a ∧ cl E a < E.length := by
  have hc := enc_closed h.2.2.2.1 E.length (Nat.le_refl _) a ha hw
  rw [h.2.1] at hc
  obtain ⟨k, h1, h2, h3, h4⟩ := hc.resolve_left List.not_mem_nil
  by_cases q : fF (fun c => decide (ew E c = 13 ∧ enc E c = a :: enc E a)) E.length 0 = -1
  · have := fF_none q k (Nat.zero_le _) (by omega)
    exact absurd ⟨h3, h4⟩ (of_decide_eq_false this)
  · obtain ⟨j, e, j1, j2, j3, -⟩ := fF_some q
    have ej : cl E a = j := by unfold cl; rw [e]; exact Int.toNat_natCast j
    have j4 := of_decide_eq_true j3
    rw [ej]
    exact ⟨j4.1, j4.2, (enc_cons j a _ j4.2).1, by omega⟩
theorem in_cl {bs : List Int} {E : List EN} (h : FIN bs E) {a k : Nat} (hk : k ≤ E.length) (hm : a ∈ enc E k) (hw : ew E a = 12) : k ≤ cl E a := by
  have ha := enc_lt k a hm
  obtain ⟨c1, c2, c3, c4⟩ := cl_spec h (a := a) (by omega) hw
  refine Classical.byContradiction fun q => ?_
  exact enc_gone c1 c2 k (by omega) hm
abbrev MS : Type := Nat × List (Nat × Int)
def mst (E : List EN) (s : MS) : MS :=
  if ew E s.1 = 12 then (if (eD E s.1).2.1 = 0 then (cl E s.1 + 1, s.2) else (s.1 + 1, (s.1, (eD E s.1).2.1) :: s.2))
  else if ew E s.1 = 13 then (match s.2 with
    | [] => (s.1 + 1, [])
    | x :: t => if 0 < x.2 - 1 then (x.1 + 1, (x.1, x.2 - 1) :: t) else (s.1 + 1, t))
  else (s.1 + 1, s.2)
def MOK (E : List EN) (s : MS) : Prop := s.1 ≤ E.length ∧ s.2.map Prod.fst = enc E s.1 ∧ ∀ x ∈ s.2, 1 ≤ x.2 ∧ x.2 ≤ 20
theorem MOK.len {bs : List Int} {E : List EN} {s : MS} (h : MOK E s) (hF : FIN bs E) : s.2.length ≤ 2 := by
  have := hF.2.2.1 s.1 h.1
  rw [← h.2.1, List.length_map] at this
  exact this
theorem MOK.again {bs : List Int} {E : List EN} {s : MS} (h : MOK E s) (hF : FIN bs E) (hk : s.1 < E.length) (hw : ew E s.1 = 12) : s.2.length ≤ 1 ∧ 0 ≤ (eD E s.1).2.1 ∧ (eD E s.1).2.1 ≤ 20 := by
  have h2 := hF.2.2.1 (s.1 + 1) (by omega)
  have e : enc E (s.1 + 1) = s.1 :: enc E s.1 := by
    show (if ew E s.1 = 12 then _ else _) = _
    rw [if_pos hw]
  rw [e, ← h.2.1] at h2
  have h2 : (s.2.map Prod.fst).length + 1 ≤ 2 := h2
  rw [List.length_map] at h2
  have hv := (hF.2.2.2.2 s.1 hk).2.2.2
  have hw : (eD E s.1).1 = 12 := hw
  rw [hw] at hv
  have hv := hv (by decide) (by decide) (by decide) (by decide)
  have : wLow 12 = 0 := rfl
  have : wHig 12 = 20 := rfl
  omega
theorem MOK.close {bs : List Int} {E : List EN} {s : MS} (h : MOK E s) (hF : FIN bs E) (hk : s.1 < E.length) (hw : ew E s.1 = 13) : ∃ (a : Nat) (l : Int) (t : List (Nat × Int)), s.2 = (a, l) :: t ∧ enc E s.1 = a :: enc E a ∧ t.map Prod.fst = enc E a ∧ a < s.1 ∧ ew E a = 12 ∧ cl E a = s.1 ∧ 1 ≤ l ∧ l ≤ 20 := by
  obtain ⟨h1, h2, h3⟩ := h
  have hne := hF.2.2.2.1 s.1 hk hw
  cases hs : s.2 with
  | nil => rw [hs] at h2; exact absurd h2.symm hne
  | cons x t =>
    obtain ⟨a, l⟩ := x
    rw [hs] at h2 h3
    have h2 : a :: t.map Prod.fst = enc E s.1 := h2
    obtain ⟨j1, j2, j3⟩ := enc_cons _ _ _ h2.symm
    have hl := h3 (a, l) List.mem_cons_self
    have e2 : enc E s.1 = a :: enc E a := by rw [← h2, j3]
    refine ⟨a, l, t, rfl, e2, j3, j1, j2, ?_, hl.1, hl.2⟩
    obtain ⟨c1, c2, c3, c4⟩ := cl_spec hF (a := a) (by omega) j2
    have g1 : s.1 ≤ cl E a := in_cl hF h1 (by rw [e2]; exact List.mem_cons_self) j2
    have g2 : ¬ s.1 < cl E a := fun y => enc_gone hw e2 (cl E a) y (by rw [c2]; exact List.mem_cons_self)
    omega
theorem mst_ok {bs : List Int} {E : List EN} {s : MS} (h : MOK E s) (hF : FIN bs E) (hk : s.1 < E.length) : MOK E (mst E s) := by
  unfold mst
  by_cases q12 : ew E s.1 = 12
  · rw [if_pos q12]
    obtain ⟨-, n1, n2⟩ := h.again hF hk q12
    by_cases z : (eD E s.1).2.1 = 0
    · rw [if_pos z]
      obtain ⟨c1, c2, c3, c4⟩ := cl_spec hF hk q12
      refine ⟨by show cl E s.1 + 1 ≤ E.length; omega, ?_, h.2.2⟩
      show s.2.map Prod.fst = (if ew E (cl E s.1) = 12 then _ else if ew E (cl E s.1) = 13 then (enc E (cl E s.1)).tail else _)
      rw [if_neg (by omega), if_pos c1, c2]
      exact h.2.1
    · rw [if_neg z]
      refine ⟨by show s.1 + 1 ≤ E.length; omega, ?_, fun x hx => ?_⟩
      · show s.1 :: s.2.map Prod.fst = (if ew E s.1 = 12 then s.1 :: enc E s.1 else _)
        rw [if_pos q12, h.2.1]
      · rcases List.mem_cons.mp hx with y | y
        · rw [y]; show 1 ≤ (eD E s.1).2.1 ∧ (eD E s.1).2.1 ≤ 20; omega
        · exact h.2.2 x y
  · rw [if_neg q12]
    by_cases q13 : ew E s.1 = 13
    · rw [if_pos q13]
      obtain ⟨a, l, t, e1, e2, e3, e4, e5, e6, e7, e8⟩ := h.close hF hk q13
      rw [e1]
      show MOK E (if 0 < l - 1 then (a + 1, (a, l - 1) :: t) else (s.1 + 1, t))
      have ht : ∀ x ∈ t, 1 ≤ x.2 ∧ x.2 ≤ 20 := fun x hx => h.2.2 x (by rw [e1]; exact List.mem_cons_of_mem _ hx)
      by_cases z : 0 < l - 1
      · rw [if_pos z]
        refine ⟨by show a + 1 ≤ E.length; omega, ?_, fun x hx => ?_⟩
        · show a :: t.map Prod.fst = (if ew E a = 12 then a :: enc E a else _)
          rw [if_pos e5, e3]
        · rcases List.mem_cons.mp hx with y | y
          · rw [y]; show 1 ≤ l - 1 ∧ l - 1 ≤ 20; omega
          · exact ht x y
      · rw [if_neg z]
        refine ⟨by show s.1 + 1 ≤ E.length; omega, ?_, ht⟩
        show t.map Prod.fst = (if ew E s.1 = 12 then _ else if ew E s.1 = 13 then (enc E s.1).tail else _)
        rw [if_neg q12, if_pos q13, e2]
        exact e3
    · rw [if_neg q13]
      refine ⟨by show s.1 + 1 ≤ E.length; omega, ?_, h.2.2⟩
      show s.2.map Prod.fst = (if ew E s.1 = 12 then _ else if ew E s.1 = 13 then _ else enc E s.1)
      rw [if_neg q12, if_neg q13]
      exact h.2.1
/-! the measure -/
def wgt (d : Nat) : Int := if d = 0 then 1 else if d = 1 then 21 else 441
def cfD (d : Nat) : Int := if d = 0 then 441 else if d = 1 then 21 else 1
def Fp (E : List EN) (k : Nat) : Int := sT (fun j => wgt (enc E j).length) k
def mz (E : List EN) : List (Nat × Int) → Int → Int
  | [], x => 441 * (Fp E E.length - x)
  | y :: t, x => mz E t (Fp E (cl E y.1 + 1)) + cfD (t.length + 1) * ((y.2 - 1) * (Fp E (cl E y.1 + 1) - Fp E (y.1 + 1)) + (Fp E (cl E y.1 + 1) - x))
def Mz (E : List EN) (s : MS) : Int := mz E s.2 (Fp E s.1)
theorem wgt_pos (d : Nat) : 1 ≤ wgt d ∧ wgt d ≤ 441 := by unfold wgt; split <;> (try split) <;> omega
theorem cfD_wgt {d : Nat} (h : d ≤ 2) : cfD d * wgt d = 441 := by
  rcases (show d = 0 ∨ d = 1 ∨ d = 2 by omega) with rfl | rfl | rfl <;> rfl
theorem Fp_succ (E : List EN) (k : Nat) : Fp E (k + 1) = Fp E k + wgt (enc E k).length := rfl
theorem Fp_mono (E : List EN) {a : Nat} : ∀ n : Nat, Fp E a ≤ Fp E (a + n)
  | 0 => Int.le_refl _
  | n + 1 => by
    have := Fp_mono E (a := a) n
    have := (wgt_pos (enc E (a + n)).length).1
    show Fp E a ≤ Fp E (a + n + 1)
    rw [Fp_succ]; omega
theorem Fp_le (E : List EN) {a b : Nat} (h : a ≤ b) : Fp E a ≤ Fp E b := by
  have := Fp_mono E (a := a) (b - a)
  rwa [show a + (b - a) = b by omega] at this
theorem Fp_top (E : List EN) : ∀ k : Nat, 0 ≤ Fp E k ∧ Fp E k ≤ 441 * (k : Int)
  | 0 => ⟨Int.le_refl _, Int.le_refl _⟩
  | k + 1 => by
    have := Fp_top E k
    have := wgt_pos (enc E k).length
    rw [Fp_succ]
    omega
theorem mz_lin (E : List EN) (st : List (Nat × Int)) (x y : Int) : mz E st x - mz E st y = cfD st.length * (y - x) := by
  cases st with
  | nil =>
    show 441 * (Fp E E.length - x) - 441 * (Fp E E.length - y) = 441 * (y - x)
    omega
  | cons z t =>
    show (mz E t (Fp E (cl E z.1 + 1)) + cfD (t.length + 1) * ((z.2 - 1) * (Fp E (cl E z.1 + 1) - Fp E (z.1 + 1)) + (Fp E (cl E z.1 + 1) - x))) - (mz E t (Fp E (cl E z.1 + 1)) + cfD (t.length + 1) * ((z.2 - 1) * (Fp E (cl E z.1 + 1) - Fp E (z.1 + 1)) + (Fp E (cl E z.1 + 1) - y))) = cfD (t.length + 1) * (y - x)
    generalize (z.2 - 1) * (Fp E (cl E z.1 + 1) - Fp E (z.1 + 1)) = u
    generalize mz E t (Fp E (cl E z.1 + 1)) = v
    generalize Fp E (cl E z.1 + 1) = w
    have e : cfD (t.length + 1) * (u + (w - x)) - cfD (t.length + 1) * (u + (w - y)) = cfD (t.length + 1) * (y - x) := by
      rw [← Int.mul_sub]
      congr 1
      omega
    omega
theorem cfD_pos (d : Nat) : 1 ≤ cfD d := by unfold cfD; split <;> (try split) <;> omega
theorem mz_nn {bs : List Int} {E : List EN} (hF : FIN bs E) : ∀ (st : List (Nat × Int)) (k : Nat), MOK E (k, st) → 0 ≤ mz E st (Fp E k)
  | [], k, h => by
    have := Fp_le E h.1
    show 0 ≤ 441 * (Fp E E.length - Fp E k)
    have h1 : Fp E k ≤ Fp E E.length := this
    omega
  | y :: t, k, h => by
    obtain ⟨a, l⟩ := y
    have hm : a :: t.map Prod.fst = enc E k := h.2.1
    obtain ⟨j1, j2, j3⟩ := enc_cons _ _ _ hm.symm
    have hk : k ≤ E.length := h.1
    obtain ⟨c1, c2, c3, c4⟩ := cl_spec hF (a := a) (by omega) j2
    have g1 : k ≤ cl E a := in_cl hF hk (by rw [← hm]; exact List.mem_cons_self) j2
    have ih := mz_nn hF t (cl E a + 1) ⟨by show cl E a + 1 ≤ E.length; omega, by
      show t.map Prod.fst = (if ew E (cl E a) = 12 then _ else if ew E (cl E a) = 13 then (enc E (cl E a)).tail else _)
      rw [if_neg (by omega), if_pos c1, c2]
      exact j3, fun x hx => h.2.2 x (List.mem_cons_of_mem _ hx)⟩
    have hl := h.2.2 (a, l) List.mem_cons_self
    have hl : 1 ≤ l ∧ l ≤ 20 := hl
    have f1 := Fp_le E (show a + 1 ≤ cl E a + 1 by omega)
    have f2 := Fp_le E (show k ≤ cl E a + 1 by omega)
    have p1 : 0 ≤ (l - 1) * (Fp E (cl E a + 1) - Fp E (a + 1)) := Int.mul_nonneg (by omega) (by omega)
    have p2 : 0 ≤ cfD (t.length + 1) * ((l - 1) * (Fp E (cl E a + 1) - Fp E (a + 1)) + (Fp E (cl E a + 1) - Fp E k)) := Int.mul_nonneg (by have := cfD_pos (t.length + 1); omega) (by omega)
    show 0 ≤ mz E t (Fp E (cl E a + 1)) + cfD (t.length + 1) * ((l - 1) * (Fp E (cl E a + 1) - Fp E (a + 1)) + (Fp E (cl E a + 1) - Fp E k))
    omega
theorem Mz_nn {bs : List Int} {E : List EN} (hF : FIN bs E) {s : MS} (h : MOK E s) : 0 ≤ Mz E s := mz_nn hF s.2 s.1 h
theorem mst_dec {bs : List Int} {E : List EN} {s : MS} (h : MOK E s) (hF : FIN bs E) (hk : s.1 < E.length) : Mz E (mst E s) + 441 ≤ Mz E s := by
  have hlen : (enc E s.1).length = s.2.length := by rw [← h.2.1, List.length_map]
  have hl2 := h.len hF
  have hfs : Fp E (s.1 + 1) = Fp E s.1 + wgt s.2.length := by rw [Fp_succ, hlen]
  have hcw := cfD_wgt hl2
  -- on by one entry
  have one : mz E s.2 (Fp E (s.1 + 1)) + 441 = mz E s.2 (Fp E s.1) := by
    have := mz_lin E s.2 (Fp E s.1) (Fp E (s.1 + 1))
    rw [hfs, show Fp E s.1 + wgt s.2.length - Fp E s.1 = wgt s.2.length by omega, hcw] at this
    rw [hfs]
    omega
  unfold mst Mz
  by_cases q12 : ew E s.1 = 12
  · rw [if_pos q12]
    obtain ⟨hl1, n1, n2⟩ := h.again hF hk q12
    obtain ⟨c1, c2, c3, c4⟩ := cl_spec hF hk q12
    have f1 := Fp_le E (show s.1 + 1 ≤ cl E s.1 + 1 by omega)
    by_cases z : (eD E s.1).2.1 = 0
    · rw [if_pos z]
      show mz E s.2 (Fp E (cl E s.1 + 1)) + 441 ≤ mz E s.2 (Fp E s.1)
      have := mz_lin E s.2 (Fp E (s.1 + 1)) (Fp E (cl E s.1 + 1))
      have : 0 ≤ cfD s.2.length * (Fp E (cl E s.1 + 1) - Fp E (s.1 + 1)) := Int.mul_nonneg (by have := cfD_pos s.2.length; omega) (by omega)
      omega
    · rw [if_neg z]
      show mz E s.2 (Fp E (cl E s.1 + 1)) + cfD (s.2.length + 1) * (((eD E s.1).2.1 - 1) * (Fp E (cl E s.1 + 1) - Fp E (s.1 + 1)) + (Fp E (cl E s.1 + 1) - Fp E (s.1 + 1))) + 441 ≤ mz E s.2 (Fp E s.1)
      have l1 := mz_lin E s.2 (Fp E (s.1 + 1)) (Fp E (cl E s.1 + 1))
      have hB : 0 ≤ Fp E (cl E s.1 + 1) - Fp E (s.1 + 1) := by omega
      generalize mz E s.2 (Fp E (cl E s.1 + 1)) = M1 at l1 ⊢
      generalize mz E s.2 (Fp E (s.1 + 1)) = M2 at l1 one
      generalize mz E s.2 (Fp E s.1) = M3 at one ⊢
      generalize Fp E (cl E s.1 + 1) - Fp E (s.1 + 1) = B at l1 hB ⊢
      have e : ((eD E s.1).2.1 - 1) * B + B = (eD E s.1).2.1 * B := by rw [Int.sub_mul, Int.one_mul]; omega
      have hn : (eD E s.1).2.1 * B ≤ 20 * B := Int.mul_le_mul_of_nonneg_right n2 hB
      rw [e]
      rcases (show s.2.length = 0 ∨ s.2.length = 1 by omega) with y | y
      · rw [y] at l1 ⊢
        rw [show cfD 0 = 441 from rfl] at l1
        rw [show cfD (0 + 1) = 21 from rfl]
        omega
      · rw [y] at l1 ⊢
        rw [show cfD 1 = 21 from rfl] at l1
        rw [show cfD (1 + 1) = 1 from rfl]
        omega
  · rw [if_neg q12]
    by_cases q13 : ew E s.1 = 13
    · rw [if_pos q13]
      obtain ⟨a, l, t, e1, e2, e3, e4, e5, e6, e7, e8⟩ := h.close hF hk q13
      rw [e1] at one ⊢
      have hc : cl E a + 1 = s.1 + 1 := by rw [e6]
      by_cases z : 0 < l - 1
      · show mz E (if 0 < l - 1 then (a + 1, (a, l - 1) :: t) else (s.1 + 1, t) : MS).2 (Fp E (if 0 < l - 1 then (a + 1, (a, l - 1) :: t) else (s.1 + 1, t) : MS).1) + 441 ≤ _
        rw [if_pos z]
        show mz E t (Fp E (cl E a + 1)) + cfD (t.length + 1) * ((l - 1 - 1) * (Fp E (cl E a + 1) - Fp E (a + 1)) + (Fp E (cl E a + 1) - Fp E (a + 1))) + 441 ≤ mz E t (Fp E (cl E a + 1)) + cfD (t.length + 1) * ((l - 1) * (Fp E (cl E a + 1) - Fp E (a + 1)) + (Fp E (cl E a + 1) - Fp E s.1))
        have one : mz E t (Fp E (cl E a + 1)) + cfD (t.length + 1) * ((l - 1) * (Fp E (cl E a + 1) - Fp E (a + 1)) + (Fp E (cl E a + 1) - Fp E (s.1 + 1))) + 441 = mz E t (Fp E (cl E a + 1)) + cfD (t.length + 1) * ((l - 1) * (Fp E (cl E a + 1) - Fp E (a + 1)) + (Fp E (cl E a + 1) - Fp E s.1)) := one
        rw [hc] at one ⊢
        generalize Fp E (s.1 + 1) - Fp E (a + 1) = B at one ⊢
        have e : (l - 1 - 1) * B + B = (l - 1) * B := by rw [Int.sub_mul (l - 1) 1, Int.one_mul]; omega
        rw [e]
        rw [Int.sub_self, Int.add_zero] at one
        omega
      · show mz E (if 0 < l - 1 then (a + 1, (a, l - 1) :: t) else (s.1 + 1, t) : MS).2 (Fp E (if 0 < l - 1 then (a + 1, (a, l - 1) :: t) else (s.1 + 1, t) : MS).1) + 441 ≤ _
        rw [if_neg z]
        show mz E t (Fp E (s.1 + 1)) + 441 ≤ mz E t (Fp E (cl E a + 1)) + cfD (t.length + 1) * ((l - 1) * (Fp E (cl E a + 1) - Fp E (a + 1)) + (Fp E (cl E a + 1) - Fp E s.1))
        have one : mz E t (Fp E (cl E a + 1)) + cfD (t.length + 1) * ((l - 1) * (Fp E (cl E a + 1) - Fp E (a + 1)) + (Fp E (cl E a + 1) - Fp E (s.1 + 1))) + 441 = mz E t (Fp E (cl E a + 1)) + cfD (t.length + 1) * ((l - 1) * (Fp E (cl E a + 1) - Fp E (a + 1)) + (Fp E (cl E a + 1) - Fp E s.1)) := one
        rw [hc] at one ⊢
        have hl : l - 1 = 0 := by omega
        rw [hl, Int.zero_mul, Int.zero_add, Int.sub_self, Int.mul_zero] at one
        rw [hl, Int.zero_mul, Int.zero_add]
        rw [Int.zero_add] at one
        omega
    · rw [if_neg q13]
      show mz E s.2 (Fp E (s.1 + 1)) + 441 ≤ mz E s.2 (Fp E s.1)
      omega
theorem Mz_0 {bs : List Int} {E : List EN} (hF : FIN bs E) : MOK E (0, []) ∧ Mz E (0, []) ≤ 12000000 := by
  have := Fp_top E E.length
  have h60 := hF.1
  refine ⟨⟨Nat.zero_le _, rfl, fun x hx => absurd hx List.not_mem_nil⟩, ?_⟩
  show 441 * (Fp E E.length - 0) ≤ 12000000
  omega
/-! running -/
def nx (E : List EN) : Nat → MS → MS
  | 0, s => s
  | n + 1, s => if s.1 < E.length ∧ (ew E s.1 = 12 ∨ ew E s.1 = 13) then nx E n (mst E s) else s
noncomputable def pl (bs : List Int) (E : List EN) : Nat → MS → GS → Nat → GS × Nat
  | 0, _, g, d => (g, d)
  | n + 1, s, g, d => if s.1 < E.length ∧ d < 40 then (if ew E s.1 = 12 ∨ ew E s.1 = 13 then pl bs E n (mst E s) g d else (if (dO bs (eD E s.1) g).2 = true then pl bs E n (mst E s) (dO bs (eD E s.1) g).1 (d + 1) else ((dO bs (eD E s.1) g).1, d))) else (g, d)
theorem pl_far {bs : List Int} {E : List EN} (hF : FIN bs E) : ∀ (n m : Nat) (s : MS) (g : GS) (d : Nat), MOK E s → Mz E s < n → Mz E s < m → pl bs E n s g d = pl bs E m s g d
  | 0, m, s, g, d, h, h1, _ => by have := Mz_nn hF h; omega
  | n + 1, 0, s, g, d, h, _, h1 => by have := Mz_nn hF h; omega
  | n + 1, m + 1, s, g, d, h, h1, h2 => by
    show (if s.1 < E.length ∧ d < 40 then (if ew E s.1 = 12 ∨ ew E s.1 = 13 then pl bs E n (mst E s) g d else (if (dO bs (eD E s.1) g).2 = true then pl bs E n (mst E s) (dO bs (eD E s.1) g).1 (d + 1) else ((dO bs (eD E s.1) g).1, d))) else (g, d)) = (if s.1 < E.length ∧ d < 40 then (if ew E s.1 = 12 ∨ ew E s.1 = 13 then pl bs E m (mst E s) g d else (if (dO bs (eD E s.1) g).2 = true then pl bs E m (mst E s) (dO bs (eD E s.1) g).1 (d + 1) else ((dO bs (eD E s.1) g).1, d))) else (g, d))
    by_cases q : s.1 < E.length ∧ d < 40
    · have hd := mst_dec h hF q.1
      have ho := mst_ok h hF q.1
      rw [if_pos q, if_pos q, pl_far hF n m (mst E s) g d ho (by omega) (by omega), pl_far hF n m (mst E s) (dO bs (eD E s.1) g).1 (d + 1) ho (by omega) (by omega)]
    · rw [if_neg q, if_neg q]
theorem nx_ok {bs : List Int} {E : List EN} (hF : FIN bs E) : ∀ (n : Nat) (s : MS), MOK E s → Mz E s < n → MOK E (nx E n s) ∧ Mz E (nx E n s) ≤ Mz E s ∧ ¬ ((nx E n s).1 < E.length ∧ (ew E (nx E n s).1 = 12 ∨ ew E (nx E n s).1 = 13))
  | 0, s, h, h1 => by have := Mz_nn hF h; omega
  | n + 1, s, h, h1 => by
    show MOK E (if s.1 < E.length ∧ (ew E s.1 = 12 ∨ ew E s.1 = 13) then nx E n (mst E s) else s) ∧ Mz E (if s.1 < E.length ∧ (ew E s.1 = 12 ∨ ew E s.1 = 13) then nx E n (mst E s) else s) ≤ Mz E s ∧ ¬ ((if s.1 < E.length ∧ (ew E s.1 = 12 ∨ ew E s.1 = 13) then nx E n (mst E s) else s).1 < E.length ∧ (ew E (if s.1 < E.length ∧ (ew E s.1 = 12 ∨ ew E s.1 = 13) then nx E n (mst E s) else s).1 = 12 ∨ ew E (if s.1 < E.length ∧ (ew E s.1 = 12 ∨ ew E s.1 = 13) then nx E n (mst E s) else s).1 = 13))
    by_cases q : s.1 < E.length ∧ (ew E s.1 = 12 ∨ ew E s.1 = 13)
    · rw [if_pos q]
      have hd := mst_dec h hF q.1
      obtain ⟨a, b, c⟩ := nx_ok hF n (mst E s) (mst_ok h hF q.1) (by omega)
      exact ⟨a, by omega, c⟩
    · rw [if_neg q]
      exact ⟨h, Int.le_refl _, q⟩
theorem pl_nx {bs : List Int} {E : List EN} (hF : FIN bs E) {g : GS} {d : Nat} : ∀ (n : Nat) (s : MS), MOK E s → Mz E s < n → pl bs E n s g d = pl bs E n (nx E n s) g d
  | 0, s, h, h1 => rfl
  | n + 1, s, h, h1 => by
    by_cases q : s.1 < E.length ∧ (ew E s.1 = 12 ∨ ew E s.1 = 13)
    · have hd := mst_dec h hF q.1
      have ho := mst_ok h hF q.1
      have e1 : nx E (n + 1) s = nx E n (mst E s) := if_pos q
      obtain ⟨a, b, c⟩ := nx_ok hF n (mst E s) ho (by omega)
      rw [e1]
      by_cases q40 : d < 40
      · have e2 : pl bs E (n + 1) s g d = pl bs E n (mst E s) g d := by
          show (if s.1 < E.length ∧ d < 40 then (if ew E s.1 = 12 ∨ ew E s.1 = 13 then pl bs E n (mst E s) g d else _) else _) = _
          rw [if_pos ⟨q.1, q40⟩, if_pos q.2]
        rw [e2, pl_nx hF n (mst E s) ho (by omega), pl_far hF n (n + 1) (nx E n (mst E s)) g d a (by omega) (by omega)]
      · have e3 : ∀ u : MS, pl bs E (n + 1) u g d = (g, d) := fun u => by
          show (if u.1 < E.length ∧ d < 40 then _ else _) = _
          rw [if_neg (fun y => q40 y.2)]
        rw [e3, e3]
    · have e1 : nx E (n + 1) s = s := if_neg q
      rw [e1]
theorem pl_wf {bs : List Int} {E : List EN} (hF : FIN bs E) : ∀ (n : Nat) (s : MS) (g : GS) (d : Nat), WF g → WF (pl bs E n s g d).1
  | 0, s, g, d, w => w
  | n + 1, s, g, d, w => by
    show WF (if s.1 < E.length ∧ d < 40 then (if ew E s.1 = 12 ∨ ew E s.1 = 13 then pl bs E n (mst E s) g d else (if (dO bs (eD E s.1) g).2 = true then pl bs E n (mst E s) (dO bs (eD E s.1) g).1 (d + 1) else ((dO bs (eD E s.1) g).1, d))) else (g, d)).1
    by_cases q : s.1 < E.length ∧ d < 40
    · rw [if_pos q]
      by_cases q2 : ew E s.1 = 12 ∨ ew E s.1 = 13
      · rw [if_pos q2]; exact pl_wf hF n _ g d w
      · rw [if_neg q2]
        have w2 := dO_wf (bs := bs) w (hF.2.2.2.2 s.1 q.1) (fun y => q2 (Or.inl y)) (fun y => q2 (Or.inr y))
        by_cases q3 : (dO bs (eD E s.1) g).2 = true
        · rw [if_pos q3]; exact pl_wf hF n _ _ _ w2
        · rw [if_neg q3]; exact w2
    · rw [if_neg q]; exact w
end
section
/-! ===== play: the class ===== -/
theorem tr_inr {σ ρ : Type} {P : σ → Mem → Prop} {Q : ρ → Mem → Prop} {r : ρ} {J : Mem} (h : Q r J) : Tr (some ((Sum.inr r : σ ⊕ ρ), J)) (LQ P Q) := tr_ret (show LQ P Q (.inr r) J from h)
theorem tr_inl {σ ρ : Type} {P : σ → Mem → Prop} {Q : ρ → Mem → Prop} {s : σ} {J : Mem} (h : P s J) : Tr (some ((Sum.inl s : σ ⊕ ρ), J)) (LQ P Q) := tr_ret (show LQ P Q (.inl s) J from h)
section CPLAY
variable {I J : Mem} {g g' : GS} {ps : List GS} {kp : Nat → Option GS} {bs rp : List Int} {E : List EN}
def TLc (I : Mem) (st : List (Nat × Int)) : Prop := ∀ x ∈ st, I 21 4 x.1 = x.2
abbrev FOr : FP := fun k i _ => k = 21 ∧ i = 4
theorem SCl.fo (h : SCl I E) (f : Fm FOr I J) : SCl J E := h.fm f (by unfold FOr; omega) (fun k i s z => by unfold FOr; omega)
theorem mem_enc {s : MS} (h : MOK E s) {x : Nat × Int} (hx : x ∈ s.2) : x.1 < s.1 := enc_lt s.1 x.1 (by rw [← h.2.1]; exact List.mem_map.mpr ⟨x, hx, rfl⟩)
theorem c_isEntryN (h : SCl I E) (hl : E.length ≤ 60) {k : Nat} (hk : E.length ≤ k) (h6 : k ≤ 100) : f_Scr_isEntry (k : Int) I = some (0, I) := by
  unfold f_Scr_isEntry
  rw [h.1, w32_of (x := (k : Int)) (by omega) (by omega), w32_of (x := (E.length : Int)) (by omega) (by omega), if_neg (by omega), if_neg (by omega)]
theorem c_turn {a b : Nat} {l : Int} (ha : a < 60) (hl : J 21 4 a = l) (h1 : -1000 ≤ l) (h2 : l ≤ 1000) : f_Scr_turn (a : Int) (b : Int) J = some ((if 0 < l then ((a + 1 : Nat) : Int) else ((b + 1 : Nat) : Int)), J) := by
  unfold f_Scr_turn
  rw [w32_of (x := (a : Int)) (by omega) (by omega), if_pos (by omega), Int.toNat_natCast, hl, w32_of (x := l) (by omega) (by omega)]
  by_cases q : 0 < l
  · rw [if_pos q, if_pos q]; rfl
  · rw [if_neg q, if_neg q]; rfl
theorem mst_12 {s : MS} (q : ew E s.1 = 12) : mst E s = if (eD E s.1).2.1 = 0 then (cl E s.1 + 1, s.2) else (s.1 + 1, (s.1, (eD E s.1).2.1) :: s.2) := by
  unfold mst
  rw [if_pos q]
theorem mst_13 {s : MS} (q : ew E s.1 = 13) {a : Nat} {l : Int} {t : List (Nat × Int)} (e : s.2 = (a, l) :: t) : mst E s = if 0 < l - 1 then (a + 1, (a, l - 1) :: t) else (s.1 + 1, t) := by
  unfold mst
  rw [if_neg (by omega), if_pos q, e]
theorem mst_no {s : MS} (q : ¬ (ew E s.1 = 12 ∨ ew E s.1 = 13)) : mst E s = (s.1 + 1, s.2) := by
  unfold mst
  rw [if_neg (fun z => q (Or.inl z)), if_neg (fun z => q (Or.inr z))]
theorem t_orderL (hF : FIN bs E) : ∀ (n : Nat) (s : MS) (m : Nat) (I : Mem), MOK E s → Mz E s < n → 441 * (m : Int) + Mz E s ≤ 12000000 → SCl I E → TLc I s.2 → Tr (whl f_Scr_orderFrom_w4 ((s.1 : Int), (m : Int)) I) (fun x K => x = (if (nx E n s).1 < E.length then ((nx E n s).1 : Int) else -1) ∧ TLc K (nx E n s).2 ∧ Fm FOr I K) := by
  intro n
  induction n with
  | zero => intro s m I h h1; have := Mz_nn hF h; omega
  | succ n ih =>
    intro s m I h h1 h2 hS hT
    have h60 := hF.1
    have hz := Mz_nn hF h
    have hk := h.1
    have next : ∀ (K : Mem) (x : Int), s.1 < E.length ∧ (ew E s.1 = 12 ∨ ew E s.1 = 13) → x = ((mst E s).1 : Int) → TLc K (mst E s).2 → Fm FOr I K → Tr (whl f_Scr_orderFrom_w4 (x, (m : Int) + 1) K) (fun x K => x = (if (nx E (n + 1) s).1 < E.length then ((nx E (n + 1) s).1 : Int) else -1) ∧ TLc K (nx E (n + 1) s).2 ∧ Fm FOr I K) := by
      rintro K x hq rfl hT' f
      have e1 : nx E (n + 1) s = nx E n (mst E s) := if_pos hq
      have hd := mst_dec h hF hq.1
      rw [e1]
      refine tr_mono (ih (mst E s) (m + 1) K (mst_ok h hF hq.1) (by omega) (by omega) (hS.fo f) hT') ?_
      rintro y L ⟨z1, z2, z3⟩
      exact ⟨z1, z2, f.trans z3⟩
    refine tr_step ?_
    unfold f_Scr_orderFrom_w4
    dsimp only
    rw [w32_of (x := (m : Int)) (by omega) (by omega), if_pos (by omega)]
    by_cases q : s.1 < E.length
    · have hv := hF.2.2.2.2 s.1 q
      have v1 := hv.1
      have v2 := hv.2.1
      obtain ⟨b1, -, b3⟩ := hS.2.1 s.1 q
      rw [c_isEntry hS h60 q, bnd_some, if_neg (by decide), w32_of (x := (s.1 : Int)) (by omega) (by omega), if_pos (by omega), Int.toNat_natCast, b1, Int.toNat_natCast, if_pos (by omega)]
      by_cases q12 : ew E s.1 = 12
      · have q12' : (eD E s.1).1 = 12 := q12
        obtain ⟨c1, c2, c3, c4⟩ := cl_spec hF q q12
        obtain ⟨-, n1, n2⟩ := h.again hF q q12
        have a0 : I 21 0 s.1 = (eD E s.1).2.1 := b3 (by omega) (by omega) (by omega) (by omega)
        have a3 : I 21 3 s.1 = (cl E s.1 : Int) := (hS.2.2 _ c4 c1 _ _ c2).2
        rw [if_pos q12']
        try dsimp only [ltI]
        rw [a0]
        have f1 : Fm FOr I (sI I 21 4 s.1 (eD E s.1).2.1) := Fm.sI (by decide) (by omega) (by omega) ⟨rfl, rfl⟩
        have e4 : (sI I 21 4 s.1 (eD E s.1).2.1) 21 4 s.1 = (eD E s.1).2.1 := sI_self _ _ _ _ _
        have e3 : (sI I 21 4 s.1 (eD E s.1).2.1) 21 3 s.1 = (cl E s.1 : Int) := by rw [sI_ne (by omega)]; exact a3
        have eo : ∀ x ∈ s.2, (sI I 21 4 s.1 (eD E s.1).2.1) 21 4 x.1 = x.2 := fun x hx => by
          have := mem_enc h hx
          rw [sI_ne (by omega)]
          exact hT x hx
        generalize sI I 21 4 s.1 (eD E s.1).2.1 = K at f1 e4 e3 eo
        rw [e3, c_turn (by omega) e4 (by omega) (by omega), bnd_some]
        refine tr_inl (next K _ ⟨q, Or.inl q12⟩ ?_ ?_ f1)
        · rw [mst_12 q12]
          by_cases z : (eD E s.1).2.1 = 0
          · rw [if_pos z, if_neg (by omega)]
          · rw [if_neg z, if_pos (by omega)]
        · rw [mst_12 q12]
          by_cases z : (eD E s.1).2.1 = 0
          · rw [if_pos z]; exact eo
          · rw [if_neg z]
            intro x hx
            rcases List.mem_cons.mp hx with y | y
            · rw [y]; exact e4
            · exact eo x y
      · have q12' : ¬ (eD E s.1).1 = 12 := q12
        rw [if_neg q12', if_pos (by omega)]
        by_cases q13 : ew E s.1 = 13
        · have q13' : (eD E s.1).1 = 13 := q13
          obtain ⟨a, l, t, e1, e2, e3, e4, e5, e6, e7, e8⟩ := h.close hF q q13
          have a3 : I 21 3 s.1 = (a : Int) := (hS.2.2 _ q q13 _ _ e2).1
          have a4 : I 21 4 a = l := hT (a, l) (by rw [e1]; exact List.mem_cons_self)
          rw [if_pos q13', a3, w32_of (x := (a : Int)) (by omega) (by omega), if_pos (by omega), Int.toNat_natCast, a4]
          try dsimp only [ltI]
          have f1 : Fm FOr I (sI I 21 4 a (l - 1)) := Fm.sI (by decide) (by omega) (by omega) ⟨rfl, rfl⟩
          have k4 : (sI I 21 4 a (l - 1)) 21 4 a = l - 1 := sI_self _ _ _ _ _
          have k3 : (sI I 21 4 a (l - 1)) 21 3 s.1 = (a : Int) := by rw [sI_ne (by omega)]; exact a3
          have eo : ∀ x ∈ t, (sI I 21 4 a (l - 1)) 21 4 x.1 = x.2 := fun x hx => by
            have : x.1 < a := enc_lt a x.1 (by rw [← e3]; exact List.mem_map.mpr ⟨x, hx, rfl⟩)
            rw [sI_ne (by omega)]
            exact hT x (by rw [e1]; exact List.mem_cons_of_mem _ hx)
          generalize sI I 21 4 a (l - 1) = K at f1 k4 k3 eo
          rw [k3, c_turn (by omega) k4 (by omega) (by omega), bnd_some]
          refine tr_inl (next K _ ⟨q, Or.inr q13⟩ ?_ ?_ f1)
          · rw [mst_13 q13 e1]
            by_cases z : 0 < l - 1
            · rw [if_pos z, if_pos z]
            · rw [if_neg z, if_neg z]
          · rw [mst_13 q13 e1]
            by_cases z : 0 < l - 1
            · rw [if_pos z]
              intro x hx
              rcases List.mem_cons.mp hx with y | y
              · rw [y]; exact k4
              · exact eo x y
            · rw [if_neg z]; exact eo
        · have q13' : ¬ (eD E s.1).1 = 13 := q13
          rw [if_neg q13']
          have e1 : nx E (n + 1) s = s := if_neg (fun y => y.2.elim q12 q13)
          rw [e1]
          exact tr_inr ⟨(if_pos q).symm, hT, Fm.refl _ _⟩
    · rw [c_isEntryN hS h60 (by omega) (by omega), bnd_some, if_pos (by decide)]
      have e1 : nx E (n + 1) s = s := if_neg (fun y => q y.1)
      rw [e1]
      exact tr_inr ⟨(if_neg q).symm, hT, Fm.refl _ _⟩
abbrev FPq : FP := fun k _ _ => k = 0 ∨ k = 6 ∨ k = 8 ∨ k = 20 ∨ k = 21
theorem SC.pq {bs' : List Int} (h : SC I (g, ps, kp, bs, rp)) (f : Fm FPq I J) (h6 : BfC J bs') : SC J (g, ps, kp, bs', rp) := by
  obtain ⟨a1, a2, a3, a4, a5, a6, a7⟩ := h
  exact ⟨a1.fm f (fun k i s z q => by unfold FG at z; unfold FPq at q; omega), a2.fm f (fun t _ k i s z q => by unfold FG at z; unfold FPq at q; omega), a3.fm f (fun i s => ⟨fun z => by unfold FPq at z; omega, fun z => by unfold FPq at z; omega⟩), a4.fm f (fun s z => by unfold FPq at z; omega) (fun t _ _ k i s z q => by unfold FG at z; unfold FPq at q; omega), a5.fm f (fun s z => by unfold FPq at z; omega) (fun t _ _ k i s z q => by unfold FG at z; unfold FPq at q; omega), h6, a7.fm f (fun s z => by unfold FPq at z; omega) (fun s z => by unfold FPq at z; omega)⟩
theorem BfC.fo (h : BfC I bs) (f : Fm FOr I J) : BfC J bs := h.fm f (by unfold FOr; omega) (fun s => by unfold FOr; omega)
theorem TLc.op {st : List (Nat × Int)} (h : TLc I st) (f : Fm FOp I J) : TLc J st := fun x hx => by rw [f.at (by decide) (by unfold FOp FG; omega)]; exact h x hx
abbrev FPl : FP := fun k i s => FOp k i s ∨ (k = 21 ∧ i = 4)
theorem t_playL (hF : FIN bs E) (hb : bs.length ≤ 600) : ∀ (n : Nat) (s : MS) (g : GS) (d : Nat) (I : Mem), MOK E s → Mz E s < n → Mz E s ≤ 12000000 → ¬ (s.1 < E.length ∧ (ew E s.1 = 12 ∨ ew E s.1 = 13)) → d ≤ 40 → SC I (g, ps, kp, bs, rp) → WF g → SCl I E → TLc I s.2 → Tr (whl f_PR_play_w50 ((d : Int), (if s.1 < E.length then (s.1 : Int) else -1)) I) (fun x K => x = ((pl bs E n s g d).2 : Int) ∧ SC K ((pl bs E n s g d).1, ps, kp, bs, rp) ∧ Fm FPl I K) := by
  intro n
  induction n with
  | zero => intro s g d I h h1; have := Mz_nn hF h; omega
  | succ n ih =>
    intro s g d I h h1 hM hst hd hC w hS hT
    have h60 := hF.1
    have hz := Mz_nn hF h
    have hk := h.1
    have e0 : pl bs E (n + 1) s g d = if s.1 < E.length ∧ d < 40 then (if ew E s.1 = 12 ∨ ew E s.1 = 13 then pl bs E n (mst E s) g d else (if (dO bs (eD E s.1) g).2 = true then pl bs E n (mst E s) (dO bs (eD E s.1) g).1 (d + 1) else ((dO bs (eD E s.1) g).1, d))) else (g, d) := rfl
    refine tr_step ?_
    unfold f_PR_play_w50
    dsimp only
    rw [w32_of (x := (d : Int)) (by omega) (by omega)]
    by_cases q40 : d < 40
    · rw [if_pos (by omega)]
      by_cases q : s.1 < E.length
      · have hno : ¬ (ew E s.1 = 12 ∨ ew E s.1 = 13) := fun y => hst ⟨q, y⟩
        rw [if_pos q, w32_of (x := (s.1 : Int)) (by omega) (by omega), if_neg (by omega)]
        rw [if_pos ⟨q, q40⟩, if_neg hno] at e0
        have hdc := mst_dec h hF q
        have hok := mst_ok h hF q
        have w2 := dO_wf (bs := bs) w (hF.2.2.2.2 s.1 q) (fun y => hno (Or.inl y)) (fun y => hno (Or.inr y))
        refine tr_call (t_doOrder hC w hb hS h60 q (hF.2.2.2.2 s.1 q) (fun y => hno (Or.inl y)) (fun y => hno (Or.inr y))) ?_
        rintro x K ⟨rfl, sc, f⟩
        by_cases q3 : (dO bs (eD E s.1) g).2 = true
        · rw [if_pos q3] at e0
          rw [if_neg (wb_pos q3)]
          have em := mst_no hno
          have hS2 := hS.op f
          have hT2 := hT.op f
          have ho := t_orderL hF n (mst E s) 0 K hok (by omega) (by omega) hS2 (by rw [em]; exact hT2)
          have e2 : (((mst E s).1 : Nat) : Int) = (s.1 : Int) + 1 := by rw [em]; rfl
          rw [e2] at ho
          unfold f_Scr_orderBehind f_Scr_orderFrom
          refine tr_call (tr_call ho (fun _ _ z => tr_ret z)) ?_
          rintro x L ⟨rfl, t2, f2⟩
          obtain ⟨x1, x2, x3⟩ := nx_ok hF n (mst E s) hok (by omega)
          rw [e0, pl_nx hF n (mst E s) hok (by omega)]
          refine tr_inl (tr_mono (ih (nx E n (mst E s)) (dO bs (eD E s.1) g).1 (d + 1) L x1 (by omega) (by omega) x3 (by omega) (sc.pq (f2.mono (fun a b c z => Or.inr (Or.inr (Or.inr (Or.inr z.1))))) (BfC.fo sc.2.2.2.2.2.1 f2)) w2 (hS2.fo f2) t2) ?_)
          rintro y M ⟨z1, z2, z3⟩
          exact ⟨z1, z2, (f.mono (fun a b c z => Or.inl z)).trans ((f2.mono (fun a b c z => Or.inr z)).trans z3)⟩
        · rw [if_neg q3] at e0
          rw [if_pos (wb_neg q3), e0]
          exact tr_inr ⟨rfl, sc, f.mono (fun a b c z => Or.inl z)⟩
      · rw [if_neg (fun y => q y.1)] at e0
        rw [if_neg q, if_pos (by decide), e0]
        exact tr_inr ⟨rfl, hC, Fm.refl _ _⟩
    · rw [if_neg (fun y => q40 y.2)] at e0
      rw [if_neg (by omega), e0]
      exact tr_inr ⟨rfl, hC, Fm.refl _ _⟩
/-- behind a play -/
noncomputable def plS (bs : List Int) (E : List EN) (g : GS) : GS × Nat := pl bs E ((Mz E (0, [])).toNat + 1) (0, []) g 0
noncomputable def plT (s : SS) : Int ⊕ PS → Int × SS
  | .inl e => (-10 - e, (s.1, s.2.1, s.2.2.1, [], s.2.2.2.2))
  | .inr t => (((plS s.2.2.2.1 t.1 s.1).2 : Int), ((plS s.2.2.2.1 t.1 s.1).1, pushP s.2.1 s.1, s.2.2.1, [], s.2.2.2.2))
noncomputable def playS (s : SS) : Int × SS := plT s (scr s.2.2.2.1 601 [] 0 0)
theorem scr_fin {bs : List Int} {t : PS} (e : scr bs 601 [] 0 0 = .inr t) : FIN bs t.1 := by
  obtain ⟨a, b⟩ := scr_inv 601 [] 0 0 t SEI.nil e
  exact a.fin b
theorem fscr_pq : ∀ k i s : Nat, FSc k i s → FPq k i s := fun k i s z => by unfold FSc FSx at z; unfold FPq; omega
theorem fpq_cl : ∀ k i s : Nat, FPq k i s → FCl k i s := fun k i s z => by unfold FPq at z; unfold FCl; omega
theorem t_cplay (h : SC I (g, ps, kp, bs, rp)) (w : WF g) (hl : bs.length ≤ 600) (hr : ∀ b ∈ bs, 1 ≤ b ∧ b ≤ 255) : Tr (f_PR_play I) (fun x J => x = (playS (g, ps, kp, bs, rp)).1 ∧ SC J (playS (g, ps, kp, bs, rp)).2 ∧ Fm FCl I J) := by
  have e0 : playS (g, ps, kp, bs, rp) = plT (g, ps, kp, bs, rp) (scr bs 601 [] 0 0) := rfl
  rw [e0]
  unfold f_PR_play
  refine tr_call (t_scrRead hl hr h.2.2.2.2.2.1) ?_
  rintro x J1 ⟨ok, hB1, f1⟩
  have drop : ∀ {K : Mem} {g : GS} {ps : List GS}, SC K (g, ps, kp, bs, rp) → SC (sI K 6 0 1 0) (g, ps, kp, [], rp) ∧ Fm FPq K (sI K 6 0 1 0) := fun {K _ _} hK => by
    have f2 : Fm FPq K (sI K 6 0 1 0) := Fm.sI (by decide) (by omega) (by omega) (Or.inr (Or.inl rfl))
    exact ⟨hK.pq f2 (bfc_0 (sI_self _ _ _ _ _)), f2⟩
  cases hc : scr bs 601 [] 0 0 with
  | inl e =>
    rw [hc] at ok
    obtain ⟨rfl, k6⟩ := ok
    rw [if_pos (by decide)]
    obtain ⟨sc2, f2⟩ := drop (h.pq (f1.mono fscr_pq) hB1)
    unfold f_Src_dropAll
    try dsimp only [ltI]
    rw [bnd_some]
    have k6' : (sI J1 6 0 1 0) 6 0 6 = e := by rw [sI_ne (by omega)]; exact k6
    generalize sI J1 6 0 1 0 = J2 at sc2 f2 k6'
    unfold f_PR_failure
    try dsimp only [ltI]
    rw [bnd_some]
    have f3n : Fm (fun k _ _ => k = 0) J2 (sI J2 0 0 9 (J2 6 0 7)) := Fm.sI (by decide) (by omega) (by omega) rfl
    have k6'' : (sI J2 0 0 9 (J2 6 0 7)) 6 0 6 = e := by rw [sI_ne (by omega)]; exact k6'
    generalize sI J2 0 0 9 (J2 6 0 7) = J3 at f3n k6''
    rw [k6'']
    have hb3 : BfC J3 [] := BfC.fm sc2.2.2.2.2.2.1 f3n (by omega) (fun s => by omega)
    have f3 : Fm FPq J2 J3 := f3n.mono (fun a b c z => Or.inl z)
    exact tr_ret ⟨rfl, sc2.pq f3 hb3, (f1.mono (fun a b c z => fpq_cl _ _ _ (fscr_pq _ _ _ z))).trans ((f2.trans f3).mono fpq_cl)⟩
  | inr t =>
    rw [hc] at ok
    obtain ⟨rfl, ok⟩ := ok
    have hF := scr_fin hc
    obtain ⟨hM0, hM1⟩ := Mz_0 hF
    rw [if_neg (by decide)]
    have sc1 : SC J1 (g, ps, kp, bs, rp) := h.pq (f1.mono fscr_pq) hB1
    have hS1 : SCl J1 t.1 := ok.2.2.1
    try dsimp only [ltI]
    have f2 : Fm (fun k _ _ => k = 0) J1 (sI J1 0 0 9 (-1)) := Fm.sI (by decide) (by omega) (by omega) rfl
    generalize sI J1 0 0 9 (-1) = J2 at f2
    have hB2 : BfC J2 bs := BfC.fm hB1 f2 (by omega) (fun s => by omega)
    have sc2 : SC J2 (g, ps, kp, bs, rp) := sc1.pq (f2.mono (fun a b c z => Or.inl z)) hB2
    have hS2 : SCl J2 t.1 := hS1.fm f2 (by omega) (fun k i s z => by omega)
    obtain ⟨a1, a2, a3, a4, a5, a6, a7⟩ := sc2
    refine tr_call (t_hrem a1 a2 a4) ?_
    rintro _ J3 ⟨hc3, ag, f3⟩
    have n1 : ∀ k i s : Nat, FHis k i s → k ∈ [1, 2, 9, 12, 14, 15] ∧ (k = 9 ∨ ∃ t : Nat, 2 ≤ t ∧ t < 10 ∧ FG t k i s) := fun k i s z => by
      rcases z with ⟨t, h1, h2, h3⟩ | rfl
      · refine ⟨?_, Or.inr ⟨t, h1, h2, h3⟩⟩
        unfold FG at h3
        rcases h3 with ⟨rfl | rfl, _⟩ | ⟨rfl | rfl | rfl, _⟩ <;> decide
      · exact ⟨by decide, Or.inl rfl⟩
    have nk : ∀ q : Nat, q ∉ [1, 2, 9, 12, 14, 15] → ∀ i s : Nat, ¬ FHis q i s := fun q hq i s z => hq (n1 q i s z).1
    have ng : ∀ t : Nat, (t < 2 ∨ 10 ≤ t) → ∀ k i s : Nat, FG t k i s → ¬ FHis k i s := fun t ht k i s z q => by
      rcases (n1 k i s q).2 with rfl | ⟨u, h1, h2, h3⟩
      · unfold FG at z; omega
      · clear q n1 nk
        unfold FG at z h3; omega
    have sc3 : SC J3 (g, pushP ps g, kp, bs, rp) := ⟨a1.fm f3 (ng 0 (by omega)), ag, a3.fm f3 (fun i s => ⟨nk 4 (by decide) i s, nk 16 (by decide) i s⟩), hc3, a5.fm f3 (fun s => nk 24 (by decide) 0 s) (fun t h1 _ => ng t (by omega)), a6.fm f3 (nk 6 (by decide) 0 1) (fun s => nk 19 (by decide) 0 s), a7.fm f3 (fun s => nk 10 (by decide) 0 s) (fun s => nk 25 (by decide) 0 s)⟩
    have hS3 : SCl J3 t.1 := hS2.fm f3 (nk 8 (by decide) 0 8) (fun k i s z => by
      rcases z with rfl | ⟨rfl, -⟩
      · exact nk 20 (by decide) i s
      · exact nk 21 (by decide) i s)
    have hn0 : Mz t.1 (0, []) < (((Mz t.1 (0, [])).toNat + 1 : Nat) : Int) := by
      have := Mz_nn hF hM0
      omega
    generalize hN : (Mz t.1 (0, [])).toNat + 1 = N at hn0
    have ho := t_orderL hF N (0, []) 0 J3 hM0 hn0 (by omega) hS3 (fun x hx => absurd hx List.not_mem_nil)
    obtain ⟨x1, x2, x3⟩ := nx_ok hF N (0, []) hM0 hn0
    unfold f_Scr_firstOrder f_Scr_orderFrom
    refine tr_call (tr_call ho (fun _ _ z => tr_ret z)) ?_
    rintro x J4 ⟨rfl, t4, f4⟩
    have hS4 := hS3.fo f4
    have sc4 : SC J4 (g, pushP ps g, kp, bs, rp) := sc3.pq (f4.mono (fun a b c z => Or.inr (Or.inr (Or.inr (Or.inr z.1))))) (BfC.fo sc3.2.2.2.2.2.1 f4)
    refine tr_call (t_playL hF hl N (nx t.1 N (0, [])) g 0 J4 x1 (by omega) (by omega) x3 (by omega) sc4 w hS4 t4) ?_
    rintro x J5 ⟨rfl, sc5, f5⟩
    rw [← pl_nx hF N (0, []) hM0 hn0] at sc5 ⊢
    obtain ⟨sc6, f6⟩ := drop sc5
    unfold f_Src_dropAll
    try dsimp only [ltI]
    rw [bnd_some]
    have ep : plS bs t.1 g = pl bs t.1 N (0, []) g 0 := by unfold plS; rw [hN]
    have er : plT (g, ps, kp, bs, rp) (.inr t) = (((plS bs t.1 g).2 : Int), ((plS bs t.1 g).1, pushP ps g, kp, [], rp)) := rfl
    rw [er, ep]
    refine tr_ret ⟨rfl, sc6, (f1.mono (fun a b c z => fpq_cl _ _ _ (fscr_pq _ _ _ z))).trans ((f2.mono (fun a b c z => by unfold FCl; omega)).trans ((f3.mono (fun a b c z => ?_)).trans ((f4.mono (fun a b c z => by unfold FOr at z; unfold FCl; omega)).trans ((f5.mono (fun a b c z => ?_)).trans (f6.mono fpq_cl)))))⟩
    · have := (n1 a b c z).1
      simp at this
      show a < 26
      omega
    · rcases z with z | z
      · exact fop_cl _ _ _ z
      · show a < 26
        omega
end CPLAY
end
section
/-! ===== play: the reference; both together ===== -/
theorem oc_17 : ∀ w : Nat, w < 15 → (oc w = 17 ↔ w = 13) := by decide
section MPLAY
variable {I J : Mem} {g g' : GS} {ps : List GS} {kp : Nat → Option GS} {bs rp : List Int} {E : List EN} {s : SS}
def TLm (J : Mem) : List (Nat × Int) → Prop
  | [] => True
  | x :: t => J 27 19 t.length = (x.1 : Int) ∧ J 27 20 t.length = x.2 ∧ TLm J t
theorem TLm.go {K : Mem} : ∀ {st : List (Nat × Int)}, TLm J st → (∀ d : Nat, d < st.length → K 27 19 d = J 27 19 d ∧ K 27 20 d = J 27 20 d) → TLm K st
  | [], _, _ => trivial
  | x :: t, h, k => by
    obtain ⟨h1, h2, h3⟩ := h
    obtain ⟨k1, k2⟩ := k t.length (Nat.lt_succ_self _)
    exact ⟨k1.trans h1, k2.trans h2, h3.go (fun d hd => k d (Nat.lt_succ_of_lt hd))⟩
theorem SMl.fm {F : FP} (h : SMl I E) (f : Fm F I J) (h8 : ¬ F 26 0 38) (hn : ∀ i s : Nat, 15 ≤ i → i ≤ 18 → ¬ F 27 i s) : SMl J E := by
  obtain ⟨a1, a2, a3⟩ := h
  refine ⟨by rw [f.at (by decide) h8]; exact a1, fun j hj => ?_, fun k hk hw a t e => ?_⟩
  · obtain ⟨b1, b2, b3⟩ := a2 j hj
    refine ⟨by rw [f.at (by decide) (hn _ _ (by decide) (by decide))]; exact b1, fun z1 z2 => ?_, fun z => ?_⟩
    · rw [f.at (by decide) (hn _ _ (by decide) (by decide))]; exact b2 z1 z2
    · rw [f.at (by decide) (hn _ _ (by decide) (by decide))]; exact b3 z
  · rw [f.at (by decide) (hn _ _ (by decide) (by decide))]
    exact a3 k hk hw a t e
abbrev FMy : FP := fun k i s => FMS k i s ∨ (k = 27 ∧ (i = 19 ∨ i = 20))
theorem SMl.my (h : SMl I E) (f : Fm FMy I J) : SMl J E := h.fm f (by unfold FMy FMS FW FBP FMP FL; omega) (fun i s h1 h2 => by unfold FMy FMS FW FBP FMP FL; omega)
theorem BUF.my (h : BUF I bs) (f : Fm FMy I J) : BUF J bs := fun j hj => by rw [f.at (by decide) (by unfold FMy FMS FW FBP FMP FL; omega)]; exact h j hj
theorem TLm.ms {st : List (Nat × Int)} (h : TLm I st) (f : Fm FMS I J) : TLm J st := h.go (fun d _ => ⟨f.at (by decide) (by unfold FMS FW FBP FMP FL; omega), f.at (by decide) (by unfold FMS FW FBP FMP FL; omega)⟩)
theorem t_mplaysL (hF : FIN bs E) (hb : bs.length ≤ 600) (hr : ∀ b ∈ bs, 1 ≤ b ∧ b ≤ 255) : ∀ (n : Nat) (s : MS) (g : GS) (d : Nat) (J : Mem), MOK E s → Mz E s < n → d ≤ 40 → GW J g → WF g → BUF J bs → SMl J E → TLm J s.2 → Tr (whl f_M_plays_w6 ((d : Int), (s.2.length : Int), (s.1 : Int)) J) (fun x K => x = ((pl bs E n s g d).2 : Int) ∧ GW K (pl bs E n s g d).1 ∧ Fm FMy J K) := by
  intro n
  induction n with
  | zero => intro s g d I h h1; have := Mz_nn hF h; omega
  | succ n ih =>
    intro s g d J h h1 hd hG w hBu hS hT
    have h60 := hF.1
    have hk := h.1
    have e0 : pl bs E (n + 1) s g d = if s.1 < E.length ∧ d < 40 then (if ew E s.1 = 12 ∨ ew E s.1 = 13 then pl bs E n (mst E s) g d else (if (dO bs (eD E s.1) g).2 = true then pl bs E n (mst E s) (dO bs (eD E s.1) g).1 (d + 1) else ((dO bs (eD E s.1) g).1, d))) else (g, d) := rfl
    refine tr_step ?_
    unfold f_M_plays_w6
    dsimp only
    rw [hS.1, w32_of (x := (s.1 : Int)) (by omega) (by omega), w32_of (x := (E.length : Int)) (by omega) (by omega), w32_of (x := (d : Int)) (by omega) (by omega)]
    by_cases q : s.1 < E.length
    · rw [if_pos (by omega)]
      by_cases q40 : d < 40
      · rw [if_pos ⟨q, q40⟩] at e0
        have hv := hF.2.2.2.2 s.1 q
        have v1 := hv.1
        have v2 := hv.2.1
        obtain ⟨b1, b2, -⟩ := hS.2.1 s.1 q
        have ocr := oc_rng (eD E s.1).1 (by omega)
        have oc16 := oc_16 (eD E s.1).1 (by omega)
        have oc17 := oc_17 (eD E s.1).1 (by omega)
        have hdc := mst_dec h hF q
        have hok := mst_ok h hF q
        have next : ∀ (K : Mem) (dd kk : Int), ew E s.1 = 12 ∨ ew E s.1 = 13 → dd = ((mst E s).2.length : Int) → kk = ((mst E s).1 : Int) → GW K g → TLm K (mst E s).2 → Fm FMy J K → Tr (whl f_M_plays_w6 ((d : Int), dd, kk) K) (fun x K => x = ((pl bs E (n + 1) s g d).2 : Int) ∧ GW K (pl bs E (n + 1) s g d).1 ∧ Fm FMy J K) := by
          rintro K dd kk hq rfl rfl hG' hT' f
          rw [e0, if_pos hq]
          refine tr_mono (ih (mst E s) g d K hok (by omega) hd hG' w (hBu.my f) (hS.my f) hT') ?_
          rintro y L ⟨z1, z2, z3⟩
          exact ⟨z1, z2, f.trans z3⟩
        rw [if_pos (by omega), if_pos (by omega), Int.toNat_natCast, b1, w32_of (x := oc (eD E s.1).1) (by omega) (by omega)]
        by_cases q12 : ew E s.1 = 12
        · have q12' : (eD E s.1).1 = 12 := q12
          obtain ⟨c1, c2, c3, c4⟩ := cl_spec hF q q12
          obtain ⟨hl1, n1, n2⟩ := h.again hF q q12
          have a16 : J 27 16 s.1 = (eD E s.1).2.1 := b2 (by omega) (by omega)
          have a18 : J 27 18 s.1 = (cl E s.1 : Int) := hS.2.2 _ c4 c1 _ _ c2
          rw [if_pos (oc16.mpr q12'), a16, w32_of (x := (eD E s.1).2.1) (by omega) (by omega)]
          by_cases z : (eD E s.1).2.1 = 0
          · rw [if_pos z, a18]
            refine tr_inl (next J _ _ (Or.inl q12) ?_ ?_ hG ?_ (Fm.refl _ _))
            · rw [mst_12 q12, if_pos z]
            · rw [mst_12 q12, if_pos z]; rfl
            · rw [mst_12 q12, if_pos z]; exact hT
          · rw [if_neg z]
            unfold f_M_plays_j50
            rw [w32_of (x := (s.1 : Int)) (by omega) (by omega), if_pos (by omega), Int.toNat_natCast, b1, w32_of (x := oc (eD E s.1).1) (by omega) (by omega), if_pos (oc16.mpr q12'), w32_of (x := (s.2.length : Int)) (by omega) (by omega), if_pos (by omega), Int.toNat_natCast]
            try dsimp only [ltI]
            have e16 : (sI J 27 19 s.2.length (s.1 : Int)) 27 16 s.1 = (eD E s.1).2.1 := by rw [sI_ne (by omega)]; exact a16
            rw [e16]
            have f1 : Fm (fun k i _ => k = 27 ∧ (i = 19 ∨ i = 20)) J (sI (sI J 27 19 s.2.length (s.1 : Int)) 27 20 s.2.length (eD E s.1).2.1) := (Fm.sI (by decide) (by omega) (by omega) ⟨rfl, Or.inl rfl⟩).trans (Fm.sI (by decide) (by omega) (by omega) ⟨rfl, Or.inr rfl⟩)
            have t1 : (sI (sI J 27 19 s.2.length (s.1 : Int)) 27 20 s.2.length (eD E s.1).2.1) 27 19 s.2.length = (s.1 : Int) := by rw [sI_ne (by omega), sI_self]
            have t2 : (sI (sI J 27 19 s.2.length (s.1 : Int)) 27 20 s.2.length (eD E s.1).2.1) 27 20 s.2.length = (eD E s.1).2.1 := sI_self _ _ _ _ _
            have t3 : TLm (sI (sI J 27 19 s.2.length (s.1 : Int)) 27 20 s.2.length (eD E s.1).2.1) s.2 := hT.go (fun d hd => ⟨by rw [sI_ne (by omega), sI_ne (by omega)], by rw [sI_ne (by omega), sI_ne (by omega)]⟩)
            generalize sI (sI J 27 19 s.2.length (s.1 : Int)) 27 20 s.2.length (eD E s.1).2.1 = K at f1 t1 t2 t3
            refine tr_inl (next K _ _ (Or.inl q12) ?_ ?_ (hG.fm f1 (fun s _ y => by omega)) ?_ (f1.mono (fun a b c y => Or.inr y)))
            · rw [mst_12 q12, if_neg z]; rfl
            · rw [mst_12 q12, if_neg z]; rfl
            · rw [mst_12 q12, if_neg z]; exact ⟨t1, t2, t3⟩
        · have q12' : ¬ (eD E s.1).1 = 12 := q12
          rw [if_neg (fun y => q12' (oc16.mp y))]
          unfold f_M_plays_j50
          rw [w32_of (x := (s.1 : Int)) (by omega) (by omega), if_pos (by omega), Int.toNat_natCast, b1, w32_of (x := oc (eD E s.1).1) (by omega) (by omega), if_neg (fun y => q12' (oc16.mp y))]
          by_cases q13 : ew E s.1 = 13
          · have q13' : (eD E s.1).1 = 13 := q13
            obtain ⟨a, l, t, e1, e2, e3, e4, e5, e6, e7, e8⟩ := h.close hF q q13
            have hl2 := h.len hF
            have hlen : s.2.length = t.length + 1 := by rw [e1]; rfl
            have hT2 : TLm J ((a, l) :: t) := by rw [← e1]; exact hT
            obtain ⟨t1, t2, t3⟩ := hT2
            have t1 : J 27 19 t.length = (a : Int) := t1
            have t2 : J 27 20 t.length = l := t2
            rw [if_pos (oc17.mpr q13'), show ((s.2.length : Int) - 1) = (t.length : Int) by omega, w32_of (x := (t.length : Int)) (by omega) (by omega), if_pos (by omega), Int.toNat_natCast, t2]
            try dsimp only [ltI]
            have f1 : Fm (fun k i _ => k = 27 ∧ (i = 19 ∨ i = 20)) J (sI J 27 20 t.length (l - 1)) := Fm.sI (by decide) (by omega) (by omega) ⟨rfl, Or.inr rfl⟩
            have u1 : (sI J 27 20 t.length (l - 1)) 27 19 t.length = (a : Int) := by rw [sI_ne (by omega)]; exact t1
            have u2 : (sI J 27 20 t.length (l - 1)) 27 20 t.length = l - 1 := sI_self _ _ _ _ _
            have u3 : TLm (sI J 27 20 t.length (l - 1)) t := t3.go (fun d hd => ⟨by rw [sI_ne (by omega)], by rw [sI_ne (by omega)]⟩)
            generalize sI J 27 20 t.length (l - 1) = K at f1 u1 u2 u3
            rw [u2, w32_of (x := l - 1) (by omega) (by omega), u1]
            have hgk : GW K g := hG.fm f1 (fun s _ y => by omega)
            have hfk : Fm FMy J K := f1.mono (fun a b c y => Or.inr y)
            by_cases z : 0 < l - 1
            · rw [if_pos z]
              refine tr_inl (next K _ _ (Or.inr q13) ?_ ?_ hgk ?_ hfk)
              · rw [mst_13 q13 e1, if_pos z, e1]; rfl
              · rw [mst_13 q13 e1, if_pos z]; rfl
              · rw [mst_13 q13 e1, if_pos z]; exact ⟨u1, u2, u3⟩
            · rw [if_neg z]
              refine tr_inl (next K _ _ (Or.inr q13) ?_ ?_ hgk ?_ hfk)
              · rw [mst_13 q13 e1, if_neg z]
                show (s.2.length : Int) + (-1) = (t.length : Int)
                omega
              · rw [mst_13 q13 e1, if_neg z]; rfl
              · rw [mst_13 q13 e1, if_neg z]; exact u3
          · have q13' : ¬ (eD E s.1).1 = 13 := q13
            have hno : ¬ (ew E s.1 = 12 ∨ ew E s.1 = 13) := fun y => y.elim q12 q13
            rw [if_neg hno] at e0
            rw [if_neg (fun y => q13' (oc17.mp y))]
            have w2 := dO_wf (bs := bs) w hv q12' q13'
            refine tr_call (t_does hG w hb hr hBu hS h60 q hv q12' q13') ?_
            rintro x K ⟨x1, x2, gk, f⟩
            have fy : Fm FMy J K := f.mono (fun a b c y => Or.inl y)
            by_cases q3 : (dO bs (eD E s.1) g).2 = true
            · have := x1 q3
              rw [if_pos q3] at e0
              rw [if_neg (by omega), e0]
              have em := mst_no hno
              have hi := ih (mst E s) (dO bs (eD E s.1) g).1 (d + 1) K hok (by omega) (by omega) gk w2 (hBu.my fy) (hS.my fy) (by rw [em]; exact hT.ms f)
              have k1 : (((mst E s).1 : Nat) : Int) = (s.1 : Int) + 1 := by rw [em]; rfl
              have k2 : (((mst E s).2.length : Nat) : Int) = (s.2.length : Int) := by rw [em]
              rw [k1, k2] at hi
              refine tr_inl (tr_mono hi ?_)
              rintro y L ⟨z1, z2, z3⟩
              exact ⟨z1, z2, fy.trans z3⟩
            · have := x2 (by simpa using q3)
              rw [if_neg q3] at e0
              rw [if_pos this, e0]
              exact tr_inr ⟨rfl, gk, fy⟩
      · rw [if_neg (fun y => q40 y.2)] at e0
        rw [if_neg (by omega), e0]
        exact tr_inr ⟨rfl, hG, Fm.refl _ _⟩
    · rw [if_neg (fun y => q y.1)] at e0
      rw [if_neg (by omega), e0]
      exact tr_inr ⟨rfl, hG, Fm.refl _ _⟩
theorem fsn_lm : ∀ k i s : Nat, FSn k i s → FLm k i s := fun k i s z => by unfold FSn FMx at z; unfold FLm; omega
theorem fmy_lm : ∀ k i s : Nat, FMy k i s → FLm k i s := fun k i s z => by unfold FMy FMS FW FBP FMP FL at z; unfold FLm; omega
theorem flm_mo : ∀ k i s : Nat, FLm k i s → FMo k i s := fun k i s z => by unfold FLm at z; unfold FMo; omega
theorem t_mplay (h : SM J (g, ps, kp, bs, rp)) (w : WF g) (hl : bs.length ≤ 600) (hr : ∀ b ∈ bs, 1 ≤ b ∧ b ≤ 255) : Tr (f_M_play J) (fun x K => x = (playS (g, ps, kp, bs, rp)).1 ∧ SM K (playS (g, ps, kp, bs, rp)).2 ∧ Fm FMo J K) := by
  have e0 : playS (g, ps, kp, bs, rp) = plT (g, ps, kp, bs, rp) (scr bs 601 [] 0 0) := rfl
  rw [e0]
  have s0 := h.t7 (v := 0)
  have f0 : Fm FLm J (sI J 26 0 7 0) := Fm.sI (by decide) (by omega) (by omega) (Or.inr ⟨rfl, by decide, by decide⟩)
  unfold f_M_play
  try dsimp only [ltI]
  generalize sI J 26 0 7 0 = J0 at s0 f0
  refine tr_call (t_mscript hl hr s0.2.2.2.1) ?_
  rintro _ J1 ⟨ok, f1⟩
  have f01 : Fm FLm J0 J1 := f1.mono fsn_lm
  have gw1 : GW J1 g := GWf.congr s0.1 (fun q _ => f1.at (by decide) (by unfold FSn FMx; omega))
  cases hc : scr bs 601 [] 0 0 with
  | inl e =>
    rw [hc] at ok
    obtain ⟨k25, ok⟩ := ok
    have ok2 := ok
    unfold ERR at ok2
    refine tr_call (t_mended (Or.inl ok)) ?_
    rintro x J2 ⟨rfl, e20, f2⟩
    rw [if_neg (show ¬ J1 26 0 25 = 0 by omega), w32_of (x := -10 - J1 26 0 25) (by omega) (by omega), if_pos (by omega), k25]
    have f02 : Fm FLm J0 J2 := f01.trans (f2.mono (fun a b c z => by unfold FLm; omega))
    exact tr_ret ⟨rfl, ⟨GWf.congr gw1 (fun q _ => f2.at (by decide) (by omega)), s0.2.1.fm f02 (fun z => by unfold FLm at z; omega) (fun s z => by unfold FLm at z; omega), s0.2.2.1.fm f02 (fun s z => by unfold FLm at z; omega) (fun s z => by unfold FLm at z; omega), bfm_0 e20, s0.2.2.2.2.fm f02 (fun z => by unfold FLm at z; omega) (fun s z => by unfold FLm at z; omega)⟩, (f0.trans f02).mono flm_mo⟩
  | inr t =>
    rw [hc] at ok
    have hF := scr_fin hc
    obtain ⟨hM0, hM1⟩ := Mz_0 hF
    obtain ⟨hB1, -, hS1, -, -, k25⟩ := ok
    refine tr_call (t_mended (Or.inr k25)) ?_
    rintro x J2 ⟨rfl, e20, f2⟩
    rw [if_pos k25, if_neg (by decide)]
    have f02 : Fm FLm J0 J2 := f01.trans (f2.mono (fun a b c z => by unfold FLm; omega))
    have gw2 : GW J2 g := GWf.congr gw1 (fun q _ => f2.at (by decide) (by omega))
    have hm2 : HM J2 ps := s0.2.1.fm f02 (fun z => by unfold FLm at z; omega) (fun s z => by unfold FLm at z; omega)
    refine tr_call (t_mrem (q := 0) (Or.inl rfl) (show GB J2 0 0 g from GWf.congr gw2 (fun q _ => by show J2 27 0 (0 + q) = J2 27 0 q; rw [Nat.zero_add])) hm2) ?_
    rintro _ J3 ⟨hm3, f3⟩
    have gw3 : GW J3 g := GWf.congr gw2 (fun q _ => f3.at (by decide) (by unfold FRb3; omega))
    have hbu : BUF J3 bs := fun j hj => by
      rw [f3.at (by decide) (by unfold FRb3; omega), f2.at (by decide) (by omega)]
      exact hB1.2 j hj
    have hs3 : SMl J3 t.1 := (hS1.fm f2 (by omega) (fun i s _ _ => by omega)).fm f3 (by unfold FRb3; omega) (fun i s _ _ => by unfold FRb3; omega)
    have hn0 : Mz t.1 (0, []) < (((Mz t.1 (0, [])).toNat + 1 : Nat) : Int) := by
      have := Mz_nn hF hM0
      omega
    generalize hN : (Mz t.1 (0, [])).toNat + 1 = N at hn0
    unfold f_M_plays
    refine tr_call (t_mplaysL hF hl hr N (0, []) g 0 J3 hM0 hn0 (by decide) gw3 w hbu hs3 trivial) ?_
    rintro x J4 ⟨rfl, gw4, f4⟩
    have ep : plS bs t.1 g = pl bs t.1 N (0, []) g 0 := by unfold plS; rw [hN]
    have er : plT (g, ps, kp, bs, rp) (.inr t) = (((plS bs t.1 g).2 : Int), ((plS bs t.1 g).1, pushP ps g, kp, [], rp)) := rfl
    rw [er, ep]
    have f04 : Fm (fun k i s => FLm k i s ∨ FRb3 k i s) J0 J4 := (f02.mono (fun a b c z => Or.inl z)).trans ((f3.mono (fun a b c z => Or.inr z)).trans (f4.mono (fun a b c z => Or.inl (fmy_lm _ _ _ z))))
    refine tr_ret ⟨rfl, ⟨gw4, hm3.fm f4 (by unfold FMy FMS FW FBP FMP FL; omega) (fun s => by unfold FMy FMS FW FBP FMP FL; omega), s0.2.2.1.fm f04 (fun s z => by unfold FLm FRb3 at z; omega) (fun s z => by unfold FLm FRb3 at z; omega), bfm_0 ?_, s0.2.2.2.2.fm f04 (fun z => by unfold FLm FRb3 at z; omega) (fun s z => by unfold FLm FRb3 at z; omega)⟩, (f0.mono flm_mo).trans (f04.mono (fun a b c z => by unfold FLm FRb3 at z; unfold FMo; omega))⟩
    rw [f4.at (by decide) (by unfold FMy FMS FW FBP FMP FL; omega), f3.at (by decide) (by unfold FRb3; omega)]
    exact e20
theorem playS_sw {s : SS} (h : SW s) : SW (playS s).2 := by
  have e0 : playS s = plT s (scr s.2.2.2.1 601 [] 0 0) := rfl
  rw [e0]
  cases hc : scr s.2.2.2.1 601 [] 0 0 with
  | inl e => exact ⟨h.1, h.2.1, h.2.2.1, ⟨Nat.zero_le _, fun b hb => absurd hb List.not_mem_nil⟩, h.2.2.2.2⟩
  | inr t => exact ⟨pl_wf (scr_fin hc) _ _ _ _ h.1, pushP_wf h.2.1 h.1, h.2.2.1, ⟨Nat.zero_le _, fun b hb => absurd hb List.not_mem_nil⟩, h.2.2.2.2⟩
theorem og_2 (h : SI I s) : OGI f_PR_play f_M_play I := by
  obtain ⟨g, ps, kp, bs, rp⟩ := s
  have hl : bs.length ≤ 600 := h.2.2.2.2.2.1.1
  have hr : ∀ b ∈ bs, 1 ≤ b ∧ b ≤ 255 := h.2.2.2.2.2.1.2
  have w : WF g := h.2.2.1
  refine og_I (s' := (playS (g, ps, kp, bs, rp)).2) (u := w32 (playS (g, ps, kp, bs, rp)).1) h (playS_sw h.2.2) ?_ (fun J sm => ?_)
  · exact tr_mono (t_cplay h.1 w hl hr) (fun x K z => ⟨by rw [z.1], z.2⟩)
  · exact tr_mono (t_mplay sm w hl hr) (fun x K z => ⟨by rw [z.1], z.2⟩)
end MPLAY
end
section
/-! ===== from the fresh object on: the invariant at the start; room ===== -/
section START
variable {I J K : Mem} {s s' : SS}
theorem AllG.rows (h : AllG I) : ∀ r : Nat, r < 516 → 0 ≤ I 2 r 2 ∧ I 2 r 2 ≤ 400 := by
  intro r hr
  obtain ⟨g, h1, h2, h3, h4, -⟩ := h (r / 43) (by omega)
  have key : ∃ l : List Int, RW I r l := by
    rcases (show r % 43 = 0 ∨ r % 43 = 1 ∨ r % 43 = 2 ∨ 3 ≤ r % 43 by omega) with q | q | q | q
    · exact ⟨_, by have := h2 0 (by omega); rw [show rix (r / 43) 0 = r by unfold rix; rw [if_pos rfl]; omega] at this; exact this⟩
    · exact ⟨_, by rw [show 43 * (r / 43) + 1 = r by omega] at h3; exact h3⟩
    · exact ⟨_, by rw [show 43 * (r / 43) + 2 = r by omega] at h4; exact h4⟩
    · exact ⟨_, by have := h2 (r % 43 - 2) (by omega); rw [show rix (r / 43) (r % 43 - 2) = r by unfold rix; rw [if_neg (by omega)]; omega] at this; exact this⟩
  obtain ⟨l, hl⟩ := key
  exact cok_b hl.2.2.2.1
theorem SI.cap (h : SI I s) : 0 ≤ Cap I ∧ Cap I ≤ 337472 := by
  have h1 := sum_b (f := fun r => I 2 r 2) 516 h.1.2.1.rows
  have h2 : capR (I 10 0 2) := h.1.2.2.2.2.2.2.2.2.1
  unfold Cap
  unfold capR at h2
  omega
theorem rm_room (h : Rm I K) : ((dC I K : Nat) : Int) ≤ Cap K - Cap I + 1 ∧ ((dS I K : Nat) : Int) ≤ 3 * (Cap K - Cap I) + 6 := by
  unfold Rm at h
  unfold dC dS
  omega
theorem si_start (h : FS I) : SI I (gF, [], (fun _ => none), [], []) := by
  have h10 := h.h10
  refine ⟨⟨h.1, h.all, h.2.1, ⟨Nat.zero_le _, (h.at (by decide) (by decide)).trans rfl, 0, by decide, (h.at (by decide) (by decide)).trans rfl, fun k hk => absurd hk (Nat.not_lt_zero k)⟩, fun j hj => ?_, ⟨(h.at (by decide) (by decide)).trans rfl, fun k hk => absurd hk (Nat.not_lt_zero k)⟩, ⟨(h.at (by decide) (by decide)).trans rfl, ?_, ?_, fun k hk => absurd hk (Nat.not_lt_zero k)⟩⟩, ⟨h.2.2.1, ⟨Nat.zero_le _, (h.at (by decide) (by decide)).trans rfl, fun k hk => absurd hk (Nat.not_lt_zero k)⟩, fun j hj => ?_, ⟨(h.at (by decide) (by decide)).trans rfl, fun k hk => absurd hk (Nat.not_lt_zero k)⟩, ⟨(h.at (by decide) (by decide)).trans rfl, fun k hk => absurd hk (Nat.not_lt_zero k)⟩⟩, ⟨WF_gF, fun x hx => absurd hx List.not_mem_nil, fun j x hx => (nomatch hx), ⟨Nat.zero_le _, fun b hb => absurd hb List.not_mem_nil⟩, ⟨(by decide : 0 < 70000), fun b hb => absurd hb List.not_mem_nil⟩⟩⟩
  · show I 24 0 j = 0
    exact (h.at (by decide) (by decide)).trans rfl
  · show ((0 : Nat) : Int) ≤ I 10 0 2
    omega
  · show capR (I 10 0 2)
    unfold capR
    omega
  · show I 28 0 j = 0
    exact (h.at (by decide) (by decide)).trans rfl
end START
end
