/-! ===== scripts: how they run (pure) ===== -/
def cl (E : List EN) (a : Nat) : Nat := (fF (fun c => decide (ew E c = 13 ∧ enc E c = a :: enc E a)) E.length 0).toNat
/-- a script that was read to its end -/
def FIN (bs : List Int) (E : List EN) : Prop := E.length ≤ 60 ∧ enc E E.length = [] ∧ (∀ k : Nat, k ≤ E.length → (enc E k).length ≤ 2) ∧ (∀ k : Nat, k < E.length → ew E k = 13 → enc E k ≠ []) ∧ (∀ k : Nat, k < E.length → VE bs (eD E k))
theorem SEI.fin {bs : List Int} {E : List EN} {c p : Nat} (h : SEI bs E c p) (he : enc E E.length = []) : FIN bs E := ⟨by have := h.2.1; have := h.2.2.1; omega, he, h.2.2.2.1, h.2.2.2.2.1, h.2.2.2.2.2⟩
theorem cl_spec {bs : List Int} {E : List EN} (h : FIN bs E) {a : Nat} (ha : a < E.length) (hw : ew E a = 12) : ew E (cl E a) = 13 ∧ enc E (cl E a) = a :: enc E a ∧ a < cl E a ∧ cl E a < E.length := by
  have hc := enc_closed h.2.2.2.1 E.length (Nat.le_refl _) a ha hw
  rw [h.2.1] at hc
  obtain ⟨k, h1, h2, h3, h4⟩ := hc.resolve_left List.not_mem_nil
  by_cases q : fF (fun c => decide (ew E c = 13 ∧ enc E c = a :: enc E a)) E.length 0 = -1
  · have := fF_none q k (Nat.zero_le _) (by omega)
    exact absurd ⟨h3, h4⟩ (of_decide_eq_false this)
  · obtain ⟨j, e, j1, j2, j3, -⟩ := fF_some q
    have ej : cl E a = j := by unfold cl; rw [e]; exact Int.toNat_natCast j
    have j4 := of_decide_eq_true j3
    rw [ej]
    exact ⟨j4.1, j4.2, (enc_cons j a _ j4.2).1, by omega⟩
theorem in_cl {bs : List Int} {E : List EN} (h : FIN bs E) {a k : Nat} (hk : k ≤ E.length) (hm : a ∈ enc E k) (hw : ew E a = 12) : k ≤ cl E a := by
  have ha := enc_lt k a hm
  obtain ⟨c1, c2, c3, c4⟩ := cl_spec h (a := a) (by omega) hw
  refine Classical.byContradiction fun q => ?_
  exact enc_gone c1 c2 k (by omega) hm
abbrev MS : Type := Nat × List (Nat × Int)
def mst (E : List EN) (s : MS) : MS :=
  if ew E s.1 = 12 then (if (eD E s.1).2.1 = 0 then (cl E s.1 + 1, s.2) else (s.1 + 1, (s.1, (eD E s.1).2.1) :: s.2))
  else if ew E s.1 = 13 then (match s.2 with
    | [] => (s.1 + 1, [])
    | x :: t => if 0 < x.2 - 1 then (x.1 + 1, (x.1, x.2 - 1) :: t) else (s.1 + 1, t))
  else (s.1 + 1, s.2)
def MOK (E : List EN) (s : MS) : Prop := s.1 ≤ E.length ∧ s.2.map Prod.fst = enc E s.1 ∧ ∀ x ∈ s.2, 1 ≤ x.2 ∧ x.2 ≤ 20
theorem MOK.len {bs : List Int} {E : List EN} {s : MS} (h : MOK E s) (hF : FIN bs E) : s.2.length ≤ 2 := by
  have := hF.2.2.1 s.1 h.1
  rw [← h.2.1, List.length_map] at this
  exact this
theorem MOK.again {bs : List Int} {E : List EN} {s : MS} (h : MOK E s) (hF : FIN bs E) (hk : s.1 < E.length) (hw : ew E s.1 = 12) : s.2.length ≤ 1 ∧ 0 ≤ (eD E s.1).2.1 ∧ (eD E s.1).2.1 ≤ 20 := by
  have h2 := hF.2.2.1 (s.1 + 1) (by omega)
  have e : enc E (s.1 + 1) = s.1 :: enc E s.1 := by
    show (if ew E s.1 = 12 then _ else _) = _
    rw [if_pos hw]
  rw [e, ← h.2.1] at h2
  have h2 : (s.2.map Prod.fst).length + 1 ≤ 2 := h2
  rw [List.length_map] at h2
  have hv := (hF.2.2.2.2 s.1 hk).2.2.2
  have hw : (eD E s.1).1 = 12 := hw
  rw [hw] at hv
  have hv := hv (by decide) (by decide) (by decide) (by decide)
  have : wLow 12 = 0 := rfl
  have : wHig 12 = 20 := rfl
  omega
theorem MOK.close {bs : List Int} {E : List EN} {s : MS} (h : MOK E s) (hF : FIN bs E) (hk : s.1 < E.length) (hw : ew E s.1 = 13) : ∃ (a : Nat) (l : Int) (t : List (Nat × Int)), s.2 = (a, l) :: t ∧ enc E s.1 = a :: enc E a ∧ t.map Prod.fst = enc E a ∧ a < s.1 ∧ ew E a = 12 ∧ cl E a = s.1 ∧ 1 ≤ l ∧ l ≤ 20 := by
  obtain ⟨h1, h2, h3⟩ := h
  have hne := hF.2.2.2.1 s.1 hk hw
  cases hs : s.2 with
  | nil => rw [hs] at h2; exact absurd h2.symm hne
  | cons x t =>
    obtain ⟨a, l⟩ := x
    rw [hs] at h2 h3
    have h2 : a :: t.map Prod.fst = enc E s.1 := h2
    obtain ⟨j1, j2, j3⟩ := enc_cons _ _ _ h2.symm
    have hl := h3 (a, l) List.mem_cons_self
    have e2 : enc E s.1 = a :: enc E a := by rw [← h2, j3]
    refine ⟨a, l, t, rfl, e2, j3, j1, j2, ?_, hl.1, hl.2⟩
    obtain ⟨c1, c2, c3, c4⟩ := cl_spec hF (a := a) (by omega) j2
    have g1 : s.1 ≤ cl E a := in_cl hF h1 (by rw [e2]; exact List.mem_cons_self) j2
    have g2 : ¬ s.1 < cl E a := fun y => enc_gone hw e2 (cl E a) y (by rw [c2]; exact List.mem_cons_self)
    omega
theorem mst_ok {bs : List Int} {E : List EN} {s : MS} (h : MOK E s) (hF : FIN bs E) (hk : s.1 < E.length) : MOK E (mst E s) := by
  unfold mst
  by_cases q12 : ew E s.1 = 12
  · rw [if_pos q12]
    obtain ⟨-, n1, n2⟩ := h.again hF hk q12
    by_cases z : (eD E s.1).2.1 = 0
    · rw [if_pos z]
      obtain ⟨c1, c2, c3, c4⟩ := cl_spec hF hk q12
      refine ⟨by show cl E s.1 + 1 ≤ E.length; omega, ?_, h.2.2⟩
      show s.2.map Prod.fst = (if ew E (cl E s.1) = 12 then _ else if ew E (cl E s.1) = 13 then (enc E (cl E s.1)).tail else _)
      rw [if_neg (by omega), if_pos c1, c2]
      exact h.2.1
    · rw [if_neg z]
      refine ⟨by show s.1 + 1 ≤ E.length; omega, ?_, fun x hx => ?_⟩
      · show s.1 :: s.2.map Prod.fst = (if ew E s.1 = 12 then s.1 :: enc E s.1 else _)
        rw [if_pos q12, h.2.1]
      · rcases List.mem_cons.mp hx with y | y
        · rw [y]; show 1 ≤ (eD E s.1).2.1 ∧ (eD E s.1).2.1 ≤ 20; omega
        · exact h.2.2 x y
  · rw [if_neg q12]
    by_cases q13 : ew E s.1 = 13
    · rw [if_pos q13]
      obtain ⟨a, l, t, e1, e2, e3, e4, e5, e6, e7, e8⟩ := h.close hF hk q13
      rw [e1]
      show MOK E (if 0 < l - 1 then (a + 1, (a, l - 1) :: t) else (s.1 + 1, t))
      have ht : ∀ x ∈ t, 1 ≤ x.2 ∧ x.2 ≤ 20 := fun x hx => h.2.2 x (by rw [e1]; exact List.mem_cons_of_mem _ hx)
      by_cases z : 0 < l - 1
      · rw [if_pos z]
        refine ⟨by show a + 1 ≤ E.length; omega, ?_, fun x hx => ?_⟩
        · show a :: t.map Prod.fst = (if ew E a = 12 then a :: enc E a else _)
          rw [if_pos e5, e3]
        · rcases List.mem_cons.mp hx with y | y
          · rw [y]; show 1 ≤ l - 1 ∧ l - 1 ≤ 20; omega
          · exact ht x y
      · rw [if_neg z]
        refine ⟨by show s.1 + 1 ≤ E.length; omega, ?_, ht⟩
        show t.map Prod.fst = (if ew E s.1 = 12 then _ else if ew E s.1 = 13 then (enc E s.1).tail else _)
        rw [if_neg q12, if_pos q13, e2]
        exact e3
    · rw [if_neg q13]
      refine ⟨by show s.1 + 1 ≤ E.length; omega, ?_, h.2.2⟩
      show s.2.map Prod.fst = (if ew E s.1 = 12 then _ else if ew E s.1 = 13 then _ else enc E s.1)
      rw [if_neg q12, if_neg q13]
      exact h.2.1
/-! the measure -/
def wgt (d : Nat) : Int := if d = 0 then 1 else if d = 1 then 21 else 441
def cfD (d : Nat) : Int := if d = 0 then 441 else if d = 1 then 21 else 1
def Fp (E : List EN) (k : Nat) : Int := sT (fun j => wgt (enc E j).length) k
def mz (E : List EN) : List (Nat × Int) → Int → Int
  | [], x => 441 * (Fp E E.length - x)
  | y :: t, x => mz E t (Fp E (cl E y.1 + 1)) + cfD (t.length + 1) * ((y.2 - 1) * (Fp E (cl E y.1 + 1) - Fp E (y.1 + 1)) + (Fp E (cl E y.1 + 1) - x))
def Mz (E : List EN) (s : MS) : Int := mz E s.2 (Fp E s.1)
theorem wgt_pos (d : Nat) : 1 ≤ wgt d ∧ wgt d ≤ 441 := by unfold wgt; split <;> (try split) <;> omega
theorem cfD_wgt {d : Nat} (h : d ≤ 2) : cfD d * wgt d = 441 := by
  rcases (show d = 0 ∨ d = 1 ∨ d = 2 by omega) with rfl | rfl | rfl <;> rfl
theorem Fp_succ (E : List EN) (k : Nat) : Fp E (k + 1) = Fp E k + wgt (enc E k).length := rfl
theorem Fp_mono (E : List EN) {a : Nat} : ∀ n : Nat, Fp E a ≤ Fp E (a + n)
  | 0 => Int.le_refl _
  | n + 1 => by
    have := Fp_mono E (a := a) n
    have := (wgt_pos (enc E (a + n)).length).1
    show Fp E a ≤ Fp E (a + n + 1)
    rw [Fp_succ]; omega
theorem Fp_le (E : List EN) {a b : Nat} (h : a ≤ b) : Fp E a ≤ Fp E b := by
  have := Fp_mono E (a := a) (b - a)
  rwa [show a + (b - a) = b by omega] at this
theorem Fp_top (E : List EN) : ∀ k : Nat, 0 ≤ Fp E k ∧ Fp E k ≤ 441 * (k : Int)
  | 0 => ⟨Int.le_refl _, Int.le_refl _⟩
  | k + 1 => by
    have := Fp_top E k
    have := wgt_pos (enc E k).length
    rw [Fp_succ]
    omega
theorem mz_lin (E : List EN) (st : List (Nat × Int)) (x y : Int) : mz E st x - mz E st y = cfD st.length * (y - x) := by
  cases st with
  | nil =>
    show 441 * (Fp E E.length - x) - 441 * (Fp E E.length - y) = 441 * (y - x)
    omega
  | cons z t =>
    show (mz E t (Fp E (cl E z.1 + 1)) + cfD (t.length + 1) * ((z.2 - 1) * (Fp E (cl E z.1 + 1) - Fp E (z.1 + 1)) + (Fp E (cl E z.1 + 1) - x))) - (mz E t (Fp E (cl E z.1 + 1)) + cfD (t.length + 1) * ((z.2 - 1) * (Fp E (cl E z.1 + 1) - Fp E (z.1 + 1)) + (Fp E (cl E z.1 + 1) - y))) = cfD (t.length + 1) * (y - x)
    generalize (z.2 - 1) * (Fp E (cl E z.1 + 1) - Fp E (z.1 + 1)) = u
    generalize mz E t (Fp E (cl E z.1 + 1)) = v
    generalize Fp E (cl E z.1 + 1) = w
    have e : cfD (t.length + 1) * (u + (w - x)) - cfD (t.length + 1) * (u + (w - y)) = cfD (t.length + 1) * (y - x) := by
      rw [← Int.mul_sub]
      congr 1
      omega
    omega
theorem cfD_pos (d : Nat) : 1 ≤ cfD d := by unfold cfD; split <;> (try split) <;> omega
theorem mz_nn {bs : List Int} {E : List EN} (hF : FIN bs E) : ∀ (st : List (Nat × Int)) (k : Nat), MOK E (k, st) → 0 ≤ mz E st (Fp E k)
  | [], k, h => by
    have := Fp_le E h.1
    show 0 ≤ 441 * (Fp E E.length - Fp E k)
    have h1 : Fp E k ≤ Fp E E.length := this
    omega
  | y :: t, k, h => by
    obtain ⟨a, l⟩ := y
    have hm : a :: t.map Prod.fst = enc E k := h.2.1
    obtain ⟨j1, j2, j3⟩ := enc_cons _ _ _ hm.symm
    have hk : k ≤ E.length := h.1
    obtain ⟨c1, c2, c3, c4⟩ := cl_spec hF (a := a) (by omega) j2
    have g1 : k ≤ cl E a := in_cl hF hk (by rw [← hm]; exact List.mem_cons_self) j2
    have ih := mz_nn hF t (cl E a + 1) ⟨by show cl E a + 1 ≤ E.length; omega, by
      show t.map Prod.fst = (if ew E (cl E a) = 12 then _ else if ew E (cl E a) = 13 then (enc E (cl E a)).tail else _)
      rw [if_neg (by omega), if_pos c1, c2]
      exact j3, fun x hx => h.2.2 x (List.mem_cons_of_mem _ hx)⟩
    have hl := h.2.2 (a, l) List.mem_cons_self
    have hl : 1 ≤ l ∧ l ≤ 20 := hl
    have f1 := Fp_le E (show a + 1 ≤ cl E a + 1 by omega)
    have f2 := Fp_le E (show k ≤ cl E a + 1 by omega)
    have p1 : 0 ≤ (l - 1) * (Fp E (cl E a + 1) - Fp E (a + 1)) := Int.mul_nonneg (by omega) (by omega)
    have p2 : 0 ≤ cfD (t.length + 1) * ((l - 1) * (Fp E (cl E a + 1) - Fp E (a + 1)) + (Fp E (cl E a + 1) - Fp E k)) := Int.mul_nonneg (by have := cfD_pos (t.length + 1); omega) (by omega)
    show 0 ≤ mz E t (Fp E (cl E a + 1)) + cfD (t.length + 1) * ((l - 1) * (Fp E (cl E a + 1) - Fp E (a + 1)) + (Fp E (cl E a + 1) - Fp E k))
    omega
theorem Mz_nn {bs : List Int} {E : List EN} (hF : FIN bs E) {s : MS} (h : MOK E s) : 0 ≤ Mz E s := mz_nn hF s.2 s.1 h
theorem mst_dec {bs : List Int} {E : List EN} {s : MS} (h : MOK E s) (hF : FIN bs E) (hk : s.1 < E.length) : Mz E (mst E s) + 441 ≤ Mz E s := by
  have hlen : (enc E s.1).length = s.2.length := by rw [← h.2.1, List.length_map]
  have hl2 := h.len hF
  have hfs : Fp E (s.1 + 1) = Fp E s.1 + wgt s.2.length := by rw [Fp_succ, hlen]
  have hcw := cfD_wgt hl2
  -- on by one entry
  have one : mz E s.2 (Fp E (s.1 + 1)) + 441 = mz E s.2 (Fp E s.1) := by
    have := mz_lin E s.2 (Fp E s.1) (Fp E (s.1 + 1))
    rw [hfs, show Fp E s.1 + wgt s.2.length - Fp E s.1 = wgt s.2.length by omega, hcw] at this
    rw [hfs]
    omega
  unfold mst Mz
  by_cases q12 : ew E s.1 = 12
  · rw [if_pos q12]
    obtain ⟨hl1, n1, n2⟩ := h.again hF hk q12
    obtain ⟨c1, c2, c3, c4⟩ := cl_spec hF hk q12
    have f1 := Fp_le E (show s.1 + 1 ≤ cl E s.1 + 1 by omega)
    by_cases z : (eD E s.1).2.1 = 0
    · rw [if_pos z]
      show mz E s.2 (Fp E (cl E s.1 + 1)) + 441 ≤ mz E s.2 (Fp E s.1)
      have := mz_lin E s.2 (Fp E (s.1 + 1)) (Fp E (cl E s.1 + 1))
      have : 0 ≤ cfD s.2.length * (Fp E (cl E s.1 + 1) - Fp E (s.1 + 1)) := Int.mul_nonneg (by have := cfD_pos s.2.length; omega) (by omega)
      omega
    · rw [if_neg z]
      show mz E s.2 (Fp E (cl E s.1 + 1)) + cfD (s.2.length + 1) * (((eD E s.1).2.1 - 1) * (Fp E (cl E s.1 + 1) - Fp E (s.1 + 1)) + (Fp E (cl E s.1 + 1) - Fp E (s.1 + 1))) + 441 ≤ mz E s.2 (Fp E s.1)
      have l1 := mz_lin E s.2 (Fp E (s.1 + 1)) (Fp E (cl E s.1 + 1))
      have hB : 0 ≤ Fp E (cl E s.1 + 1) - Fp E (s.1 + 1) := by omega
      generalize mz E s.2 (Fp E (cl E s.1 + 1)) = M1 at l1 ⊢
      generalize mz E s.2 (Fp E (s.1 + 1)) = M2 at l1 one
      generalize mz E s.2 (Fp E s.1) = M3 at one ⊢
      generalize Fp E (cl E s.1 + 1) - Fp E (s.1 + 1) = B at l1 hB ⊢
      have e : ((eD E s.1).2.1 - 1) * B + B = (eD E s.1).2.1 * B := by rw [Int.sub_mul, Int.one_mul]; omega
      have hn : (eD E s.1).2.1 * B ≤ 20 * B := Int.mul_le_mul_of_nonneg_right n2 hB
      rw [e]
      rcases (show s.2.length = 0 ∨ s.2.length = 1 by omega) with y | y
      · rw [y] at l1 ⊢
        rw [show cfD 0 = 441 from rfl] at l1
        rw [show cfD (0 + 1) = 21 from rfl]
        omega
      · rw [y] at l1 ⊢
        rw [show cfD 1 = 21 from rfl] at l1
        rw [show cfD (1 + 1) = 1 from rfl]
        omega
  · rw [if_neg q12]
    by_cases q13 : ew E s.1 = 13
    · rw [if_pos q13]
      obtain ⟨a, l, t, e1, e2, e3, e4, e5, e6, e7, e8⟩ := h.close hF hk q13
      rw [e1] at one ⊢
      have hc : cl E a + 1 = s.1 + 1 := by rw [e6]
      by_cases z : 0 < l - 1
      · show mz E (if 0 < l - 1 then (a + 1, (a, l - 1) :: t) else (s.1 + 1, t) : MS).2 (Fp E (if 0 < l - 1 then (a + 1, (a, l - 1) :: t) else (s.1 + 1, t) : MS).1) + 441 ≤ _
        rw [if_pos z]
        show mz E t (Fp E (cl E a + 1)) + cfD (t.length + 1) * ((l - 1 - 1) * (Fp E (cl E a + 1) - Fp E (a + 1)) + (Fp E (cl E a + 1) - Fp E (a + 1))) + 441 ≤ mz E t (Fp E (cl E a + 1)) + cfD (t.length + 1) * ((l - 1) * (Fp E (cl E a + 1) - Fp E (a + 1)) + (Fp E (cl E a + 1) - Fp E s.1))
        have one : mz E t (Fp E (cl E a + 1)) + cfD (t.length + 1) * ((l - 1) * (Fp E (cl E a + 1) - Fp E (a + 1)) + (Fp E (cl E a + 1) - Fp E (s.1 + 1))) + 441 = mz E t (Fp E (cl E a + 1)) + cfD (t.length + 1) * ((l - 1) * (Fp E (cl E a + 1) - Fp E (a + 1)) + (Fp E (cl E a + 1) - Fp E s.1)) := one
        rw [hc] at one ⊢
        generalize Fp E (s.1 + 1) - Fp E (a + 1) = B at one ⊢
        have e : (l - 1 - 1) * B + B = (l - 1) * B := by rw [Int.sub_mul (l - 1) 1, Int.one_mul]; omega
        rw [e]
        rw [Int.sub_self, Int.add_zero] at one
        omega
      · show mz E (if 0 < l - 1 then (a + 1, (a, l - 1) :: t) else (s.1 + 1, t) : MS).2 (Fp E (if 0 < l - 1 then (a + 1, (a, l - 1) :: t) else (s.1 + 1, t) : MS).1) + 441 ≤ _
        rw [if_neg z]
        show mz E t (Fp E (s.1 + 1)) + 441 ≤ mz E t (Fp E (cl E a + 1)) + cfD (t.length + 1) * ((l - 1) * (Fp E (cl E a + 1) - Fp E (a + 1)) + (Fp E (cl E a + 1) - Fp E s.1))
        have one : mz E t (Fp E (cl E a + 1)) + cfD (t.length + 1) * ((l - 1) * (Fp E (cl E a + 1) - Fp E (a + 1)) + (Fp E (cl E a + 1) - Fp E (s.1 + 1))) + 441 = mz E t (Fp E (cl E a + 1)) + cfD (t.length + 1) * ((l - 1) * (Fp E (cl E a + 1) - Fp E (a + 1)) + (Fp E (cl E a + 1) - Fp E s.1)) := one
        rw [hc] at one ⊢
        have hl : l - 1 = 0 := by omega
        rw [hl, Int.zero_mul, Int.zero_add, Int.sub_self, Int.mul_zero] at one
        rw [hl, Int.zero_mul, Int.zero_add]
        rw [Int.zero_add] at one
        omega
    · rw [if_neg q13]
      show mz E s.2 (Fp E (s.1 + 1)) + 441 ≤ mz E s.2 (Fp E s.1)
      omega
theorem Mz_0 {bs : List Int} {E : List EN} (hF : FIN bs E) : MOK E (0, []) ∧ Mz E (0, []) ≤ 12000000 := by
  have := Fp_top E E.length
  have h60 := hF.1
  refine ⟨⟨Nat.zero_le _, rfl, fun x hx => absurd hx List.not_mem_nil⟩, ?_⟩
  show 441 * (Fp E E.length - 0) ≤ 12000000
  omega
/-! running -/
def nx (E : List EN) : Nat → MS → MS
  | 0, s => s
  | n + 1, s => if s.1 < E.length ∧ (ew E s.1 = 12 ∨ ew E s.1 = 13) then nx E n (mst E s) else s
noncomputable def pl (bs : List Int) (E : List EN) : Nat → MS → GS → Nat → GS × Nat
  | 0, _, g, d => (g, d)
  | n + 1, s, g, d => if s.1 < E.length ∧ d < 40 then (if ew E s.1 = 12 ∨ ew E s.1 = 13 then pl bs E n (mst E s) g d else (if (dO bs (eD E s.1) g).2 = true then pl bs E n (mst E s) (dO bs (eD E s.1) g).1 (d + 1) else ((dO bs (eD E s.1) g).1, d))) else (g, d)
theorem pl_far {bs : List Int} {E : List EN} (hF : FIN bs E) : ∀ (n m : Nat) (s : MS) (g : GS) (d : Nat), MOK E s → Mz E s < n → Mz E s < m → pl bs E n s g d = pl bs E m s g d
  | 0, m, s, g, d, h, h1, _ => by have := Mz_nn hF h; omega
  | n + 1, 0, s, g, d, h, _, h1 => by have := Mz_nn hF h; omega
  | n + 1, m + 1, s, g, d, h, h1, h2 => by
    show (if s.1 < E.length ∧ d < 40 then (if ew E s.1 = 12 ∨ ew E s.1 = 13 then pl bs E n (mst E s) g d else (if (dO bs (eD E s.1) g).2 = true then pl bs E n (mst E s) (dO bs (eD E s.1) g).1 (d + 1) else ((dO bs (eD E s.1) g).1, d))) else (g, d)) = (if s.1 < E.length ∧ d < 40 then (if ew E s.1 = 12 ∨ ew E s.1 = 13 then pl bs E m (mst E s) g d else (if (dO bs (eD E s.1) g).2 = true then pl bs E m (mst E s) (dO bs (eD E s.1) g).1 (d + 1) else ((dO bs (eD E s.1) g).1, d))) else (g, d))
    by_cases q : s.1 < E.length ∧ d < 40
    · have hd := mst_dec h hF q.1
      have ho := mst_ok h hF q.1
      rw [if_pos q, if_pos q, pl_far hF n m (mst E s) g d ho (by omega) (by omega), pl_far hF n m (mst E s) (dO bs (eD E s.1) g).1 (d + 1) ho (by omega) (by omega)]
    · rw [if_neg q, if_neg q]
theorem nx_ok {bs : List Int} {E : List EN} (hF : FIN bs E) : ∀ (n : Nat) (s : MS), MOK E s → Mz E s < n → MOK E (nx E n s) ∧ Mz E (nx E n s) ≤ Mz E s ∧ ¬ ((nx E n s).1 < E.length ∧ (ew E (nx E n s).1 = 12 ∨ ew E (nx E n s).1 = 13))
  | 0, s, h, h1 => by have := Mz_nn hF h; omega
  | n + 1, s, h, h1 => by
    show MOK E (if s.1 < E.length ∧ (ew E s.1 = 12 ∨ ew E s.1 = 13) then nx E n (mst E s) else s) ∧ Mz E (if s.1 < E.length ∧ (ew E s.1 = 12 ∨ ew E s.1 = 13) then nx E n (mst E s) else s) ≤ Mz E s ∧ ¬ ((if s.1 < E.length ∧ (ew E s.1 = 12 ∨ ew E s.1 = 13) then nx E n (mst E s) else s).1 < E.length ∧ (ew E (if s.1 < E.length ∧ (ew E s.1 = 12 ∨ ew E s.1 = 13) then nx E n (mst E s) else s).1 = 12 ∨ ew E (if s.1 < E.length ∧ (ew E s.1 = 12 ∨ ew E s.1 = 13) then nx E n (mst E s) else s).1 = 13))
    by_cases q : s.1 < E.length ∧ (ew E s.1 = 12 ∨ ew E s.1 = 13)
    · rw [if_pos q]
      have hd := mst_dec h hF q.1
      obtain ⟨a, b, c⟩ := nx_ok hF n (mst E s) (mst_ok h hF q.1) (by omega)
      exact ⟨a, by omega, c⟩
    · rw [if_neg q]
      exact ⟨h, Int.le_refl _, q⟩
theorem pl_nx {bs : List Int} {E : List EN} (hF : FIN bs E) {g : GS} {d : Nat} : ∀ (n : Nat) (s : MS), MOK E s → Mz E s < n → pl bs E n s g d = pl bs E n (nx E n s) g d
  | 0, s, h, h1 => rfl
  | n + 1, s, h, h1 => by
    by_cases q : s.1 < E.length ∧ (ew E s.1 = 12 ∨ ew E s.1 = 13)
    · have hd := mst_dec h hF q.1
      have ho := mst_ok h hF q.1
      have e1 : nx E (n + 1) s = nx E n (mst E s) := if_pos q
      obtain ⟨a, b, c⟩ := nx_ok hF n (mst E s) ho (by omega)
      rw [e1]
      by_cases q40 : d < 40
      · have e2 : pl bs E (n + 1) s g d = pl bs E n (mst E s) g d := by
          show (if s.1 < E.length ∧ d < 40 then (if ew E s.1 = 12 ∨ ew E s.1 = 13 then pl bs E n (mst E s) g d else _) else _) = _
          rw [if_pos ⟨q.1, q40⟩, if_pos q.2]
        rw [e2, pl_nx hF n (mst E s) ho (by omega), pl_far hF n (n + 1) (nx E n (mst E s)) g d a (by omega) (by omega)]
      · have e3 : ∀ u : MS, pl bs E (n + 1) u g d = (g, d) := fun u => by
          show (if u.1 < E.length ∧ d < 40 then _ else _) = _
          rw [if_neg (fun y => q40 y.2)]
        rw [e3, e3]
    · have e1 : nx E (n + 1) s = s := if_neg q
      rw [e1]
theorem pl_wf {bs : List Int} {E : List EN} (hF : FIN bs E) : ∀ (n : Nat) (s : MS) (g : GS) (d : Nat), WF g → WF (pl bs E n s g d).1
  | 0, s, g, d, w => w
  | n + 1, s, g, d, w => by
    show WF (if s.1 < E.length ∧ d < 40 then (if ew E s.1 = 12 ∨ ew E s.1 = 13 then pl bs E n (mst E s) g d else (if (dO bs (eD E s.1) g).2 = true then pl bs E n (mst E s) (dO bs (eD E s.1) g).1 (d + 1) else ((dO bs (eD E s.1) g).1, d))) else (g, d)).1
    by_cases q : s.1 < E.length ∧ d < 40
    · rw [if_pos q]
      by_cases q2 : ew E s.1 = 12 ∨ ew E s.1 = 13
      · rw [if_pos q2]; exact pl_wf hF n _ g d w
      · rw [if_neg q2]
        have w2 := dO_wf (bs := bs) w (hF.2.2.2.2 s.1 q.1) (fun y => q2 (Or.inl y)) (fun y => q2 (Or.inr y))
        by_cases q3 : (dO bs (eD E s.1) g).2 = true
        · rw [if_pos q3]; exact pl_wf hF n _ _ _ w2
        · rw [if_neg q3]; exact w2
    · rw [if_neg q]; exact w
