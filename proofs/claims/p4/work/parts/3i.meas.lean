/-! ===== depths and comings ===== -/
def mxd (f : Int → Int) (l : List Int) : Int := mT (fun j => f (l.getD j (-1))) l.length
def dpF (R : Nat → List Int) : Nat → Int → Int
  | 0, _ => 0
  | n + 1, x => if x < 26 then 0 else 1 + mxd (dpF R n) (R ((x - 26).toNat + 1))
def dp (g : GS) (x : Int) : Int := dpF (gR g) (sl (gL g) x).toNat x
def tcF (R : Nat → List Int) : Nat → Int → Int → Int
  | 0, _, _ => 0
  | n + 1, y, x => (if x = y then 1 else 0) + (if x < 26 then 0 else ((R ((x - 26).toNat + 1)).map (tcF R n y)).sum)
def tc (g : GS) (y x : Int) : Int := tcF (gR g) (sl (gL g) x).toNat y x
def cm (g : GS) (r : Nat) : Int := ((gR g 0).map (tc g (26 + (r : Int)))).sum
theorem mT_congr {f h : Nat → Int} : ∀ {n : Nat}, (∀ k : Nat, k < n → f k = h k) → mT f n = mT h n
  | 0, _ => rfl
  | n + 1, k => by
    unfold mT
    rw [mT_congr (fun j hj => k j (by omega)), k n (by omega)]
theorem mxd_congr {f h : Int → Int} {l : List Int} (k : ∀ x ∈ l, f x = h x) : mxd f l = mxd h l := mT_congr (fun j hj => k _ (getD_mem hj))
theorem mT_le {f : Nat → Int} {c : Int} (hc : 0 ≤ c) : ∀ {n : Nat}, (∀ k : Nat, k < n → f k ≤ c) → 0 ≤ mT f n ∧ mT f n ≤ c
  | 0, _ => ⟨Int.le_refl _, hc⟩
  | n + 1, h => by
    have h1 := mT_le (n := n) hc (fun k hk => h k (by omega))
    have h2 := h n (by omega)
    unfold mT
    split <;> omega
theorem dpF_far {g : GS} (w : WF g) : ∀ (n m : Nat) (x : Int), SYr (gR g) x → sl (gL g) x ≤ n → sl (gL g) x ≤ m → dpF (gR g) n x = dpF (gR g) m x
  | 0, m, x, hx, h, _ => by have := (w.sl1 hx).1; omega
  | n + 1, 0, x, hx, _, h => by have := (w.sl1 hx).1; omega
  | n + 1, m + 1, x, hx, h1, h2 => by
    rw [dpF, dpF]
    by_cases q : x < 26
    · rw [if_pos q, if_pos q]
    · rw [if_neg q, if_neg q]
      obtain ⟨-, -, -, -, -, h6⟩ := rule_body w hx (by omega)
      rw [mxd_congr (fun y hy => dpF_far w n m y (h6 y hy).1 (by have := (h6 y hy).2; omega) (by have := (h6 y hy).2; omega))]
theorem dp_letter (g : GS) {x : Int} (h : x < 26) : dp g x = 0 := by
  unfold dp
  rw [sl_26 h]
  show dpF (gR g) 1 x = 0
  rw [dpF, if_pos h]
theorem dp_rule {g : GS} (w : WF g) {x : Int} (hx : SYr (gR g) x) (h : 26 ≤ x) : dp g x = 1 + mxd (dp g) (gR g ((x - 26).toNat + 1)) := by
  have h1 := (w.sl1 hx).1
  obtain ⟨-, -, -, -, -, h6⟩ := rule_body w hx h
  have e : dp g x = dpF (gR g) (sl (gL g) x).toNat x := rfl
  obtain ⟨n, hn⟩ : ∃ n : Nat, (sl (gL g) x).toNat = n + 1 := ⟨(sl (gL g) x).toNat - 1, by omega⟩
  rw [e, hn, dpF, if_neg (by omega)]
  rw [mxd_congr (h := dp g) (fun y hy => ?_)]
  have h3 := (h6 y hy).2
  have h4 := (w.sl1 (h6 y hy).1).1
  exact dpF_far w n _ y (h6 y hy).1 (by omega) (by omega)
theorem tcF_far {g : GS} (w : WF g) (y : Int) : ∀ (n m : Nat) (x : Int), SYr (gR g) x → sl (gL g) x ≤ n → sl (gL g) x ≤ m → tcF (gR g) n y x = tcF (gR g) m y x
  | 0, m, x, hx, h, _ => by have := (w.sl1 hx).1; omega
  | n + 1, 0, x, hx, _, h => by have := (w.sl1 hx).1; omega
  | n + 1, m + 1, x, hx, h1, h2 => by
    rw [tcF, tcF]
    by_cases q : x < 26
    · rw [if_pos q, if_pos q]
    · rw [if_neg q, if_neg q]
      obtain ⟨-, -, -, -, -, h6⟩ := rule_body w hx (by omega)
      rw [List.map_congr_left (fun z hz => tcF_far w y n m z (h6 z hz).1 (by have := (h6 z hz).2; omega) (by have := (h6 z hz).2; omega))]
theorem tc_letter (g : GS) {x y : Int} (h : x < 26) (hy : 26 ≤ y) : tc g y x = 0 := by
  unfold tc
  rw [sl_26 h]
  show tcF (gR g) 1 y x = 0
  rw [tcF, if_pos h, if_neg (by omega)]
  rfl
theorem tc_rule {g : GS} (w : WF g) {x : Int} (y : Int) (hx : SYr (gR g) x) (h : 26 ≤ x) : tc g y x = (if x = y then 1 else 0) + ((gR g ((x - 26).toNat + 1)).map (tc g y)).sum := by
  have h1 := (w.sl1 hx).1
  obtain ⟨-, -, -, -, -, h6⟩ := rule_body w hx h
  have e : tc g y x = tcF (gR g) (sl (gL g) x).toNat y x := rfl
  obtain ⟨n, hn⟩ : ∃ n : Nat, (sl (gL g) x).toNat = n + 1 := ⟨(sl (gL g) x).toNat - 1, by omega⟩
  rw [e, hn, tcF, if_neg (c := x < 26) (by omega)]
  have e2 : (gR g ((x - 26).toNat + 1)).map (tcF (gR g) n y) = (gR g ((x - 26).toNat + 1)).map (tc g y) := List.map_congr_left (fun z hz => by
    have h3 := (h6 z hz).2
    have h4 := (w.sl1 (h6 z hz).1).1
    exact tcF_far w y n _ z (h6 z hz).1 (by omega) (by omega))
  rw [e2]
/-- a rule's depth is at most the number of rules that are as short -/
theorem dp_rng {g : GS} (w : WF g) : ∀ (n : Nat) (x : Int), SYr (gR g) x → sl (gL g) x ≤ n → 0 ≤ dp g x ∧ dp g x ≤ sT (fun r => bI (gR g (r + 1) ≠ [] ∧ gL g r ≤ sl (gL g) x)) 40
  | 0, x, hx, h => by have := (w.sl1 hx).1; omega
  | n + 1, x, hx, h => by
    have nn : ∀ c : Int, 0 ≤ sT (fun r => bI (gR g (r + 1) ≠ [] ∧ gL g r ≤ c)) 40 := fun c => (sT_rng (c := 1) (fun k _ => by have := bI_01 (gR g (k + 1) ≠ [] ∧ gL g k ≤ c); omega)).1
    by_cases q : x < 26
    · rw [dp_letter g q]; exact ⟨Int.le_refl _, nn _⟩
    · obtain ⟨b1, b2, b3, b4, b5, b6⟩ := rule_body w hx (by omega)
      rw [dp_rule w hx (by omega)]
      have hup : sT (fun r => bI (gR g (r + 1) ≠ [] ∧ gL g r ≤ sl (gL g) x - 1)) 40 + 1 ≤ sT (fun r => bI (gR g (r + 1) ≠ [] ∧ gL g r ≤ sl (gL g) x)) 40 := by
        have h1 := sT_up (f := fun r => if r = (x - 26).toNat then 0 else bI (gR g (r + 1) ≠ [] ∧ gL g r ≤ sl (gL g) x)) (h := fun r => bI (gR g (r + 1) ≠ [] ∧ gL g r ≤ sl (gL g) x)) (r := (x - 26).toNat) b1 (fun j _ hj => by rw [if_neg hj])
        have h2 : sT (fun r => bI (gR g (r + 1) ≠ [] ∧ gL g r ≤ sl (gL g) x - 1)) 40 ≤ sT (fun r => if r = (x - 26).toNat then 0 else bI (gR g (r + 1) ≠ [] ∧ gL g r ≤ sl (gL g) x)) 40 := sT_le (fun j _ => by
          by_cases e : j = (x - 26).toNat
          · rw [if_pos e, bI_neg (fun z => by have := z.2; rw [e, ← b2] at this; omega)]; exact Int.le_refl _
          · rw [if_neg e]
            by_cases z : gR g (j + 1) ≠ [] ∧ gL g j ≤ sl (gL g) x - 1
            · rw [bI_pos z, bI_pos ⟨z.1, by omega⟩]; exact Int.le_refl _
            · rw [bI_neg z]
              have := bI_01 (gR g (j + 1) ≠ [] ∧ gL g j ≤ sl (gL g) x)
              omega)
        rw [if_pos rfl, bI_pos ⟨b3, by rw [b2]; exact Int.le_refl _⟩] at h1
        omega
      have hm := mT_le (f := fun j => dp g ((gR g ((x - 26).toNat + 1)).getD j (-1))) (n := (gR g ((x - 26).toNat + 1)).length) (nn (sl (gL g) x - 1)) (fun j hj => by
        have hy := b6 _ (getD_mem (d := -1) hj)
        have h3 := (dp_rng w n _ hy.1 (by omega)).2
        refine Int.le_trans h3 (sT_le (fun r _ => ?_))
        by_cases z : gR g (r + 1) ≠ [] ∧ gL g r ≤ sl (gL g) ((gR g ((x - 26).toNat + 1)).getD j (-1))
        · rw [bI_pos z, bI_pos ⟨z.1, by omega⟩]; exact Int.le_refl _
        · rw [bI_neg z]
          have := bI_01 (gR g (r + 1) ≠ [] ∧ gL g r ≤ sl (gL g) x - 1)
          omega)
      unfold mxd
      omega
theorem dp_40 {g : GS} (w : WF g) {x : Int} (hx : SYr (gR g) x) : 0 ≤ dp g x ∧ dp g x ≤ 40 := by
  have h1 := (w.sl1 hx).1
  have h := dp_rng w (sl (gL g) x).toNat x hx (by omega)
  have h2 := (sT_rng (f := fun r => bI (gR g (r + 1) ≠ [] ∧ gL g r ≤ sl (gL g) x)) (c := 1) (n := 40) (fun k _ => by have := bI_01 (gR g (k + 1) ≠ [] ∧ gL g k ≤ sl (gL g) x); omega)).2
  omega
/-- a sum over a row, by rules -/
theorem map_sum {f : Int → Int} (hf : ∀ x : Int, x < 26 → f x = 0) : ∀ {l : List Int}, (∀ x ∈ l, 0 ≤ x ∧ x < 66) → (l.map f).sum = sT (fun r => (l.count (26 + (r : Int)) : Int) * f (26 + (r : Int))) 40
  | [], _ => by
    rw [sT_zero (fun k _ => by simp)]
    rfl
  | x :: l, h => by
    have ih := map_sum hf (l := l) (fun y hy => h y (List.mem_cons_of_mem _ hy))
    have hx := h x List.mem_cons_self
    rw [List.map_cons, List.sum_cons, ih]
    have e : ∀ r : Nat, ((x :: l).count (26 + (r : Int)) : Int) * f (26 + (r : Int)) = (if x = 26 + (r : Int) then f x else 0) + (l.count (26 + (r : Int)) : Int) * f (26 + (r : Int)) := fun r => by
      rw [List.count_cons]
      by_cases q : x = 26 + (r : Int)
      · rw [if_pos (by simpa using q), if_pos q, Int.natCast_add, Int.add_mul, q]; simp; omega
      · rw [if_neg (by simpa using q), if_neg q]; simp
    rw [sT_congr (fun r _ => e r), sT_add]
    congr 1
    by_cases q : x < 26
    · rw [hf x q, sT_zero (fun k _ => by rw [if_neg (by omega)])]
    · have h1 := sT_up (f := fun _ => 0) (h := fun r => if x = 26 + (r : Int) then f x else 0) (r := (x - 26).toNat) (n := 40) (by omega) (fun j _ hj => if_neg (by omega))
      rw [h1, sT_zero (fun _ _ => rfl), if_pos (by omega)]
      omega
/-- the balance of comings: what was come by, rules that are done and others -/
def tot (g : GS) (c : Nat → Int) (D : Nat → Bool) (y : Nat) : Int := sT (fun r => if D r = true then (if r = y then c r else 0) else c r * tc g (26 + (y : Int)) (26 + (r : Int))) 40
theorem cm_0 {g : GS} (w : WF g) (y : Nat) : cm g y = tot g (fun r => ((gR g 0).count (26 + (r : Int)) : Int)) (fun _ => false) y := by
  unfold cm tot
  rw [map_sum (fun x hx => tc_letter g hx (by omega)) (w.sy (by omega))]
  exact sT_congr (fun r _ => by rw [if_neg (by simp)])
theorem tot_step {g : GS} (w : WF g) {c c' : Nat → Int} {D : Nat → Bool} {x : Nat} (hx : x < 40) (hn : gR g (x + 1) ≠ []) (hD : D x = false) (hc : ∀ r : Nat, r < 40 → c' r = c r + c x * ((gR g (x + 1)).count (26 + (r : Int)) : Int)) (hd : ∀ r : Nat, r < 40 → D r = true → (gR g (x + 1)).count (26 + (r : Int)) = 0) (y : Nat) : tot g c' (fun r => D r || decide (r = x)) y = tot g c D y := by
  have hsx : SYr (gR g) (26 + (x : Int)) := ⟨by omega, by omega, fun _ => by rw [show (26 + (x : Int) - 26).toNat = x by omega]; exact hn⟩
  have ht := tc_rule w (26 + (y : Int)) hsx (by omega)
  rw [show (26 + (x : Int) - 26).toNat = x by omega, map_sum (fun z hz => tc_letter g hz (by omega)) (w.sy (by omega))] at ht
  have hni := w.not_in hx hn
  unfold tot
  have e1 : sT (fun r => if (D r || decide (r = x)) = true then (if r = y then c' r else 0) else c' r * tc g (26 + (y : Int)) (26 + (r : Int))) 40 = sT (fun r => (if r = x then (if x = y then c x else 0) else if D r = true then (if r = y then c r else 0) else c r * tc g (26 + (y : Int)) (26 + (r : Int))) + ((gR g (x + 1)).count (26 + (r : Int)) : Int) * tc g (26 + (y : Int)) (26 + (r : Int)) * c x) 40 := by
    refine sT_congr (fun r hr => ?_)
    show (if (D r || decide (r = x)) = true then (if r = y then c' r else 0) else c' r * tc g (26 + (y : Int)) (26 + (r : Int))) = _
    rw [hc r hr]
    by_cases q : r = x
    · subst q
      rw [if_pos (by simp), if_pos rfl, hni]
      simp
    · rw [if_neg q]
      by_cases d : D r = true
      · rw [if_pos (by simp [d]), if_pos d, hd r hr d]
        simp
      · rw [if_neg (by simp [d, q]), if_neg d, Int.add_mul]
        congr 1
        rw [Int.mul_comm (c x), Int.mul_assoc, Int.mul_assoc, Int.mul_comm (c x)]
  rw [e1, sT_add, sT_mul]
  have e2 := sT_up (f := fun r => if D r = true then (if r = y then c r else 0) else c r * tc g (26 + (y : Int)) (26 + (r : Int))) (h := fun r => if r = x then (if x = y then c x else 0) else if D r = true then (if r = y then c r else 0) else c r * tc g (26 + (y : Int)) (26 + (r : Int))) (r := x) (n := 40) hx (fun j _ hj => by rw [if_neg hj])
  rw [e2, if_pos rfl, hD, if_neg Bool.false_ne_true, ht]
  have e3 : (26 + (x : Int) = 26 + (y : Int)) ↔ x = y := by omega
  by_cases q : x = y
  · rw [if_pos q, if_pos (e3.mpr q), Int.mul_add, Int.mul_one, Int.mul_comm (c x)]; omega
  · rw [if_neg q, if_neg (fun z => q (e3.mp z)), Int.zero_add, Int.mul_comm (c x)]; omega
theorem tot_end {g : GS} {c : Nat → Int} {D : Nat → Bool} (h : ∀ r : Nat, r < 40 → D r = false → c r = 0) {y : Nat} (hy : y < 40) : tot g c D y = c y := by
  unfold tot
  have h1 := sT_up (f := fun _ => 0) (h := fun r => if D r = true then (if r = y then c r else 0) else c r * tc g (26 + (y : Int)) (26 + (r : Int))) (r := y) (n := 40) hy (fun j hj hne => by
    show (if D j = true then (if j = y then c j else 0) else c j * tc g (26 + (y : Int)) (26 + (j : Int))) = 0
    by_cases d : D j = true
    · rw [if_pos d, if_neg hne]
    · rw [if_neg d, h j hj (eq_false_of_ne_true d), Int.zero_mul])
  rw [h1, sT_zero (fun _ _ => rfl)]
  by_cases d : D y = true
  · rw [if_pos d, if_pos rfl]; omega
  · rw [if_neg d, h y hy (eq_false_of_ne_true d), Int.zero_mul]; omega
