/-! ===== the reference's state; its small functions ===== -/
def GWf (f : Nat → Int) (g : GS) : Prop := (∀ i : Nat, i < 41 → f (16 + i) = ((gR g i).length : Int) ∧ (gR g i).length ≤ 400 ∧ ∀ j : Nat, j < (gR g i).length → f (60 + 400 * i + j) = (gR g i).getD j (-1)) ∧ f 3 = ((gT g).length : Int) ∧ (gT g).length ≤ 400 ∧ (∀ j : Nat, j < (gT g).length → f (16460 + j) = (gT g).getD j (-1)) ∧ (∀ i : Nat, i < 9 → f (6 + i) = gA g i) ∧ f 0 = gN g 0 ∧ f 1 = gN g 1 ∧ f 2 = gN g 2 ∧ f 4 = gN g 3
def GW (I : Mem) (g : GS) : Prop := GWf (I 27 0) g
def GB (I : Mem) (k b : Nat) (g : GS) : Prop := GWf (fun s => I 27 k (b + s)) g
abbrev FW : FP := fun k i _ => k = 27 ∧ i = 0
abbrev FWR (i : Nat) : FP := fun k i' s => k = 27 ∧ i' = 0 ∧ (s = 16 + i ∨ (60 + 400 * i ≤ s ∧ s < 460 + 400 * i))
theorem GWf.congr {f f' : Nat → Int} {g : GS} (h : GWf f g) (k : ∀ s : Nat, s < 16860 → f' s = f s) : GWf f' g := by
  obtain ⟨h1, h2, h3, h4, h5, h6, h7, h8, h9⟩ := h
  refine ⟨fun i hi => ?_, by rw [k _ (by omega)]; exact h2, h3, fun j hj => by rw [k _ (by omega)]; exact h4 j hj, fun i hi => by rw [k _ (by omega)]; exact h5 i hi, by rw [k _ (by omega)]; exact h6, by rw [k _ (by omega)]; exact h7, by rw [k _ (by omega)]; exact h8, by rw [k _ (by omega)]; exact h9⟩
  obtain ⟨a1, a2, a3⟩ := h1 i hi
  exact ⟨by rw [k _ (by omega)]; exact a1, a2, fun j hj => by rw [k _ (by omega)]; exact a3 j hj⟩
theorem GWf.cong2 {f : Nat → Int} {g g' : GS} (h : GWf f g) (h1 : ∀ i : Nat, i < 41 → gR g' i = gR g i) (h2 : gT g' = gT g) (h4 : ∀ i : Nat, i < 9 → gA g' i = gA g i) (h5 : ∀ i : Nat, i < 4 → gN g' i = gN g i) : GWf f g' := by
  obtain ⟨k1, k2, k3, k4, k5, k6, k7, k8, k9⟩ := h
  refine ⟨fun i hi => by rw [h1 i hi]; exact k1 i hi, by rw [h2]; exact k2, by rw [h2]; exact k3, by rw [h2]; exact k4, fun i hi => by rw [h4 i hi]; exact k5 i hi, by rw [h5 0 (by decide)]; exact k6, by rw [h5 1 (by decide)]; exact k7, by rw [h5 2 (by decide)]; exact k8, by rw [h5 3 (by decide)]; exact k9⟩
theorem GW.congr {I : Mem} {g g' : GS} (h : GW I g) (h1 : ∀ i : Nat, i < 41 → gR g' i = gR g i) (h2 : gT g' = gT g) (h4 : ∀ i : Nat, i < 9 → gA g' i = gA g i) (h5 : ∀ i : Nat, i < 4 → gN g' i = gN g i) : GW I g' := h.cong2 h1 h2 h4 h5
theorem GW.fm {F : FP} {I J : Mem} {g : GS} (h : GW I g) (f : Fm F I J) (hn : ∀ s : Nat, s < 16860 → ¬ F 27 0 s) : GW J g := GWf.congr h (fun s hs => f.at (by decide) (hn s hs))
theorem GW.row {I J : Mem} {g : GS} {i : Nat} {l : List Int} (h : GW I g) (hi : i < 41) (hl : l.length ≤ 400) (h1 : J 27 0 (16 + i) = (l.length : Int)) (h2 : ∀ j : Nat, j < l.length → J 27 0 (60 + 400 * i + j) = l.getD j (-1)) (f : Fm (FWR i) I J) : GW J (gsR g i l) := by
  obtain ⟨k1, k2, k3, k4, k5, k6, k7, k8, k9⟩ := h
  have e : ∀ s : Nat, s ≠ 16 + i → ¬ (60 + 400 * i ≤ s ∧ s < 460 + 400 * i) → J 27 0 s = I 27 0 s := fun s h1 h2 => f.at (by decide) (fun z => by unfold FWR at z; omega)
  refine ⟨fun j hj => ?_, by rw [e _ (by omega) (by omega)]; exact k2, k3, fun j hj => ?_, fun j hj => by rw [e _ (by omega) (by omega)]; exact k5 j hj, by rw [e _ (by omega) (by omega)]; exact k6, by rw [e _ (by omega) (by omega)]; exact k7, by rw [e _ (by omega) (by omega)]; exact k8, by rw [e _ (by omega) (by omega)]; exact k9⟩
  · show J 27 0 (16 + j) = ((up (gR g) i l j).length : Int) ∧ (up (gR g) i l j).length ≤ 400 ∧ ∀ q : Nat, q < (up (gR g) i l j).length → J 27 0 (60 + 400 * j + q) = (up (gR g) i l j).getD q (-1)
    by_cases q : j = i
    · subst q; rw [up_self]; exact ⟨h1, hl, h2⟩
    · rw [up_ne q]
      obtain ⟨a1, a2, a3⟩ := k1 j hj
      exact ⟨by rw [e _ (by omega) (by omega)]; exact a1, a2, fun q hq => by rw [e _ (by omega) (by omega)]; exact a3 q hq⟩
  · have k3' : j < 400 := Nat.lt_of_lt_of_le hj k3
    rw [e _ (by omega) (by omega)]; exact k4 j hj
theorem GW.acc {I : Mem} {g : GS} {i : Nat} {v : Int} (h : GW I g) (hi : i < 9) : GW (sI I 27 0 (6 + i) v) (gsA g i v) := by
  obtain ⟨k1, k2, k3, k4, k5, k6, k7, k8, k9⟩ := h
  refine ⟨fun j hj => ?_, by rw [sI_ne (by omega)]; exact k2, k3, fun j hj => by rw [sI_ne (by omega)]; exact k4 j hj, fun j hj => ?_, by rw [sI_ne (by omega)]; exact k6, by rw [sI_ne (by omega)]; exact k7, by rw [sI_ne (by omega)]; exact k8, by rw [sI_ne (by omega)]; exact k9⟩
  · obtain ⟨a1, a2, a3⟩ := k1 j hj
    exact ⟨by rw [sI_ne (by omega)]; exact a1, a2, fun q hq => by rw [sI_ne (by omega)]; exact a3 q hq⟩
  · show sI I 27 0 (6 + i) v 27 0 (6 + j) = up (gA g) i v j
    by_cases e : j = i
    · subst e; rw [sI_self, up_self]
    · rw [sI_ne (by omega), up_ne e]; exact k5 j hj
theorem GW.num {I : Mem} {g : GS} {i : Nat} {v : Int} (h : GW I g) (hi : i < 3) : GW (sI I 27 0 i v) (gsN g i v) := by
  obtain ⟨k1, k2, k3, k4, k5, k6, k7, k8, k9⟩ := h
  refine ⟨fun j hj => ?_, by rw [sI_ne (by omega)]; exact k2, k3, fun j hj => by rw [sI_ne (by omega)]; exact k4 j hj, fun j hj => by rw [sI_ne (by omega)]; exact k5 j hj, ?_, ?_, ?_, ?_⟩
  · obtain ⟨a1, a2, a3⟩ := k1 j hj
    exact ⟨by rw [sI_ne (by omega)]; exact a1, a2, fun q hq => by rw [sI_ne (by omega)]; exact a3 q hq⟩
  · show sI I 27 0 i v 27 0 0 = up (gN g) i v 0
    by_cases e : 0 = i
    · subst e; rw [sI_self, up_self]
    · rw [sI_ne (by omega), up_ne e]; exact k6
  · show sI I 27 0 i v 27 0 1 = up (gN g) i v 1
    by_cases e : 1 = i
    · subst e; rw [sI_self, up_self]
    · rw [sI_ne (by omega), up_ne e]; exact k7
  · show sI I 27 0 i v 27 0 2 = up (gN g) i v 2
    by_cases e : 2 = i
    · subst e; rw [sI_self, up_self]
    · rw [sI_ne (by omega), up_ne e]; exact k8
  · show sI I 27 0 i v 27 0 4 = up (gN g) i v 3
    rw [sI_ne (by omega), up_ne (by omega)]; exact k9
theorem GW.first {I : Mem} {g : GS} {v : Int} (h : GW I g) : GW (sI I 27 0 4 v) (gsN g 3 v) := by
  obtain ⟨k1, k2, k3, k4, k5, k6, k7, k8, k9⟩ := h
  refine ⟨fun j hj => ?_, by rw [sI_ne (by omega)]; exact k2, k3, fun j hj => by rw [sI_ne (by omega)]; exact k4 j hj, fun j hj => by rw [sI_ne (by omega)]; exact k5 j hj, by rw [sI_ne (by omega)]; exact k6, by rw [sI_ne (by omega)]; exact k7, by rw [sI_ne (by omega)]; exact k8, by rw [sI_self]; rfl⟩
  obtain ⟨a1, a2, a3⟩ := k1 j hj
  exact ⟨by rw [sI_ne (by omega)]; exact a1, a2, fun q hq => by rw [sI_ne (by omega)]; exact a3 q hq⟩
theorem sIW {I : Mem} {s : Nat} {v : Int} : Fm FW I (sI I 27 0 s v) := Fm.sI (by decide) (by omega) (by omega) ⟨rfl, rfl⟩
section MOD
variable {I : Mem} {g : GS}
theorem m_in {a lo hi : Int} (h1 : -2147483648 ≤ a ∧ a < 2147483648) (h2 : -2147483648 ≤ lo ∧ lo < 2147483648) (h3 : -2147483648 ≤ hi ∧ hi < 2147483648) : f_M_in a lo hi I = some (bI (lo ≤ a ∧ a ≤ hi), I) := by
  unfold f_M_in
  rw [w32_of h1.1 h1.2, w32_of h2.1 h2.2, w32_of h3.1 h3.2]
  by_cases q : a < lo
  · rw [if_pos q, bI_neg (by omega)]
  · rw [if_neg q]
    by_cases q2 : hi < a
    · rw [if_pos q2, bI_neg (by omega)]
    · rw [if_neg q2, bI_pos (by omega)]
theorem m_one (p : Prop) [Decidable p] : f_M_one (bI p) I = some (bI p, I) := by
  unfold f_M_one
  by_cases h : p
  · rw [if_neg (wb_pos h), bI_pos h]
  · rw [if_pos (wb_neg h), bI_neg h]
theorem m_oneI (p : Prop) [Decidable p] : f_M_one (if p then 1 else 0) I = some (bI p, I) := m_one p
theorem m_many (h : GW I g) {i : Nat} (hi : i < 41) : f_M_many (i : Int) I = some (((gR g i).length : Int), I) := by
  unfold f_M_many
  rw [w32_of (by omega) (by omega), if_pos (by omega), show ((16 : Int) + (i : Int)).toNat = 16 + i by omega, (h.1 i hi).1]
theorem m_at (h : GW I g) {i j : Nat} (hi : i < 41) (hj : j < (gR g i).length) : f_M_at (i : Int) (j : Int) I = some ((gR g i).getD j (-1), I) := by
  have hl := (h.1 i hi).2.1
  unfold f_M_at
  rw [w32_of (by omega) (by omega), if_pos (by omega), show ((60 : Int) + 400 * (i : Int) + (j : Int)).toNat = 60 + 400 * i + j by omega, (h.1 i hi).2.2 j hj]
theorem m_atR {i j : Nat} (hi : i < 41) (hj : j < 400) : f_M_at (i : Int) (j : Int) I = some (I 27 0 (60 + 400 * i + j), I) := by
  unfold f_M_at
  rw [w32_of (by omega) (by omega), if_pos (by omega), show ((60 : Int) + 400 * (i : Int) + (j : Int)).toNat = 60 + 400 * i + j by omega]
theorem m_puts {i j : Nat} (hi : i < 41) (hj : j < 400) (v : Int) : f_M_puts (i : Int) (j : Int) v I = some ((), sI I 27 0 (60 + 400 * i + j) v) := by
  unfold f_M_puts
  rw [w32_of (by omega) (by omega), if_pos (by omega), show ((60 : Int) + 400 * (i : Int) + (j : Int)).toNat = 60 + 400 * i + j by omega]
theorem fwr_p {i j : Nat} (hj : j < 400) {v : Int} : Fm (FWR i) I (sI I 27 0 (60 + 400 * i + j) v) := Fm.sI (by decide) (by omega) (by omega) ⟨rfl, rfl, Or.inr ⟨by omega, by omega⟩⟩
theorem fwr_m {i : Nat} {v : Int} : Fm (FWR i) I (sI I 27 0 (16 + i) v) := Fm.sI (by decide) (by omega) (by omega) ⟨rfl, rfl, Or.inl rfl⟩
theorem FWR_FW {i : Nat} : ∀ a b c : Nat, FWR i a b c → FW a b c := fun a b c z => ⟨z.1, z.2.1⟩
theorem t_madds (h : GW I g) {i : Nat} (hi : i < 41) (hl : (gR g i).length < 400) (v : Int) : Tr (f_M_adds (i : Int) v I) (fun _ J => GW J (gsR g i (gR g i ++ [v])) ∧ Fm (FWR i) I J) := by
  unfold f_M_adds
  rw [m_many h hi, bnd_some, m_puts hi hl, bnd_some, w32_of (by omega) (by omega), if_pos (by omega), show ((16 : Int) + (i : Int)).toNat = 16 + i by omega]
  refine tr_ret ?_
  have f := (fwr_p (I := I) (i := i) (v := v) hl).trans (fwr_m (i := i) (v := sI I 27 0 (60 + 400 * i + (gR g i).length) v 27 0 (16 + i) + 1))
  refine ⟨h.row hi (by rw [List.length_append, List.length_singleton]; omega) ?_ (fun j hj => ?_) f, f⟩
  · rw [sI_self, sI_ne (by omega), (h.1 i hi).1, List.length_append]; rfl
  · rw [List.length_append, List.length_singleton] at hj
    rw [sI_ne (by omega)]
    by_cases e : j = (gR g i).length
    · subst e; rw [sI_self, getD_r (Nat.le_refl _), Nat.sub_self]; rfl
    · rw [sI_ne (by omega), getD_l (by omega), (h.1 i hi).2.2 j (by omega)]
theorem m_isHere (h : GW I g) {r : Nat} (hr : r < 40) : f_M_isHere (r : Int) I = some (bI (gR g (r + 1) ≠ []), I) := by
  have hl := (h.1 (r + 1) (by omega)).2.1
  have e := m_many h (i := r + 1) (by omega)
  rw [show ((r + 1 : Nat) : Int) = (r : Int) + 1 from rfl] at e
  unfold f_M_isHere
  rw [e, bnd_some, w32_of (by omega) (by omega)]
  by_cases q : gR g (r + 1) = []
  · rw [if_neg (by rw [q]; simp), bI_neg (fun z => z q)]
  · have := List.length_pos_iff.mpr q
    rw [if_pos (by omega), bI_pos q]
theorem m_isSymbol (h : GW I g) {a : Int} (ha : 0 ≤ a ∧ a < 66) : f_M_isSymbol a I = some (bI (26 ≤ a → gR g ((a - 26).toNat + 1) ≠ []), I) := by
  unfold f_M_isSymbol
  rw [w32_of (by omega) (by omega)]
  by_cases q : a < 26
  · rw [if_pos q, bI_pos (fun z => by omega)]
  · rw [if_neg q, show a - 26 = (((a - 26).toNat : Nat) : Int) by omega, m_isHere h (by omega), bnd_some, Int.toNat_natCast]
    by_cases e : gR g ((a - 26).toNat + 1) = []
    · rw [if_pos (wb_neg (fun z => z e)), bI_neg (fun k => k (by omega) e)]
    · rw [if_neg (wb_pos e), bI_pos (fun _ => e)]
theorem m_rules (h : GW I g) : f_M_rules I = some (nRules g, I) := by
  unfold f_M_rules
  rw [whl_ro (r := nRules g) (s0 := ((0 : Int), (0 : Int))) (fun k => (sT (fun r => if gR g (r + 1) ≠ [] then 1 else 0) k, (k : Int))) 40 rfl ?_ ?_, bnd_some]
  · intro k hk
    unfold f_M_rules_w4
    dsimp only
    rw [w32_of (x := (k : Int)) (by omega) (by omega), if_pos (by omega), m_isHere h hk, bnd_some, m_one, bnd_some]
    rfl
  · unfold f_M_rules_w4
    dsimp only
    rw [if_neg (by decide)]
    rfl
theorem m_sizeNow (h : GW I g) : f_M_sizeNow I = some (gSize g, I) := by
  unfold f_M_sizeNow
  rw [whl_ro (r := gSize g) (s0 := ((0 : Int), (0 : Int))) (fun k => (sT (fun i => ((gR g i).length : Int)) k, (k : Int))) 41 rfl ?_ ?_, bnd_some]
  · intro k hk
    unfold f_M_sizeNow_w4
    dsimp only
    rw [w32_of (x := (k : Int)) (by omega) (by omega), if_pos (by omega), m_many h hk, bnd_some]
    rfl
  · unfold f_M_sizeNow_w4
    dsimp only
    rw [if_neg (by decide)]
    rfl
theorem m_longest (h : GW I g) : f_M_longestBody I = some (gLongest g, I) := by
  have hm : ∀ n : Nat, n ≤ 40 → 0 ≤ mT (fun r => ((gR g (r + 1)).length : Int)) n ∧ mT (fun r => ((gR g (r + 1)).length : Int)) n ≤ 400 := fun n hn => mT_le (by decide) (fun k hk => by have := (h.1 (k + 1) (by omega)).2.1; omega)
  unfold f_M_longestBody
  rw [whl_ro (r := gLongest g) (s0 := ((0 : Int), (1 : Int))) (fun k => (mT (fun r => ((gR g (r + 1)).length : Int)) k, (k : Int) + 1)) 40 rfl ?_ ?_, bnd_some]
  · intro k hk
    have hk2 := hm k (by omega)
    have hl := (h.1 (k + 1) (by omega)).2.1
    have e := m_many h (i := k + 1) (by omega)
    rw [show ((k + 1 : Nat) : Int) = (k : Int) + 1 from rfl] at e
    unfold f_M_longestBody_w4
    dsimp only
    rw [w32_of (x := (k : Int) + 1) (by omega) (by omega), if_pos (by omega), e, bnd_some]
    unfold imx
    rw [w32_of (x := mT _ k) (by omega) (by omega), w32_of (x := ((gR g (k + 1)).length : Int)) (by omega) (by omega)]
    rfl
  · unfold f_M_longestBody_w4
    dsimp only
    rw [if_neg (by decide)]
    rfl
theorem m_freeRule (h : GW I g) : f_M_freeRule I = some (gFree g, I) := by
  unfold f_M_freeRule
  refine whl_find _ 40 (fun k hk => ?_) ?_
  · unfold f_M_freeRule_w2
    rw [w32_of (x := (k : Int)) (by omega) (by omega), if_pos (by omega), m_isHere h hk, bnd_some]
    by_cases e : gR g (k + 1) = []
    · rw [if_pos (wb_neg (fun z => z e)), if_pos (by simpa using e)]
    · rw [if_neg (wb_pos e), if_neg (by simpa using e)]
  · unfold f_M_freeRule_w2
    rw [if_neg (by decide)]
theorem m_usesIn (h : GW I g) (w : ∀ i : Nat, i < 41 → SY (gR g i)) {i : Nat} (hi : i < 41) {a : Int} (ha : 0 ≤ a ∧ a < 1000) : f_M_usesIn (i : Int) a I = some (((gR g i).count a : Int), I) := by
  have hl := (h.1 i hi).2.1
  unfold f_M_usesIn
  rw [whl_ro (r := ((gR g i).count a : Int)) (s0 := ((0 : Int), (0 : Int))) (fun k => ((((gR g i).take k).count a : Int), (k : Int))) (gR g i).length (by simp) ?_ ?_, bnd_some]
  · intro k hk
    have q := (w i hi).at hk
    unfold f_M_usesIn_w5
    dsimp only
    rw [m_many h hi, bnd_some, w32_of (x := (k : Int)) (by omega) (by omega), w32_of (x := ((gR g i).length : Int)) (by omega) (by omega), if_pos (by omega), m_at h hi hk, bnd_some, w32_of (x := (gR g i).getD k (-1)) (by omega) (by omega), w32_of (x := a) (by omega) (by omega), m_oneI, bnd_some, take_at (d := -1) hk, List.count_append, List.count_singleton]
    by_cases e : (gR g i).getD k (-1) = a
    · rw [bI_pos e, if_pos (by simpa using e)]; rfl
    · rw [bI_neg e, if_neg (by simpa using e)]; rfl
  · unfold f_M_usesIn_w5
    dsimp only
    rw [m_many h hi, bnd_some, w32_of (x := ((gR g i).length : Int)) (by omega) (by omega), if_neg (by omega), List.take_length]
theorem m_usesOf (h : GW I g) (w : ∀ i : Nat, i < 41 → SY (gR g i)) {r : Nat} (hr : r < 40) : f_M_usesOf (r : Int) I = some (gUses g r, I) := by
  unfold f_M_usesOf
  rw [whl_ro (r := gUses g r) (s0 := ((0 : Int), (0 : Int))) (fun k => (sT (fun i => ((gR g i).count (26 + (r : Int)) : Int)) k, (k : Int))) 41 rfl ?_ ?_, bnd_some]
  · intro k hk
    unfold f_M_usesOf_w4
    dsimp only
    rw [w32_of (x := (k : Int)) (by omega) (by omega), if_pos (by omega), m_usesIn h w hk (by omega), bnd_some]
    rfl
  · unfold f_M_usesOf_w4
    dsimp only
    rw [if_neg (by decide)]
    rfl
theorem m_lonely (h : GW I g) (w : ∀ i : Nat, i < 41 → SY (gR g i)) : f_M_lonely I = some (gLonely g, I) := by
  unfold f_M_lonely
  refine whl_find _ 40 (fun k hk => ?_) ?_
  · have hr := sT_rng (f := fun i => ((gR g i).count (26 + (k : Int)) : Int)) (c := 400) (n := 41) (fun j hj => by
      have h1 := (h.1 j hj).2.1
      have h2 : (gR g j).count (26 + (k : Int)) ≤ (gR g j).length := List.count_le_length
      omega)
    have hr : 0 ≤ gUses g k ∧ gUses g k ≤ 16400 := by unfold gUses; omega
    unfold f_M_lonely_w2
    rw [w32_of (x := (k : Int)) (by omega) (by omega), if_pos (by omega), m_isHere h hk, bnd_some]
    by_cases e : gR g (k + 1) = []
    · rw [if_pos (wb_neg (fun z => z e)), if_neg (by simp [e])]
    · rw [if_neg (wb_pos e), m_usesOf h w hk, bnd_some, w32_of (x := gUses g k) (by omega) (by omega)]
      by_cases q : gUses g k < 2
      · rw [if_pos q, if_pos (by simp [e, q])]
      · rw [if_neg q, if_neg (by simp [q])]
  · unfold f_M_lonely_w2
    rw [if_neg (by decide)]
theorem t_mcounts (h : GW I g) {a : Nat} (ha : a < 9) (v : Int) : Tr (f_M_counts (a : Int) v I) (fun _ J => GW J (gsA g a (gA g a + v)) ∧ Fm FW I J) := by
  unfold f_M_counts
  rw [w32_of (by omega) (by omega), if_pos (by omega), show ((6 : Int) + (a : Int)).toNat = 6 + a by omega, h.2.2.2.2.1 a ha]
  exact tr_ret ⟨h.acc ha, sIW⟩
/-- a block is laid -/
theorem t_mlays {k k' b b' : Nat} (hk : k < 23) (hk' : k' < 23) (hb : b + 16860 ≤ mLen k) (hb' : b' + 16860 ≤ mLen k') (hm : mLen k ≤ 1000000) (hm' : mLen k' ≤ 1000000) (hne : k ≠ k') : Tr (f_M_lays k (b : Int) k' (b' : Int) I) (fun _ J => (∀ s : Nat, s < 16860 → J 27 k' (b' + s) = I 27 k (b + s)) ∧ Fm (fun x y z => x = 27 ∧ y = k' ∧ b' ≤ z ∧ z < b' + 16860) I J) := by
  unfold f_M_lays
  rw [if_pos hk, if_pos hk']
  refine tr_call (P := fun _ J => (∀ s : Nat, s < 16860 → J 27 k' (b' + s) = I 27 k (b + s)) ∧ Fm (fun x y z => x = 27 ∧ y = k' ∧ b' ≤ z ∧ z < b' + 16860) I J) (tr_cnt (fun k => (k : Int)) (fun q J => (∀ s : Nat, s < q → J 27 k' (b' + s) = I 27 k (b + s)) ∧ Fm (fun x y z => x = 27 ∧ y = k' ∧ b' ≤ z ∧ z < b' + 16860) I J) 16860 rfl ⟨fun s hs => absurd hs (Nat.not_lt_zero s), Fm.refl _ _⟩ ?_ ?_) (fun _ _ q => tr_ret q)
  · rintro q J hq ⟨h1, h2⟩
    unfold f_M_lays_w3
    rw [w32_of (x := (q : Int)) (by omega) (by omega), if_pos (by omega), w32_of (x := (b : Int) + (q : Int)) (by omega) (by omega), if_pos (by omega), w32_of (x := (b' : Int) + (q : Int)) (by omega) (by omega), if_pos (by omega), show ((b' : Int) + (q : Int)).toNat = b' + q by omega, show ((b : Int) + (q : Int)).toNat = b + q by omega]
    refine tr_ret ⟨rfl, fun s hs => ?_, h2.trans (Fm.sI (by decide) (by omega) (by omega) ⟨rfl, rfl, by omega, by omega⟩)⟩
    by_cases e : s = q
    · subst e; rw [sI_self]; exact h2.at (by decide) (by omega)
    · rw [sI_ne (by omega)]; exact h1 s (by omega)
  · rintro J ⟨h1, h2⟩
    unfold f_M_lays_w3
    rw [if_neg (by decide)]
    exact tr_ret ⟨h1, h2⟩
end MOD
