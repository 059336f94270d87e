/-! ===== states that are well formed stay so; sizes ===== -/
theorem ll_congr {L L' : Nat → Int} {l : List Int} (h : ∀ x ∈ l, sl L' x = sl L x) : ll L' l = ll L l := by
  unfold ll
  rw [List.map_congr_left h]
theorem sl_up {L : Nat → Int} {r : Nat} {v x : Int} (h : x ≠ 26 + (r : Int)) (h0 : 0 ≤ x) : sl (up L r v) x = sl L x := by
  unfold sl
  by_cases q : x < 26
  · rw [if_pos q, if_pos q]
  · rw [if_neg q, if_neg q, up_ne (by omega)]
theorem joinL_mem {a b s x : Int} : ∀ {l : List Int}, x ∈ joinL a b s l → x ∈ l ∨ x = s ∧ a ∈ l ∧ b ∈ l
  | [], h => Or.inl h
  | [y], h => Or.inl h
  | y :: z :: l, h => by
    unfold joinL at h
    by_cases q : y = a ∧ z = b
    · rw [if_pos q] at h
      rcases List.mem_cons.mp h with h | h
      · exact Or.inr ⟨h, by simp [q.1], by simp [q.2]⟩
      · rcases joinL_mem h with h | ⟨h, h1, h2⟩
        · exact Or.inl (List.mem_cons_of_mem _ (List.mem_cons_of_mem _ h))
        · exact Or.inr ⟨h, List.mem_cons_of_mem _ (List.mem_cons_of_mem _ h1), List.mem_cons_of_mem _ (List.mem_cons_of_mem _ h2)⟩
    · rw [if_neg q] at h
      rcases List.mem_cons.mp h with h | h
      · exact Or.inl (by rw [h]; exact List.mem_cons_self)
      · rcases joinL_mem h with h | ⟨h, h1, h2⟩
        · exact Or.inl (List.mem_cons_of_mem _ h)
        · exact Or.inr ⟨h, List.mem_cons_of_mem _ h1, List.mem_cons_of_mem _ h2⟩
theorem ll_joinL {L : Nat → Int} {a b s : Int} (h : sl L s = sl L a + sl L b) : ∀ l : List Int, ll L (joinL a b s l) = ll L l
  | [] => rfl
  | [y] => rfl
  | y :: z :: l => by
    unfold joinL
    by_cases q : y = a ∧ z = b
    · rw [if_pos q, ll_cons, ll_joinL h l, ll_cons, ll_cons, q.1, q.2, h]; omega
    · rw [if_neg q, ll_cons, ll_joinL h (z :: l)]
      exact ll_cons.symm
theorem jcnt_half (a b : Int) : ∀ l : List Int, 2 * jcnt a b l ≤ l.length
  | [] => Nat.le_refl _
  | [y] => by simp [jcnt]
  | y :: z :: l => by
    unfold jcnt
    by_cases q : y = a ∧ z = b
    · have := jcnt_half a b l
      rw [if_pos q]; simp only [List.length_cons]; omega
    · have := jcnt_half a b (z :: l)
      rw [if_neg q]; simp only [List.length_cons] at *; omega
theorem jcnt_mem {a b : Int} : ∀ {l : List Int}, jcnt a b l ≠ 0 → a ∈ l ∧ b ∈ l ∧ ∀ L : Nat → Int, (∀ x ∈ l, 0 ≤ sl L x) → sl L a + sl L b ≤ ll L l
  | [], h => absurd rfl h
  | [y], h => absurd rfl h
  | y :: z :: l, h => by
    unfold jcnt at h
    have nn : ∀ {L : Nat → Int} {l : List Int}, (∀ x ∈ l, 0 ≤ sl L x) → 0 ≤ ll L l := by
      intro L l
      induction l with
      | nil => intro _; exact Int.le_refl _
      | cons x l ih =>
        intro hx
        rw [ll_cons]
        have h1 := hx x List.mem_cons_self
        have h2 := ih (fun y hy => hx y (List.mem_cons_of_mem _ hy))
        omega
    by_cases q : y = a ∧ z = b
    · refine ⟨by simp [q.1], by simp [q.2], fun L hL => ?_⟩
      have := nn (l := l) (L := L) (fun x hx => hL x (List.mem_cons_of_mem _ (List.mem_cons_of_mem _ hx)))
      rw [ll_cons, ll_cons, q.1, q.2]
      omega
    · rw [if_neg q] at h
      obtain ⟨h1, h2, h3⟩ := jcnt_mem h
      refine ⟨List.mem_cons_of_mem _ h1, List.mem_cons_of_mem _ h2, fun L hL => ?_⟩
      have g1 := h3 L (fun x hx => hL x (List.mem_cons_of_mem _ hx))
      have g2 := hL y List.mem_cons_self
      rw [ll_cons]
      omega
theorem joinL_len2 {a b s : Int} {l : List Int} (h : 2 ≤ l.length) (hn : l ≠ [a, b]) : 2 ≤ (joinL a b s l).length := by
  have h1 := joinL_len (a := a) (b := b) (s := s) l
  have h2 := jcnt_half a b l
  by_cases q : l.length = 2
  · match l, q with
    | [x, y], _ =>
      have : ¬ (x = a ∧ y = b) := fun e => hn (by rw [e.1, e.2])
      simp [joinL, this]
  · omega
theorem joinL_ne {a b s : Int} {l : List Int} (h : l ≠ []) : joinL a b s l ≠ [] := by
  have h1 := joinL_len (a := a) (b := b) (s := s) l
  have h2 := jcnt_half a b l
  have h3 := List.length_pos_iff.mpr h
  intro e
  have h4 : (joinL a b s l).length = 0 := by rw [e]; rfl
  omega
theorem openL_ne {s : Int} {b l : List Int} (hb : b ≠ []) (h : l ≠ []) : openL s b l ≠ [] := by
  have h1 := openL_ge (s := s) (b := b) (List.length_pos_iff.mpr hb) l
  have h3 := List.length_pos_iff.mpr h
  intro e
  have h4 : (openL s b l).length = 0 := by rw [e]; rfl
  omega
theorem WF.dis {g : GS} (w : WF g) {r : Nat} (hr : r < 40) (hn : gR g (r + 1) ≠ []) (c : Nat) : WF (gDis g r c) := by
  have hni := w.not_in hr hn
  have hsl : sl (gL g) (26 + (r : Int)) = ll (gL g) (gR g (r + 1)) := by rw [WF.sl_rule]; exact (w.2.1 r hr hn).2.1
  have hns : ∀ i : Nat, i < 41 → ∀ x ∈ openL (26 + (r : Int)) (gR g (r + 1)) (gR g i), x ≠ 26 + (r : Int) ∧ SYr (gR g) x := by
    intro i hi x hx
    rcases openL_mem hx with q | q
    · refine ⟨fun e => ?_, w.1 (r + 1) (by omega) x q.1⟩
      rw [e] at q
      exact List.count_eq_zero.mp hni q.1
    · exact ⟨q.2, w.1 i hi x q.1⟩
  have hll : ∀ i : Nat, i < 41 → ll (up (gL g) r 0) (openL (26 + (r : Int)) (gR g (r + 1)) (gR g i)) = ll (gL g) (gR g i) := fun i hi => by
    rw [ll_congr (L := gL g) (fun x hx => sl_up (hns i hi x hx).1 (hns i hi x hx).2.1), ll_openL hsl]
  have e1 : ∀ i : Nat, gR (gDis g r c) i = if i = r + 1 then [] else openL (26 + (r : Int)) (gR g (r + 1)) (gR g i) := fun _ => rfl
  refine ⟨fun i hi x hx => ?_, fun r' hr' hn' => ?_, ?_, w.2.2.2.1, w.2.2.2.2.1, w.2.2.2.2.2⟩
  · rw [e1] at hx
    by_cases q : i = r + 1
    · rw [if_pos q] at hx; exact absurd hx List.not_mem_nil
    · rw [if_neg q] at hx
      obtain ⟨hx1, hx2, hx3, hx4⟩ := hns i hi x hx
      refine ⟨hx2, hx3, fun h26 => ?_⟩
      rw [e1, if_neg (by omega)]
      exact openL_ne hn (hx4 h26)
  · rw [e1] at hn' ⊢
    by_cases q : r' + 1 = r + 1
    · rw [if_pos q] at hn'; exact absurd rfl hn'
    · rw [if_neg q] at hn' ⊢
      have hne : gR g (r' + 1) ≠ [] := fun e => hn' (by rw [e]; rfl)
      obtain ⟨h2, h3, h4, h5⟩ := w.2.1 r' hr' hne
      have hge := openL_ge (s := 26 + (r : Int)) (b := gR g (r + 1)) (List.length_pos_iff.mpr hn) (gR g (r' + 1))
      have hL : gL (gDis g r c) r' = gL g r' := up_ne (by omega)
      rw [hL]
      exact ⟨by omega, by rw [h3]; exact (hll (r' + 1) (by omega)).symm, h4, h5⟩
  · rw [e1, if_neg (by omega)]
    show ll (up (gL g) r 0) _ = _
    rw [hll 0 (by omega)]
    exact w.2.2.1
theorem WF.joinK {g : GS} (w : WF g) {a b : Int} {r : Nat} (hr : r < 40) (hk : gR g (r + 1) = [a, b]) : WF (gJoinK g a b r) := by
  have hne : gR g (r + 1) ≠ [] := by rw [hk]; simp
  have hs : sl (gL g) (26 + (r : Int)) = sl (gL g) a + sl (gL g) b := by
    rw [WF.sl_rule, (w.2.1 r hr hne).2.1, hk, ll_cons, ll_cons, ll_nil, Int.add_zero]
  have hll : ∀ i : Nat, ll (gL g) (gJR g a b (26 + (r : Int)) i) = ll (gL g) (gR g i) := fun i => by
    unfold gJR
    split
    · rfl
    · exact ll_joinL hs _
  have hnn : ∀ i : Nat, gR g i ≠ [] → gJR g a b (26 + (r : Int)) i ≠ [] := fun i h => by
    unfold gJR
    split
    · exact h
    · exact joinL_ne h
  refine ⟨fun i hi x hx => ?_, fun r' hr' hn' => ?_, ?_, w.2.2.2.1, w.2.2.2.2.1, w.2.2.2.2.2⟩
  · have hx : x ∈ gJR g a b (26 + (r : Int)) i := hx
    have key : SYr (gR g) x := by
      unfold gJR at hx
      split at hx
      · exact w.1 i hi x hx
      · rcases joinL_mem hx with q | q
        · exact w.1 i hi x q
        · rw [q.1]; exact ⟨by omega, by omega, fun _ => by rw [show ((26 + (r : Int)) - 26).toNat = r by omega]; exact hne⟩
    exact ⟨key.1, key.2.1, fun h => hnn _ (key.2.2 h)⟩
  · have hn' : gJR g a b (26 + (r : Int)) (r' + 1) ≠ [] := hn'
    have hne' : gR g (r' + 1) ≠ [] := by
      intro e
      apply hn'
      unfold gJR
      rw [e]
      split <;> rfl
    obtain ⟨h2, h3, h4, h5⟩ := w.2.1 r' hr' hne'
    refine ⟨?_, ?_, h4, h5⟩
    · show 2 ≤ (gJR g a b (26 + (r : Int)) (r' + 1)).length
      unfold gJR
      by_cases q : r' + 1 ≠ 0 ∧ gR g (r' + 1) = [a, b]
      · rw [if_pos q]; exact h2
      · rw [if_neg q]; exact joinL_len2 h2 (fun e => q ⟨by omega, e⟩)
    · show gL g r' = ll (gL g) (gJR g a b (26 + (r : Int)) (r' + 1))
      rw [hll]; exact h3
  · show ll (gL g) (gJR g a b (26 + (r : Int)) 0) = _
    rw [hll]; exact w.2.2.1
theorem WF.joinN {g : GS} (w : WF g) {a b : Int} {r : Nat} (hr : r < 40) (hf : gR g (r + 1) = []) (ha : SYr (gR g) a) (hb : SYr (gR g) b) (hlen : sl (gL g) a + sl (gL g) b ≤ 400) (hk : ∀ r' : Nat, r' < 40 → gR g (r' + 1) ≠ [a, b]) : WF (gJoinN g a b r) := by
  have hne : ∀ x : Int, SYr (gR g) x → x ≠ 26 + (r : Int) := by
    rintro x ⟨h0, h1, h2⟩ e
    apply h2 (by omega)
    rw [show (x - 26).toNat = r by omega]
    exact hf
  have hsl : ∀ x : Int, SYr (gR g) x → sl (up (gL g) r (sl (gL g) a + sl (gL g) b)) x = sl (gL g) x := fun x hx => sl_up (hne x hx) hx.1
  have hs : sl (up (gL g) r (sl (gL g) a + sl (gL g) b)) (26 + (r : Int)) = sl (up (gL g) r (sl (gL g) a + sl (gL g) b)) a + sl (up (gL g) r (sl (gL g) a + sl (gL g) b)) b := by
    rw [hsl a ha, hsl b hb]
    show (if (26 + (r : Int)) < 26 then 1 else up (gL g) r (sl (gL g) a + sl (gL g) b) (26 + (r : Int) - 26).toNat) = _
    rw [if_neg (by omega), show (26 + (r : Int) - 26).toNat = r by omega, up_self]
  have hll : ∀ i : Nat, i < 41 → ll (up (gL g) r (sl (gL g) a + sl (gL g) b)) (gJR g a b (26 + (r : Int)) i) = ll (gL g) (gR g i) := fun i hi => by
    have h1 : ll (up (gL g) r (sl (gL g) a + sl (gL g) b)) (gJR g a b (26 + (r : Int)) i) = ll (up (gL g) r (sl (gL g) a + sl (gL g) b)) (gR g i) := by
      unfold gJR
      split
      · rfl
      · exact ll_joinL hs _
    rw [h1]
    exact ll_congr (fun x hx => hsl x (w.1 i hi x hx))
  have eR : ∀ i : Nat, gR (gJoinN g a b r) i = up (gJR g a b (26 + (r : Int))) (r + 1) [a, b] i := fun _ => rfl
  have hnn : ∀ i : Nat, gR g i ≠ [] → gR (gJoinN g a b r) i ≠ [] := fun i h => by
    rw [eR]
    by_cases q : i = r + 1
    · subst q; rw [up_self]; simp
    · rw [up_ne q]
      unfold gJR
      split
      · exact h
      · exact joinL_ne h
  have ab1 := w.sl1 ha
  have ab2 := w.sl1 hb
  refine ⟨fun i hi x hx => ?_, fun r' hr' hn' => ?_, ?_, w.2.2.2.1, w.2.2.2.2.1, w.2.2.2.2.2⟩
  · rw [eR] at hx
    have key : SYr (gR g) x ∨ x = 26 + (r : Int) := by
      by_cases q : i = r + 1
      · subst q
        rw [up_self] at hx
        simp at hx
        rcases hx with rfl | rfl
        · exact Or.inl ha
        · exact Or.inl hb
      · rw [up_ne q] at hx
        unfold gJR at hx
        split at hx
        · exact Or.inl (w.1 i hi x hx)
        · rcases joinL_mem hx with q | q
          · exact Or.inl (w.1 i hi x q)
          · exact Or.inr q.1
    rcases key with key | rfl
    · exact ⟨key.1, key.2.1, fun h => hnn _ (key.2.2 h)⟩
    · refine ⟨by omega, by omega, fun _ => ?_⟩
      rw [eR, show ((26 + (r : Int)) - 26).toNat = r by omega, up_self]
      simp
  · rw [eR] at hn'
    by_cases q : r' = r
    · subst q
      refine ⟨?_, ?_, ?_, ?_⟩
      · rw [eR, up_self]; exact Nat.le_refl _
      · rw [eR, up_self]
        show up (gL g) r' _ r' = ll (up (gL g) r' (sl (gL g) a + sl (gL g) b)) [a, b]
        rw [up_self, ll_cons, ll_cons, ll_nil, hsl a ha, hsl b hb, Int.add_zero]
      · show up (gL g) r' (sl (gL g) a + sl (gL g) b) r' ≤ 400
        rw [up_self]; exact hlen
      · show 1 ≤ up (gL g) r' (sl (gL g) a + sl (gL g) b) r'
        rw [up_self]; omega
    · rw [up_ne (by omega)] at hn'
      have hne' : gR g (r' + 1) ≠ [] := by
        intro e
        apply hn'
        unfold gJR
        rw [e]
        split <;> rfl
      obtain ⟨h2, h3, h4, h5⟩ := w.2.1 r' hr' hne'
      have hL : gL (gJoinN g a b r) r' = gL g r' := up_ne q
      rw [hL]
      refine ⟨?_, ?_, h4, h5⟩
      · rw [eR, up_ne (by omega)]
        unfold gJR
        rw [if_neg (fun e => hk r' hr' e.2)]
        exact joinL_len2 h2 (hk r' hr')
      · rw [eR, up_ne (by omega)]
        show gL g r' = ll (up (gL g) r (sl (gL g) a + sl (gL g) b)) (gJR g a b (26 + (r : Int)) (r' + 1))
        rw [hll (r' + 1) (by omega)]
        exact h3
  · rw [eR, up_ne (by omega)]
    show ll (up (gL g) r (sl (gL g) a + sl (gL g) b)) (gJR g a b (26 + (r : Int)) 0) = _
    rw [hll 0 (by omega)]
    exact w.2.2.1
theorem gKept_none {g : GS} {a b : Int} (h : gKept g a b = -1) : ∀ r : Nat, r < 40 → gR g (r + 1) ≠ [a, b] := fun r hr e => by
  have := fF_none h r (Nat.zero_le r) (by omega)
  simp [e] at this
/-- a join that finds the pair somewhere -/
theorem WF.join {g : GS} (w : WF g) {a b : Int} (h : gPlaces g a b ≠ 0) : WF (gJoin g a b) := by
  unfold gJoin
  rcases gRule_rng g a b with hr | ⟨r, hr, hk⟩
  · rw [if_pos hr]; exact w
  · rw [hk, if_neg (by omega), Int.toNat_natCast]
    by_cases q : gKept g a b = -1
    · rw [if_pos q]
      have hf : gFree g = (r : Int) := by rw [← hk]; unfold gRule; rw [if_pos q]
      have hex : ∃ i : Nat, i < 41 ∧ gPl g a b i ≠ 0 := by
        apply Classical.byContradiction
        intro hno
        apply h
        have : ∀ n : Nat, n ≤ 41 → sT (gPl g a b) n = 0 := by
          intro n
          induction n with
          | zero => intro _; rfl
          | succ n ih =>
            intro hn
            show sT (gPl g a b) n + gPl g a b n = 0
            rw [ih (by omega), Classical.byContradiction (fun z => hno ⟨n, by omega, z⟩ : ¬ ¬ gPl g a b n = 0)]
            rfl
        exact this 41 (Nat.le_refl _)
      obtain ⟨i, hi, hp⟩ := hex
      unfold gPl at hp
      by_cases e : i ≠ 0 ∧ gR g i = [a, b]
      · rw [if_pos e] at hp; exact absurd rfl hp
      · rw [if_neg e] at hp
        obtain ⟨m1, m2, m3⟩ := jcnt_mem (a := a) (b := b) (l := gR g i) (by omega)
        have m3 := m3 (gL g) (fun x hx => by have := (w.sl1' hi hx).1; omega)
        have := (w.lle hi).2
        exact w.joinN hr (gFree_spec hf).2 (w.1 i hi a m1) (w.1 i hi b m2) (by omega) (gKept_none q)
    · rw [if_neg q]
      have hf : gKept g a b = (r : Int) := by rw [← hk]; unfold gRule; rw [if_neg q]
      exact w.joinK hr (gKept_spec hf).2
theorem sT_up {f h : Nat → Int} {r : Nat} : ∀ {n : Nat}, r < n → (∀ j : Nat, j < n → j ≠ r → h j = f j) → sT h n = sT f n + (h r - f r)
  | 0, hr, _ => by omega
  | n + 1, hr, hj => by
    show sT h n + h n = sT f n + f n + (h r - f r)
    by_cases e : r = n
    · subst e
      rw [sT_congr (fun k hk => hj k (by omega) (by omega))]
      omega
    · rw [sT_up (n := n) (by omega) (fun j h1 h2 => hj j (by omega) h2), hj n (by omega) (fun q => e q.symm)]
      omega
theorem sT_add {f h : Nat → Int} : ∀ {n : Nat}, sT (fun j => f j + h j) n = sT f n + sT h n
  | 0 => rfl
  | n + 1 => by
    show sT (fun j => f j + h j) n + (f n + h n) = sT f n + f n + (sT h n + h n)
    rw [sT_add]
    omega
theorem sT_mul {f : Nat → Int} {c : Int} : ∀ {n : Nat}, sT (fun j => f j * c) n = sT f n * c
  | 0 => by simp [sT]
  | n + 1 => by
    show sT (fun j => f j * c) n + f n * c = (sT f n + f n) * c
    rw [sT_mul, Int.add_mul]
theorem sT_le {f h : Nat → Int} : ∀ {n : Nat}, (∀ j : Nat, j < n → f j ≤ h j) → sT f n ≤ sT h n
  | 0, _ => Int.le_refl _
  | n + 1, k => by
    have h1 := sT_le (n := n) (fun j hj => k j (by omega))
    have h2 := k n (by omega)
    show sT f n + f n ≤ sT h n + h n
    omega
/-- sizes -/
theorem size_dis {g : GS} (w : WF g) {r : Nat} (hr : r < 40) (hn : gR g (r + 1) ≠ []) (c : Nat) : gSize (gDis g r c) = gSize g - (gR g (r + 1)).length + gUses g r * (((gR g (r + 1)).length : Int) - 1) ∧ nRules (gDis g r c) = nRules g - 1 := by
  have hni := w.not_in hr hn
  constructor
  · have h1 : sT (fun i => ((openL (26 + (r : Int)) (gR g (r + 1)) (gR g i)).length : Int)) 41 = gSize g + gUses g r * (((gR g (r + 1)).length : Int) - 1) := by
      rw [sT_congr (fun k _ => openL_len (s := 26 + (r : Int)) (b := gR g (r + 1)) (gR g k)), sT_add, sT_mul]
      rfl
    unfold gSize
    rw [sT_up (f := fun i => ((openL (26 + (r : Int)) (gR g (r + 1)) (gR g i)).length : Int)) (r := r + 1) (by omega) (fun j _ hj => by
      show ((if j = r + 1 then [] else openL (26 + (r : Int)) (gR g (r + 1)) (gR g j)).length : Int) = _
      rw [if_neg hj]), h1]
    have e1 : gR (gDis g r c) (r + 1) = [] := if_pos rfl
    rw [e1, openL_none hni]
    unfold gSize
    simp
    omega
  · unfold nRules
    rw [sT_up (f := fun r => if gR g (r + 1) ≠ [] then 1 else 0) (r := r) hr (fun j _ hj => by
      show (if (if j + 1 = r + 1 then [] else openL (26 + (r : Int)) (gR g (r + 1)) (gR g (j + 1))) ≠ [] then 1 else 0) = _
      rw [if_neg (by omega : ¬ j + 1 = r + 1)]
      by_cases e : gR g (j + 1) = []
      · rw [e, openL_nil]
      · rw [if_pos (openL_ne hn e), if_pos e])]
    have e1 : gR (gDis g r c) (r + 1) = [] := if_pos rfl
    rw [e1, if_neg (by simp), if_pos hn]
    omega
theorem size_join {g : GS} {a b : Int} {r : Nat} (hr : r < 40) (hk : gRule g a b = (r : Int)) : gSize (gJoin g a b) = gSize g - gPlaces g a b + (if gKept g a b = -1 then 2 else 0) ∧ nRules (gJoin g a b) = nRules g + (if gKept g a b = -1 then 1 else 0) := by
  have h1 : sT (fun i => ((gJR g a b (26 + (r : Int)) i).length : Int)) 41 = gSize g - gPlaces g a b := by
    have h2 : sT (fun i => ((gJR g a b (26 + (r : Int)) i).length : Int) + gPl g a b i) 41 = gSize g := by
      refine sT_congr (fun i _ => ?_)
      show ((gJR g a b (26 + (r : Int)) i).length : Int) + gPl g a b i = _
      unfold gJR gPl
      have := joinL_len (a := a) (b := b) (s := 26 + (r : Int)) (gR g i)
      split <;> omega
    rw [sT_add] at h2
    unfold gPlaces
    omega
  have hnn : ∀ i : Nat, (gJR g a b (26 + (r : Int)) i ≠ []) ↔ gR g i ≠ [] := fun i => by
    unfold gJR
    split
    · exact Iff.rfl
    · exact ⟨fun h e => h (by rw [e]; rfl), joinL_ne⟩
  have h3 : sT (fun i => if gJR g a b (26 + (r : Int)) (i + 1) ≠ [] then 1 else 0) 40 = nRules g := by
    refine sT_congr (fun i _ => ?_)
    show (if gJR g a b (26 + (r : Int)) (i + 1) ≠ [] then 1 else 0) = if gR g (i + 1) ≠ [] then 1 else 0
    by_cases e : gR g (i + 1) ≠ []
    · rw [if_pos e, if_pos ((hnn _).mpr e)]
    · rw [if_neg e, if_neg (fun z => e ((hnn _).mp z))]
  unfold gJoin
  rw [hk, if_neg (by omega), Int.toNat_natCast]
  by_cases q : gKept g a b = -1
  · have hf : gFree g = (r : Int) := by rw [← hk]; unfold gRule; rw [if_pos q]
    have hf := (gFree_spec hf).2
    have hz : gJR g a b (26 + (r : Int)) (r + 1) = [] := by
      unfold gJR; rw [hf, if_neg (by simp)]; rfl
    rw [if_pos q, if_pos q, if_pos q]
    constructor
    · unfold gSize
      rw [sT_up (f := fun i => ((gJR g a b (26 + (r : Int)) i).length : Int)) (r := r + 1) (by omega) (fun j _ hj => by
        show ((up (gJR g a b (26 + (r : Int))) (r + 1) [a, b] j).length : Int) = _
        rw [up_ne hj]), h1, hz]
      have e1 : gR (gJoinN g a b r) (r + 1) = [a, b] := up_self _ _ _
      rw [e1]
      unfold gSize
      simp
    · unfold nRules
      rw [sT_up (f := fun i => if gJR g a b (26 + (r : Int)) (i + 1) ≠ [] then 1 else 0) (r := r) hr (fun j _ hj => by
        show (if up (gJR g a b (26 + (r : Int))) (r + 1) [a, b] (j + 1) ≠ [] then 1 else 0) = _
        rw [up_ne (by omega)]), h3, hz]
      have e1 : gR (gJoinN g a b r) (r + 1) = [a, b] := up_self _ _ _
      rw [e1]
      unfold nRules
      simp
  · rw [if_neg q, if_neg q, if_neg q]
    constructor
    · rw [Int.add_zero]; exact h1
    · rw [Int.add_zero]; exact h3
