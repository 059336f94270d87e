/-! ===== rules are inlined: the class ===== -/
def gLonely (g : GS) : Int := fF (fun r => decide (gR g (r + 1) ≠ [] ∧ gUses g r < 2)) 40 0
def inlG : Nat → GS → Nat × GS
  | 0, g => (0, g)
  | n + 1, g => if gLonely g = -1 then (0, g) else ((inlG n (gDis g (gLonely g).toNat (if 0 < gUses g (gLonely g).toNat then 2 else 3))).1 + 1, (inlG n (gDis g (gLonely g).toNat (if 0 < gUses g (gLonely g).toNat then 2 else 3))).2)
theorem gLonely_spec {g : GS} (h : gLonely g ≠ -1) : (gLonely g).toNat < 40 ∧ gLonely g = ((gLonely g).toNat : Int) ∧ gR g ((gLonely g).toNat + 1) ≠ [] ∧ gUses g (gLonely g).toNat < 2 := by
  obtain ⟨j, h1, h2, h3, h4, -⟩ := fF_some h
  have h1 : gLonely g = (j : Int) := h1
  have h4 := of_decide_eq_true h4
  rw [h1, Int.toNat_natCast]
  exact ⟨by omega, rfl, h4.1, h4.2⟩
theorem inlG_none {n : Nat} {g : GS} (h : gLonely g = -1) : inlG n g = (0, g) := by
  cases n with
  | zero => rfl
  | succ n => rw [inlG, if_pos h]
theorem inlG_some {n : Nat} {g : GS} (h : gLonely g ≠ -1) : inlG (n + 1) g = ((inlG n (gDis g (gLonely g).toNat (if 0 < gUses g (gLonely g).toNat then 2 else 3))).1 + 1, (inlG n (gDis g (gLonely g).toNat (if 0 < gUses g (gLonely g).toNat then 2 else 3))).2) := by
  rw [inlG, if_neg h]
theorem nRules_rng (g : GS) : 0 ≤ nRules g ∧ nRules g ≤ 40 := by
  have := sT_rng (f := fun r => if gR g (r + 1) ≠ [] then 1 else 0) (c := 1) (n := 40) (fun k _ => by split <;> omega)
  exact ⟨this.1, by have := this.2; unfold nRules; omega⟩
theorem nRules_pos {g : GS} {r : Nat} (hr : r < 40) (h : gR g (r + 1) ≠ []) : 1 ≤ nRules g := by
  have h1 := sT_up (f := fun r' => if r' = r then 0 else if gR g (r' + 1) ≠ [] then (1 : Int) else 0) (h := fun r => if gR g (r + 1) ≠ [] then (1 : Int) else 0) (r := r) hr (fun j _ hj => by rw [if_neg hj])
  have h2 := sT_rng (f := fun r' => if r' = r then 0 else if gR g (r' + 1) ≠ [] then (1 : Int) else 0) (c := 1) (n := 40) (fun k _ => by
    by_cases z1 : k = r
    · rw [if_pos z1]; omega
    · rw [if_neg z1]; split <;> omega)
  rw [if_pos rfl, if_pos h] at h1
  unfold nRules
  omega
/-- what is left behind has no lonely rule -/
theorem inlG_end : ∀ {n : Nat} {g : GS}, WF g → nRules g ≤ n → gLonely (inlG n g).2 = -1 ∧ WF (inlG n g).2
  | 0, g, w, h => by
    refine ⟨Classical.byContradiction fun q => ?_, w⟩
    obtain ⟨h1, -, h3, -⟩ := gLonely_spec (g := g) q
    have := nRules_pos h1 h3
    omega
  | n + 1, g, w, h => by
    by_cases q : gLonely g = -1
    · rw [inlG_none q]; exact ⟨q, w⟩
    · obtain ⟨h1, -, h3, -⟩ := gLonely_spec q
      rw [inlG_some q]
      exact inlG_end (w.dis h1 h3 _) (by rw [(size_dis w h1 h3 _).2]; omega)
theorem count_openL {s y : Int} {b : List Int} (hy : y ≠ s) : ∀ l : List Int, ((openL s b l).count y : Int) = l.count y + l.count s * (b.count y : Int) := by
  intro l
  induction l with
  | nil => simp [openL_nil]
  | cons x l ih =>
    rw [openL_cons, List.count_append, Int.natCast_add, ih, List.count_cons, List.count_cons]
    by_cases e : x = s
    · rw [if_pos e, if_neg (by simpa [e] using fun z => hy z.symm), if_pos (by simpa using e), Int.natCast_add, Int.natCast_add, Int.add_mul]
      simp
      omega
    · rw [if_neg e, List.count_singleton]
      simp [e]
      omega
theorem uses_dis {g : GS} (w : WF g) {r r' : Nat} (hr : r < 40) (hn : gR g (r + 1) ≠ []) (hne : r' ≠ r) (c : Nat) : gUses (gDis g r c) r' = gUses g r' + (gUses g r - 1) * ((gR g (r + 1)).count (26 + (r' : Int)) : Int) := by
  have hni := w.not_in hr hn
  have h1 : sT (fun i => ((openL (26 + (r : Int)) (gR g (r + 1)) (gR g i)).count (26 + (r' : Int)) : Int)) 41 = gUses g r' + gUses g r * ((gR g (r + 1)).count (26 + (r' : Int)) : Int) := by
    rw [sT_congr (fun k _ => count_openL (s := 26 + (r : Int)) (y := 26 + (r' : Int)) (b := gR g (r + 1)) (by omega) (gR g k)), sT_add, sT_mul]
    rfl
  unfold gUses
  rw [sT_up (f := fun i => ((openL (26 + (r : Int)) (gR g (r + 1)) (gR g i)).count (26 + (r' : Int)) : Int)) (r := r + 1) (by omega) (fun j _ hj => by
    show ((if j = r + 1 then [] else openL (26 + (r : Int)) (gR g (r + 1)) (gR g j)).count (26 + (r' : Int)) : Int) = _
    rw [if_neg hj]), h1]
  have e1 : gR (gDis g r c) (r + 1) = [] := if_pos rfl
  rw [e1, openL_none hni, Int.sub_mul]
  unfold gUses
  simp
  omega
abbrev FU : FP := fun k _ _ => k = 17
section INL
variable {I : Mem} {t : Nat} {g : GS}
theorem t_noteUses {r : Nat} {l : List Int} (h : RW I r l) (hs : SY l) (v : Int) : Tr (f_Stp_noteUses r v I) (fun _ J => (∀ j : Nat, j < 40 → J 17 0 j = I 17 0 j + v * (l.count (26 + (j : Int)) : Int)) ∧ Fm FU I J) := by
  have hl := h.len
  unfold f_Stp_noteUses
  rw [if_pos h.1]
  refine tr_call (P := fun _ J => (∀ j : Nat, j < 40 → J 17 0 j = I 17 0 j + v * (l.count (26 + (j : Int)) : Int)) ∧ Fm FU I J) (tr_cnt (fun k => (k : Int)) (fun k J => (∀ j : Nat, j < 40 → J 17 0 j = I 17 0 j + v * ((l.take k).count (26 + (j : Int)) : Int)) ∧ Fm FU I J) l.length rfl ⟨fun j _ => by simp, Fm.refl _ _⟩ ?_ ?_) (fun _ _ q => tr_ret q)
  · rintro k J hk ⟨h1, h2⟩
    have hJ := h.fm h2 (fun a b ha q => by have q : a = 17 := q; omega)
    have q := hs.at hk
    unfold f_Stp_noteUses_w2
    rw [w32_of (x := (k : Int)) (by omega) (by omega), hJ.2.1, w32_of (x := (l.length : Int)) (by omega) (by omega), if_pos (by omega), row_at hJ (by omega), bnd_some, w32_of (x := l.getD k (-1) - 26) (by omega) (by omega)]
    have hc : ∀ j : Nat, j < 40 → ((l.take (k + 1)).count (26 + (j : Int)) : Int) = (l.take k).count (26 + (j : Int)) + (if l.getD k (-1) = 26 + (j : Int) then 1 else 0) := fun j _ => by
      rw [take_at (d := -1) hk, List.count_append, List.count_singleton]
      by_cases e : l.getD k (-1) = 26 + (j : Int)
      · rw [if_pos (by simpa using e), if_pos e]; simp
      · rw [if_neg (by simpa using e), if_neg e]; simp
    by_cases c1 : l.getD k (-1) < 26
    · rw [if_pos (by omega)]
      refine tr_ret ⟨rfl, fun j hj => ?_, h2⟩
      rw [hc j hj, if_neg (by omega), Int.add_zero]; exact h1 j hj
    · rw [if_neg (by omega), if_pos (by omega), if_pos (by omega)]
      refine tr_ret ⟨rfl, fun j hj => ?_, h2.trans (Fm.sI (by decide) (by omega) (by omega) rfl)⟩
      rw [hc j hj]
      by_cases e : l.getD k (-1) = 26 + (j : Int)
      · have e2 : (l.getD k (-1) - 26).toNat = j := by omega
        rw [e2, sI_self, if_pos e, h1 j hj, Int.mul_add]
        omega
      · rw [if_neg e, sI_ne (by omega), Int.add_zero]; exact h1 j hj
  · rintro J ⟨h1, h2⟩
    have hJ := h.fm h2 (fun a b ha q => by have q : a = 17 := q; omega)
    unfold f_Stp_noteUses_w2
    rw [w32_of (x := (l.length : Int)) (by omega) (by omega), hJ.2.1, w32_of (x := (l.length : Int)) (by omega) (by omega), if_neg (by omega)]
    rw [List.take_length] at h1
    exact tr_ret ⟨h1, h2⟩
theorem GC.fu (h : GC I t g) {J : Mem} (f : Fm FU I J) : GC J t g := h.fm f (fun k i s hk q => by
  have q : k = 17 := q
  rcases hk with hk | hk
  · rcases hk.1 with e | e <;> omega
  · rcases hk.1 with e | e | e <;> omega)
theorem t_countUses (h : GC I t g) (w : ∀ i : Nat, i < 41 → SY (gR g i)) : Tr (f_Stp_countUses t I) (fun _ J => (∀ j : Nat, j < 40 → J 17 0 j = gUses g j) ∧ Fm FU I J) := by
  unfold f_Stp_countUses
  rw [if_pos h.1]
  refine tr_call (P := fun _ J => (∀ j : Nat, j < 40 → J 17 0 j = 0) ∧ Fm FU I J) (tr_cnt (fun k => (k : Int)) (fun k J => (∀ j : Nat, j < k → J 17 0 j = 0) ∧ Fm FU I J) 40 rfl ⟨fun j hj => absurd hj (Nat.not_lt_zero j), Fm.refl _ _⟩ ?_ ?_) ?_
  · rintro k J hk ⟨h1, h2⟩
    unfold f_Stp_countUses_w2
    rw [w32_of (by omega) (by omega), if_pos (by omega), if_pos (by omega), Int.toNat_natCast]
    refine tr_ret ⟨rfl, fun j hj => ?_, h2.trans (Fm.sI (by decide) (by omega) (by omega) rfl)⟩
    by_cases e : j = k
    · subst e; exact sI_self ..
    · rw [sI_ne (by omega)]; exact h1 j (by omega)
  · rintro J ⟨h1, h2⟩
    unfold f_Stp_countUses_w2
    rw [if_neg (by decide)]
    exact tr_ret ⟨h1, h2⟩
  rintro _ J1 ⟨h1, f1⟩
  have hJ := h.fu f1
  rw [← rix_0]
  refine tr_call (t_noteUses (hJ.2.1 0 (by omega)) (w 0 (by omega)) 1) ?_
  rintro _ J2 ⟨h2, f2⟩
  have F2 := f1.trans f2
  refine tr_call (P := fun _ J => (∀ j : Nat, j < 40 → J 17 0 j = gUses g j) ∧ Fm FU I J) (tr_cnt (fun k => (k : Int)) (fun k J => (∀ j : Nat, j < 40 → J 17 0 j = sT (fun i => ((gR g i).count (26 + (j : Int)) : Int)) (k + 1)) ∧ Fm FU I J) 40 rfl ⟨fun j hj => ?_, F2⟩ ?_ ?_) (fun _ _ q => tr_ret q)
  · rw [h2 j hj, h1 j hj]
    show 0 + 1 * _ = 0 + _
    rw [Int.one_mul]
  · rintro k J hk ⟨g1, g2⟩
    have hJ := h.fu g2
    unfold f_Stp_countUses_w32
    rw [w32_of (by omega) (by omega), if_pos (by omega), g_body h.1 hk, bnd_some, if_pos (rix_lt h.1 (by omega))]
    refine tr_call (t_noteUses (hJ.2.1 (k + 1) (by omega)) (w (k + 1) (by omega)) 1) ?_
    rintro _ K ⟨k1, k2⟩
    refine tr_ret ⟨rfl, fun j hj => ?_, g2.trans k2⟩
    rw [k1 j hj, g1 j hj, Int.one_mul]
    rfl
  · rintro J ⟨g1, g2⟩
    unfold f_Stp_countUses_w32
    rw [if_neg (by decide)]
    exact tr_ret ⟨g1, g2⟩
theorem gUses_rng (h : GC I t g) (r : Nat) : 0 ≤ gUses g r ∧ gUses g r ≤ 16400 := by
  have := sT_rng (f := fun i => ((gR g i).count (26 + (r : Int)) : Int)) (c := 400) (n := 41) (fun k hk => by
    have h1 := (h.2.1 k hk).len
    have h2 : (gR g k).count (26 + (r : Int)) ≤ (gR g k).length := List.count_le_length
    omega)
  unfold gUses
  omega
theorem g_lonely (h : GC I t g) (hu : ∀ r : Nat, r < 40 → gR g (r + 1) ≠ [] → I 17 0 r = gUses g r) : f_Stp_lowestHardlyUsed t I = some (gLonely g, I) := by
  unfold f_Stp_lowestHardlyUsed
  rw [if_pos h.1]
  refine whl_find _ 40 (fun k hk => ?_) ?_
  · unfold f_Stp_lowestHardlyUsed_w2
    rw [w32_of (x := (k : Int)) (by omega) (by omega), if_pos (by omega), if_pos (by omega), Int.toNat_natCast, g_hasRule h hk, bnd_some]
    by_cases e : gR g (k + 1) = []
    · rw [if_pos (wb_neg (fun z => z e)), ite_self]
      simp [e]
    · have hr := gUses_rng h k
      rw [if_neg (wb_pos e), hu k hk e, w32_of (x := gUses g k) (by omega) (by omega)]
      by_cases q : gUses g k < 2
      · rw [if_pos q, if_pos (by simp [e, q])]
      · rw [if_neg q, if_neg (by simp [q])]
  · unfold f_Stp_lowestHardlyUsed_w2
    rw [if_neg (by decide)]
abbrev FGU (t : Nat) : FP := fun k i s => FG t k i s ∨ k = 17
theorem t_inlineAll (h : GC I t g) (w : WF g) : Tr (f_Stp_inlineAll t I) (fun x J => x = ((inlG 40 g).1 : Int) ∧ GC J t (inlG 40 g).2 ∧ WF (inlG 40 g).2 ∧ Fm (FGU t) I J) := by
  have ht := h.1
  unfold f_Stp_inlineAll
  rw [if_pos ht]
  refine tr_call (t_countUses h (fun i hi => w.sy hi)) ?_
  rintro _ J1 ⟨h1, f1⟩
  refine tr_whl (fun n s J => ∃ (k : Nat) (g' : GS), n = 40 - k ∧ k ≤ 40 ∧ s = (k : Int) ∧ GC J t g' ∧ WF g' ∧ (∀ r : Nat, r < 40 → gR g' (r + 1) ≠ [] → J 17 0 r = gUses g' r) ∧ (inlG 40 g).1 = k + (inlG (40 - k) g').1 ∧ (inlG 40 g).2 = (inlG (40 - k) g').2 ∧ Fm (FGU t) I J) ?_ 40 _ _ ⟨0, g, rfl, by omega, rfl, h.fu f1, w, fun r hr _ => h1 r hr, by simp, rfl, f1.mono (fun a b c q => Or.inr q)⟩
  rintro n s J ⟨k, g', rfl, hk, rfl, hG, hW, hU, e1, e2, hF⟩
  unfold f_Stp_inlineAll_w7
  rw [w32_of (by omega) (by omega)]
  by_cases q : k < 40
  · rw [if_pos (by omega), g_lonely hG hU, bnd_some]
    have hlr : -1 ≤ gLonely g' ∧ gLonely g' < 40 := by
      rcases fF_rng (p := fun r => decide (gR g' (r + 1) ≠ [] ∧ gUses g' r < 2)) 40 0 with z | z
      · have z : -1 ≤ gLonely g' ∧ gLonely g' < (0 : Nat) + (40 : Nat) := z; omega
      · have z : gLonely g' = -1 := z; omega
    rw [w32_of (x := gLonely g') (by omega) (by omega)]
    by_cases ql : gLonely g' = -1
    · rw [if_pos ql]
      rw [inlG_none ql] at e1 e2
      have e2 : (inlG 40 g).2 = g' := e2
      refine tr_ret ?_
      show (k : Int) = _ ∧ GC J t (inlG 40 g).2 ∧ WF (inlG 40 g).2 ∧ _
      rw [e1, e2]
      exact ⟨by omega, hG, hW, hF⟩
    · obtain ⟨r1, r2, r3, r4⟩ := gLonely_spec ql
      have hur := gUses_rng hG (gLonely g').toNat
      rw [if_neg ql, if_pos (by omega), hU _ r1 r3, w32_of (x := gUses g' (gLonely g').toNat) (by omega) (by omega)]
      have e3 : inlG (40 - k) g' = ((inlG (40 - (k + 1)) (gDis g' (gLonely g').toNat (if 0 < gUses g' (gLonely g').toNat then 2 else 3))).1 + 1, (inlG (40 - (k + 1)) (gDis g' (gLonely g').toNat (if 0 < gUses g' (gLonely g').toNat then 2 else 3))).2) := by
        rw [show 40 - k = (40 - (k + 1)) + 1 by omega, inlG_some ql]
      rw [e3] at e1 e2
      have nz : ∀ (g1 : GS) (c : Nat) (j : Nat), gR (gDis g1 (gLonely g').toNat c) (j + 1) ≠ [] → j ≠ (gLonely g').toNat ∧ gR g1 (j + 1) ≠ [] := by
        intro g1 c j hj
        have hj : (if j + 1 = (gLonely g').toNat + 1 then [] else openL (26 + ((gLonely g').toNat : Int)) (gR g1 ((gLonely g').toNat + 1)) (gR g1 (j + 1))) ≠ [] := hj
        by_cases e : j = (gLonely g').toNat
        · rw [if_pos (by omega)] at hj; exact absurd rfl hj
        · rw [if_neg (by omega)] at hj
          exact ⟨e, fun z => hj (by rw [z]; rfl)⟩
      by_cases u1 : gUses g' (gLonely g').toNat = 1
      · rw [if_pos u1, r2]
        rw [if_pos (by omega)] at e1 e2
        refine tr_call (t_dissolve hG hW r1 r3 (c := 2) (by decide)) ?_
        rintro x K ⟨rfl, k1, k2⟩
        refine tr_ret ⟨40 - (k + 1), by omega, k + 1, _, rfl, by omega, rfl, k1, hW.dis r1 r3 2, fun j hj hn => ?_, by rw [e1]; omega, e2, hF.trans (k2.mono (fun a b c z => Or.inl z))⟩
        obtain ⟨m1, m2⟩ := nz g' 2 j hn
        rw [k2.at (by decide) (fun z => by
          rcases z with z | z
          · rcases z.1 with e | e <;> omega
          · rcases z.1 with e | e | e <;> omega), hU j hj m2, uses_dis hW r1 r3 m1 2, u1]
        omega
      · have u0 : gUses g' (gLonely g').toNat = 0 := by omega
        rw [if_neg u1, r2, g_body ht r1, bnd_some, if_pos (rix_lt ht (by omega))]
        rw [if_neg (by omega)] at e1 e2
        refine tr_call (t_noteUses (hG.2.1 _ (by omega)) (hW.sy (i := (gLonely g').toNat + 1) (by omega)) (-1)) ?_
        rintro _ K0 ⟨n1, n2⟩
        refine tr_call (t_dissolve (hG.fu n2) hW r1 r3 (c := 3) (by decide)) ?_
        rintro x K ⟨rfl, k1, k2⟩
        refine tr_ret ⟨40 - (k + 1), by omega, k + 1, _, rfl, by omega, rfl, k1, hW.dis r1 r3 3, fun j hj hn => ?_, by rw [e1]; omega, e2, (hF.trans (n2.mono (fun a b c z => Or.inr z))).trans (k2.mono (fun a b c z => Or.inl z))⟩
        obtain ⟨m1, m2⟩ := nz g' 3 j hn
        rw [k2.at (by decide) (fun z => by
          rcases z with z | z
          · rcases z.1 with e | e <;> omega
          · rcases z.1 with e | e | e <;> omega), n1 j hj, hU j hj m2, uses_dis hW r1 r3 m1 3, u0]
        omega
  · rw [if_neg (by omega)]
    have hk : k = 40 := by omega
    subst hk
    have e2 : (inlG 40 g).2 = g' := e2
    refine tr_ret ?_
    show (40 : Int) = _ ∧ GC J t (inlG 40 g).2 ∧ WF (inlG 40 g).2 ∧ _
    rw [e1, e2]
    exact ⟨rfl, hG, hW, hF⟩
end INL
