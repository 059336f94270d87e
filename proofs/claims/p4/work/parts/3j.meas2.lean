/-! ===== the class measures a grammar ===== -/
/-- the rules that are there, the short ones first -/
def ORD (g : GS) (n : Nat) (o : List Nat) : Prop := o.Pairwise (fun a b => gL g a ≤ gL g b) ∧ o.Nodup ∧ ∀ r : Nat, r ∈ o ↔ r < n ∧ gR g (r + 1) ≠ []
theorem ORD.ins {g : GS} {n : Nat} {o : List Nat} (h : ORD g n o) (hn : gR g (n + 1) ≠ []) {p : Nat} (hp : p ≤ o.length) (h1 : ∀ x ∈ o.take p, gL g x ≤ gL g n) (h2 : ∀ x ∈ o.drop p, gL g n ≤ gL g x) : ORD g (n + 1) (o.take p ++ n :: o.drop p) := by
  obtain ⟨a1, a2, a3⟩ := h
  have hno : n ∉ o := fun z => by have := ((a3 n).mp z).1; omega
  have e : o.take p ++ o.drop p = o := List.take_append_drop p o
  rw [← e, List.pairwise_append] at a1
  rw [← e, List.nodup_append] at a2
  refine ⟨?_, ?_, fun r => ?_⟩
  · rw [List.pairwise_append, List.pairwise_cons]
    refine ⟨a1.1, ⟨h2, a1.2.1⟩, fun x hx y hy => ?_⟩
    rcases List.mem_cons.mp hy with z | z
    · rw [z]; exact h1 x hx
    · exact a1.2.2 x hx y z
  · rw [List.nodup_append, List.nodup_cons]
    refine ⟨a2.1, ⟨fun z => hno (List.drop_subset _ _ z), a2.2.1⟩, fun x hx y hy => ?_⟩
    rcases List.mem_cons.mp hy with z | z
    · rw [z]; intro q; rw [q] at hx; exact hno (List.take_subset _ _ hx)
    · exact a2.2.2 x hx y z
  · rw [List.mem_append, List.mem_cons]
    have hm : r ∈ o ↔ r ∈ o.take p ∨ r ∈ o.drop p := by rw [← List.mem_append, e]
    constructor
    · rintro (z | z | z)
      · have := (a3 r).mp (hm.mpr (Or.inl z)); exact ⟨by omega, this.2⟩
      · rw [z]; exact ⟨by omega, hn⟩
      · have := (a3 r).mp (hm.mpr (Or.inr z)); exact ⟨by omega, this.2⟩
    · rintro ⟨z1, z2⟩
      by_cases q : r = n
      · exact Or.inr (Or.inl q)
      · rcases hm.mp ((a3 r).mpr ⟨by omega, z2⟩) with z | z
        · exact Or.inl z
        · exact Or.inr (Or.inr z)
def OM (J : Mem) (o : List Nat) : Prop := J 5 0 6 = (o.length : Int) ∧ ∀ j : Nat, j < o.length → J 18 0 j = ((o.getD j 0 : Nat) : Int)
theorem ngetD_take {l : List Nat} {i j : Nat} (h : j < i) : (l.take i).getD j 0 = l.getD j 0 := by
  simp [List.getD_eq_getElem?_getD, List.getElem?_take, h]
theorem ngetD_mem {l : List Nat} {j : Nat} (h : j < l.length) : l.getD j 0 ∈ l := by
  simp [List.getD_eq_getElem?_getD, h]
theorem nmem_getD {l : List Nat} {x : Nat} (h : x ∈ l) : ∃ j : Nat, j < l.length ∧ l.getD j 0 = x := by
  obtain ⟨j, hj, e⟩ := List.mem_iff_getElem.mp h
  exact ⟨j, hj, by simp [List.getD_eq_getElem?_getD, hj, e]⟩
theorem ngetD_ins {o : List Nat} {n p : Nat} (hp : p ≤ o.length) (j : Nat) : (o.take p ++ n :: o.drop p).getD j 0 = if j < p then o.getD j 0 else if j = p then n else o.getD (j - 1) 0 := by
  have hl : (o.take p).length = p := by rw [List.length_take]; omega
  by_cases q : j < p
  · rw [if_pos q]
    have hq : j < o.length := by omega
    simp [List.getD_eq_getElem?_getD, List.getElem?_append, List.getElem?_take, hl, q, hq]
  · rw [if_neg q]
    by_cases q2 : j = p
    · rw [if_pos q2]
      subst q2
      simp [List.getD_eq_getElem?_getD, List.getElem?_append, hl]
    · rw [if_neg q2]
      obtain ⟨k, rfl⟩ : ∃ k : Nat, j = p + 1 + k := ⟨j - p - 1, by omega⟩
      simp [List.getD_eq_getElem?_getD, List.getElem?_append, hl, show ¬ p + 1 + k < p by omega, show p + 1 + k - p = k + 1 by omega, List.getElem?_cons_succ, List.getElem?_drop]
section MEAS
variable {I : Mem} {t : Nat} {g : GS}
theorem g_lenR (h : GC I t g) {r : Nat} (hr : r < 40) : f_G_lengthOf t (26 + (r : Int)) I = some (gL g r, I) := by
  rw [g_lengthOf h (by omega), WF.sl_rule]
theorem t_order (h : GC I t g) (w : WF g) : Tr (f_Sv_orderByLength t I) (fun _ J => (∃ o : List Nat, ORD g 40 o ∧ OM J o) ∧ Fm FSV I J) := by
  have ht := h.1
  have hL : ∀ r : Nat, r < 40 → gR g (r + 1) ≠ [] → 1 ≤ gL g r ∧ gL g r ≤ 400 := fun r hr hn => ⟨(w.2.1 r hr hn).2.2.2, (w.2.1 r hr hn).2.2.1⟩
  unfold f_Sv_orderByLength
  rw [if_pos ht]
  show Tr (bnd (whl (f_Sv_orderByLength_w7 t) 0 (sI I 5 0 6 0)) (fun _ J76 => some ((), J76))) _
  refine tr_call (P := fun _ J => (∃ o : List Nat, ORD g 40 o ∧ OM J o) ∧ Fm FSV I J) (tr_cnt (fun k => (k : Int)) (fun k J => (∃ o : List Nat, ORD g k o ∧ OM J o) ∧ Fm FSV I J) 40 rfl ⟨⟨[], ⟨List.Pairwise.nil, List.nodup_nil, fun r => ⟨fun z => absurd z List.not_mem_nil, fun z => absurd z.1 (Nat.not_lt_zero r)⟩⟩, sI_self .., fun j hj => absurd hj (Nat.not_lt_zero j)⟩, Fm.sI (by decide) (by omega) (by omega) (Or.inl rfl)⟩ ?_ ?_) (fun _ _ q => tr_ret q)
  · rintro k J hk ⟨⟨o, hO, o1, o2⟩, hF⟩
    have hG := h.fsv hF
    have hol : o.length ≤ k := nodup_len k o hO.2.1 (fun x hx => ((hO.2.2 x).mp hx).1)
    unfold f_Sv_orderByLength_w7
    rw [w32_of (x := (k : Int)) (by omega) (by omega), if_pos (by omega), g_hasRule hG hk, bnd_some]
    by_cases e : gR g (k + 1) = []
    · rw [if_pos (wb_neg (fun z => z e))]
      refine tr_ret ⟨rfl, ⟨o, ⟨hO.1, hO.2.1, fun r => ?_⟩, o1, o2⟩, hF⟩
      rw [hO.2.2]
      constructor
      · rintro ⟨z1, z2⟩; exact ⟨by omega, z2⟩
      · rintro ⟨z1, z2⟩
        refine ⟨?_, z2⟩
        by_cases q : r = k
        · rw [q] at z2; exact absurd e z2
        · omega
    · rw [if_neg (wb_pos e), g_lenR hG hk, bnd_some, o1]
      have hLk := hL k hk e
      refine tr_call (P := fun x K => ∃ p : Nat, x = (p : Int) ∧ p ≤ o.length ∧ (∀ y ∈ o.take p, gL g y ≤ gL g k) ∧ (∀ y ∈ o.drop p, gL g k ≤ gL g y) ∧ (∀ j : Nat, j < p → K 18 0 j = ((o.getD j 0 : Nat) : Int)) ∧ (∀ j : Nat, p < j → j < o.length + 1 → K 18 0 j = ((o.getD (j - 1) 0 : Nat) : Int)) ∧ Fm (fun a b _ => a = 18 ∧ b = 0) J K) (tr_whl (fun n s K => ∃ p : Nat, p = n ∧ s = (p : Int) ∧ p ≤ o.length ∧ (∀ y ∈ o.drop p, gL g k ≤ gL g y) ∧ (∀ j : Nat, j < p → K 18 0 j = ((o.getD j 0 : Nat) : Int)) ∧ (∀ j : Nat, p < j → j < o.length + 1 → K 18 0 j = ((o.getD (j - 1) 0 : Nat) : Int)) ∧ Fm (fun a b _ => a = 18 ∧ b = 0) J K) ?_ o.length _ _ ⟨o.length, rfl, rfl, Nat.le_refl _, fun y hy => by rw [List.drop_length] at hy; exact absurd hy List.not_mem_nil, o2, fun j h1 h2 => by omega, Fm.refl _ _⟩) ?_
      · rintro n s K ⟨p, rfl, rfl, hp, p1, p2, p3, p4⟩
        have hGK : GC K t g := hG.fsv (p4.mono (fun a b c z => Or.inr z.1))
        unfold f_Sv_orderByLength_w39
        rw [w32_of (x := (p : Int)) (by omega) (by omega)]
        have stop : (∀ y ∈ o.take p, gL g y ≤ gL g k) → LQ (fun s' K' => ∃ m : Nat, m < p ∧ ∃ p : Nat, p = m ∧ s' = (p : Int) ∧ p ≤ o.length ∧ (∀ y ∈ o.drop p, gL g k ≤ gL g y) ∧ (∀ j : Nat, j < p → K' 18 0 j = ((o.getD j 0 : Nat) : Int)) ∧ (∀ j : Nat, p < j → j < o.length + 1 → K' 18 0 j = ((o.getD (j - 1) 0 : Nat) : Int)) ∧ Fm (fun a b _ => a = 18 ∧ b = 0) J K') (fun x K => ∃ p : Nat, x = (p : Int) ∧ p ≤ o.length ∧ (∀ y ∈ o.take p, gL g y ≤ gL g k) ∧ (∀ y ∈ o.drop p, gL g k ≤ gL g y) ∧ (∀ j : Nat, j < p → K 18 0 j = ((o.getD j 0 : Nat) : Int)) ∧ (∀ j : Nat, p < j → j < o.length + 1 → K 18 0 j = ((o.getD (j - 1) 0 : Nat) : Int)) ∧ Fm (fun a b _ => a = 18 ∧ b = 0) J K) (.inr (p : Int) : Int ⊕ Int) K := fun hz => ⟨p, rfl, hp, hz, p1, p2, p3, p4⟩
        by_cases q : p = 0
        · rw [if_neg (by omega)]
          subst q
          exact tr_ret (stop (fun y hy => by simp at hy))
        · have hm := ngetD_mem (l := o) (j := p - 1) (by omega)
          have hz := (hO.2.2 _).mp hm
          have hLz := hL _ (by omega) hz.2
          have ej : K 18 0 (p - 1) = ((o.getD (p - 1) 0 : Nat) : Int) := p2 (p - 1) (by omega)
          rw [if_pos (by omega), show (p : Int) - 1 = ((p - 1 : Nat) : Int) by omega, w32_of (x := ((p - 1 : Nat) : Int)) (by omega) (by omega), if_pos (by omega), Int.toNat_natCast, ej, g_lenR hGK (by omega), bnd_some, w32_of (x := gL g k) (by omega) (by omega), w32_of (x := gL g (o.getD (p - 1) 0)) (by omega) (by omega)]
          by_cases q2 : gL g k < gL g (o.getD (p - 1) 0)
          · rw [if_pos q2, if_pos (by omega), Int.toNat_natCast]
            refine tr_ret ⟨p - 1, by omega, p - 1, rfl, by show (p : Int) + -1 = _; omega, by omega, fun y hy => ?_, fun j hj => ?_, fun j h1 h2 => ?_, p4.trans (Fm.sI (by decide) (by omega) (by omega) ⟨rfl, rfl⟩)⟩
            · have hd : o.drop (p - 1) = o.getD (p - 1) 0 :: o.drop p := by
                rw [List.drop_eq_getElem_cons (show p - 1 < o.length by omega)]
                simp [List.getD_eq_getElem?_getD, show p - 1 < o.length by omega, show p - 1 + 1 = p by omega]
              rw [hd] at hy
              rcases List.mem_cons.mp hy with z | z
              · rw [z]; omega
              · exact p1 y z
            · rw [sI_ne (by omega)]; exact p2 j (by omega)
            · by_cases ejp : j = p
              · subst ejp; rw [sI_self]; exact ej
              · rw [sI_ne (by omega)]; exact p3 j (by omega) h2
          · rw [if_neg q2]
            refine tr_ret (stop (fun y hy => ?_))
            obtain ⟨j, hj, ey⟩ := nmem_getD hy
            rw [List.length_take] at hj
            rw [ngetD_take (by omega)] at ey
            by_cases q3 : j = p - 1
            · rw [← ey, q3]; omega
            · have hpw := List.pairwise_iff_getElem.mp hO.1 j (p - 1) (by omega) (by omega) (by omega)
              have g1 : o.getD j 0 = o[j]'(by omega) := by simp [List.getD_eq_getElem?_getD, show j < o.length by omega]
              have g2 : o.getD (p - 1) 0 = o[p - 1]'(by omega) := by simp [List.getD_eq_getElem?_getD, show p - 1 < o.length by omega]
              rw [← g1, ← g2, ey] at hpw
              omega
      · rintro x K ⟨p, rfl, hp, p0, p1, p2, p3, p4⟩
        have e6 : K 5 0 6 = (o.length : Int) := by rw [p4.at (by decide) (by omega)]; exact o1
        rw [w32_of (x := (p : Int)) (by omega) (by omega), if_pos (by omega), Int.toNat_natCast]
        refine tr_ret ⟨rfl, ⟨o.take p ++ k :: o.drop p, hO.ins e hp p0 p1, ?_, fun j hj => ?_⟩, hF.trans ((p4.mono (fun a b c z => Or.inr z.1)).trans ((Fm.sI (by decide) (by omega) (by omega) (Or.inr rfl)).trans (Fm.sI (by decide) (by omega) (by omega) (Or.inl rfl))))⟩
        · rw [sI_self, sI_ne (by omega), e6, List.length_append, List.length_cons, List.length_take, List.length_drop]; omega
        · rw [List.length_append, List.length_cons, List.length_take, List.length_drop] at hj
          rw [sI_ne (by omega), ngetD_ins hp]
          by_cases q1 : j < p
          · rw [if_pos q1, sI_ne (by omega)]; exact p2 j q1
          · rw [if_neg q1]
            by_cases q2 : j = p
            · subst q2; rw [if_pos rfl, sI_self]
            · rw [if_neg q2, sI_ne (by omega)]; exact p3 j (by omega) (by omega)
  · rintro J ⟨h1, h2⟩
    unfold f_Sv_orderByLength_w7
    rw [if_neg (by decide)]
    exact tr_ret ⟨h1, h2⟩
theorem s_deepest {r : Nat} {l : List Int} (hr : RW I r l) (hs : SY l) {d : Int → Int} (hd0 : ∀ x : Int, x < 26 → d x = 0) (hd : ∀ x ∈ l, 26 ≤ x → I 18 1 (x - 26).toNat = d x) (hb : ∀ x ∈ l, 0 ≤ d x ∧ d x ≤ 1000) : f_Sv_deepestIn r I = some (mxd d l, I) := by
  have hl := hr.len
  unfold f_Sv_deepestIn
  rw [if_pos hr.1]
  rw [whl_ro (r := mxd d l) (s0 := ((0 : Int), (0 : Int))) (fun k => (mT (fun j => d (l.getD j (-1))) k, (k : Int))) l.length rfl ?_ ?_, bnd_some]
  · intro k hk
    have q := hs.at hk
    have hm := getD_mem (d := -1) hk
    have hbk := hb _ hm
    have hmt := mT_le (f := fun j => d (l.getD j (-1))) (c := 1000) (by decide) (n := k) (fun j hj => (hb _ (getD_mem (by omega))).2)
    unfold f_Sv_deepestIn_w4
    dsimp only
    rw [w32_of (x := (k : Int)) (by omega) (by omega), hr.2.1, w32_of (x := (l.length : Int)) (by omega) (by omega), if_pos (by omega), row_at hr (by omega), bnd_some]
    have e : f_Sv_depthOf (l.getD k (-1)) I = some (d (l.getD k (-1)), I) := by
      unfold f_Sv_depthOf
      rw [w32_of (x := l.getD k (-1)) (by omega) (by omega)]
      by_cases z : l.getD k (-1) < 26
      · rw [if_pos z, hd0 _ z]
      · rw [if_neg z, if_pos (by omega), w32_of (x := l.getD k (-1) - 26) (by omega) (by omega), if_pos (by omega), hd _ hm (by omega)]
    rw [e, bnd_some]
    unfold imx
    rw [w32_of (x := mT _ k) (by omega) (by omega), w32_of (x := d (l.getD k (-1))) (by omega) (by omega)]
    rfl
  · unfold f_Sv_deepestIn_w4
    dsimp only
    rw [w32_of (x := (l.length : Int)) (by omega) (by omega), hr.2.1, w32_of (x := (l.length : Int)) (by omega) (by omega), if_neg (by omega)]
    rfl
theorem t_addComings {r : Nat} {l : List Int} (h : RW I r l) (hs : SY l) (v : Int) : Tr (f_Sv_addComings r v I) (fun _ J => (∀ j : Nat, j < 40 → J 18 2 j = I 18 2 j + v * (l.count (26 + (j : Int)) : Int)) ∧ Fm (fun a b _ => a = 18 ∧ b = 2) I J) := by
  have hl := h.len
  unfold f_Sv_addComings
  rw [if_pos h.1]
  refine tr_call (P := fun _ J => (∀ j : Nat, j < 40 → J 18 2 j = I 18 2 j + v * (l.count (26 + (j : Int)) : Int)) ∧ Fm (fun a b _ => a = 18 ∧ b = 2) I J) (tr_cnt (fun k => (k : Int)) (fun k J => (∀ j : Nat, j < 40 → J 18 2 j = I 18 2 j + v * ((l.take k).count (26 + (j : Int)) : Int)) ∧ Fm (fun a b _ => a = 18 ∧ b = 2) I J) l.length rfl ⟨fun j _ => by simp, Fm.refl _ _⟩ ?_ ?_) (fun _ _ q => tr_ret q)
  · rintro k J hk ⟨h1, h2⟩
    have hJ := h.fm h2 (fun a b ha q => by omega)
    have q := hs.at hk
    unfold f_Sv_addComings_w2
    rw [w32_of (x := (k : Int)) (by omega) (by omega), hJ.2.1, w32_of (x := (l.length : Int)) (by omega) (by omega), if_pos (by omega), row_at hJ (by omega), bnd_some, w32_of (x := l.getD k (-1) - 26) (by omega) (by omega)]
    have hc : ∀ j : Nat, j < 40 → ((l.take (k + 1)).count (26 + (j : Int)) : Int) = (l.take k).count (26 + (j : Int)) + (if l.getD k (-1) = 26 + (j : Int) then 1 else 0) := fun j _ => by
      rw [take_at (d := -1) hk, List.count_append, List.count_singleton]
      by_cases e : l.getD k (-1) = 26 + (j : Int)
      · rw [if_pos (by simpa using e), if_pos e]; simp
      · rw [if_neg (by simpa using e), if_neg e]; simp
    by_cases c1 : l.getD k (-1) < 26
    · rw [if_pos (by omega)]
      refine tr_ret ⟨rfl, fun j hj => ?_, h2⟩
      rw [hc j hj, if_neg (by omega), Int.add_zero]; exact h1 j hj
    · rw [if_neg (by omega), if_pos (by omega), if_pos (by omega)]
      refine tr_ret ⟨rfl, fun j hj => ?_, h2.trans (Fm.sI (by decide) (by omega) (by omega) ⟨rfl, rfl⟩)⟩
      rw [hc j hj]
      by_cases e : l.getD k (-1) = 26 + (j : Int)
      · have e2 : (l.getD k (-1) - 26).toNat = j := by omega
        rw [e2, sI_self, if_pos e, h1 j hj, Int.mul_add]
        omega
      · rw [if_neg e, sI_ne (by omega), Int.add_zero]; exact h1 j hj
  · rintro J ⟨h1, h2⟩
    have hJ := h.fm h2 (fun a b ha q => by omega)
    unfold f_Sv_addComings_w2
    rw [w32_of (x := (l.length : Int)) (by omega) (by omega), hJ.2.1, w32_of (x := (l.length : Int)) (by omega) (by omega), if_neg (by omega)]
    rw [List.take_length] at h1
    exact tr_ret ⟨h1, h2⟩
theorem dpR {g : GS} {x : Int} (h : 26 ≤ x) : dp g x = dp g (26 + ((x - 26).toNat : Int)) := by congr 1; omega
theorem t_measure (h : GC I t g) (w : WF g) : Tr (f_Sv_measure t I) (fun _ J => (∀ r : Nat, r < 40 → gR g (r + 1) ≠ [] → J 18 1 r = dp g (26 + (r : Int)) ∧ J 18 2 r = cm g r) ∧ Fm FSV I J) := by
  have ht := h.1
  have hsr : ∀ r : Nat, r < 40 → gR g (r + 1) ≠ [] → SYr (gR g) (26 + (r : Int)) := fun r hr hn => ⟨by omega, by omega, fun _ => by rw [show (26 + (r : Int) - 26).toNat = r by omega]; exact hn⟩
  unfold f_Sv_measure
  rw [if_pos ht]
  refine tr_call (t_order h w) ?_
  rintro _ J1 ⟨⟨o, hO, o1, o2⟩, f1⟩
  have hol : o.length ≤ 40 := nodup_len 40 o hO.2.1 (fun x hx => ((hO.2.2 x).mp hx).1)
  refine tr_call (P := fun _ J => (∀ r : Nat, r < 40 → J 18 1 r = 0 ∧ J 18 2 r = 0) ∧ Fm (fun a b _ => a = 18 ∧ (b = 1 ∨ b = 2)) J1 J) (tr_cnt (fun k => (k : Int)) (fun k J => (∀ r : Nat, r < k → J 18 1 r = 0 ∧ J 18 2 r = 0) ∧ Fm (fun a b _ => a = 18 ∧ (b = 1 ∨ b = 2)) J1 J) 40 rfl ⟨fun r hr => absurd hr (Nat.not_lt_zero r), Fm.refl _ _⟩ ?_ ?_) ?_
  · rintro k J hk ⟨h1, h2⟩
    unfold f_Sv_measure_w7
    rw [w32_of (by omega) (by omega), if_pos (by omega), if_pos (by omega), Int.toNat_natCast]
    refine tr_ret ⟨rfl, fun r hr => ?_, h2.trans ((Fm.sI (by decide) (by omega) (by omega) ⟨rfl, Or.inl rfl⟩).trans (Fm.sI (by decide) (by omega) (by omega) ⟨rfl, Or.inr rfl⟩))⟩
    by_cases e : r = k
    · subst e; exact ⟨by rw [sI_ne (by omega), sI_self], by rw [sI_self]⟩
    · rw [sI_ne (by omega), sI_ne (by omega), sI_ne (by omega), sI_ne (by omega)]; exact h1 r (by omega)
  · rintro J ⟨h1, h2⟩
    unfold f_Sv_measure_w7
    rw [if_neg (by decide)]
    exact tr_ret ⟨h1, h2⟩
  rintro _ J2 ⟨z2, f2⟩
  have F2 : Fm FSV I J2 := f1.trans (f2.mono (fun a b c z => Or.inr z.1))
  have o1' : J2 5 0 6 = (o.length : Int) := by rw [f2.at (by decide) (by omega)]; exact o1
  have o2' : ∀ j : Nat, j < o.length → J2 18 0 j = ((o.getD j 0 : Nat) : Int) := fun j hj => by rw [f2.at (by decide) (by omega)]; exact o2 j hj
  -- a shorter rule stands ahead
  have ahead : ∀ k : Nat, k < o.length → ∀ y : Int, y ∈ gR g (o.getD k 0 + 1) → 26 ≤ y → ∃ j : Nat, j < k ∧ o.getD j 0 = (y - 26).toNat := by
    intro k hk y hy h26
    have hm := (hO.2.2 _).mp (ngetD_mem hk)
    have hsk := hsr _ hm.1 hm.2
    obtain ⟨-, b2, -, -, -, b6⟩ := rule_body w hsk (by omega)
    rw [show (26 + ((o.getD k 0 : Nat) : Int) - 26).toNat = o.getD k 0 by omega] at b2 b6
    obtain ⟨c1, c2⟩ := b6 y hy
    have hsy := rule_body w c1 h26
    obtain ⟨j, hj, ej⟩ := nmem_getD ((hO.2.2 (y - 26).toNat).mpr ⟨hsy.1, hsy.2.2.1⟩)
    refine ⟨j, ?_, ej⟩
    apply Classical.byContradiction
    intro q
    have hle : gL g (o.getD k 0) ≤ gL g (o.getD j 0) := by
      by_cases e : k = j
      · rw [e]; exact Int.le_refl _
      · have hpw := List.pairwise_iff_getElem.mp hO.1 k j hk hj (by omega)
        have g1 : o.getD k 0 = o[k]'hk := by simp [List.getD_eq_getElem?_getD, hk]
        have g2 : o.getD j 0 = o[j]'hj := by simp [List.getD_eq_getElem?_getD, hj]
        rw [g1, g2]; exact hpw
    rw [ej, ← hsy.2.1, ← b2] at hle
    omega
  refine tr_call (P := fun _ J => (∀ r : Nat, r < 40 → gR g (r + 1) ≠ [] → J 18 1 r = dp g (26 + (r : Int))) ∧ Fm (fun a b _ => a = 18 ∧ b = 1) J2 J) (tr_cnt (fun k => (k : Int)) (fun k J => (∀ j : Nat, j < k → J 18 1 (o.getD j 0) = dp g (26 + ((o.getD j 0 : Nat) : Int))) ∧ Fm (fun a b _ => a = 18 ∧ b = 1) J2 J) o.length rfl ⟨fun j hj => absurd hj (Nat.not_lt_zero j), Fm.refl _ _⟩ ?_ ?_) ?_
  · rintro k J hk ⟨h1, h2⟩
    have hG := h.fsv (F2.trans (h2.mono (fun a b c z => Or.inr z.1)))
    have hm := (hO.2.2 _).mp (ngetD_mem hk)
    have hk18 : J 18 0 k = ((o.getD k 0 : Nat) : Int) := by rw [h2.at (by decide) (by omega)]; exact o2' k hk
    have hr := hG.2.1 (o.getD k 0 + 1) (by omega)
    have hsk := hsr _ hm.1 hm.2
    have hdr := dp_rule w hsk (by omega)
    rw [show (26 + ((o.getD k 0 : Nat) : Int) - 26).toNat = o.getD k 0 by omega] at hdr
    unfold f_Sv_measure_w35
    rw [w32_of (x := (k : Int)) (by omega) (by omega), show J 5 0 6 = (o.length : Int) by rw [h2.at (by decide) (by omega)]; exact o1', w32_of (x := (o.length : Int)) (by omega) (by omega), if_pos (by omega), if_pos (by omega), Int.toNat_natCast, hk18, g_body ht hm.1, bnd_some, if_pos hr.1, s_deepest hr (w.sy (by omega)) (d := dp g) (fun x hx => dp_letter g hx) (fun y hy h26 => ?_) (fun y hy => by have := dp_40 w (w.1 _ (by omega) y hy); omega), bnd_some, w32_of (x := ((o.getD k 0 : Nat) : Int)) (by omega) (by omega), if_pos (by omega), Int.toNat_natCast]
    · refine tr_ret ⟨rfl, fun j hj => ?_, h2.trans (Fm.sI (by decide) (by omega) (by omega) ⟨rfl, rfl⟩)⟩
      by_cases e : o.getD j 0 = o.getD k 0
      · rw [e, sI_self, hdr]
      · rw [sI_ne (by omega)]
        refine h1 j ?_
        have : j ≠ k := fun z => e (by rw [z])
        omega
    · obtain ⟨j, hj, ej⟩ := ahead k hk y hy h26
      rw [← ej, h1 j hj, dpR h26, ej]
  · rintro J ⟨h1, h2⟩
    unfold f_Sv_measure_w35
    rw [w32_of (x := (o.length : Int)) (by omega) (by omega), show J 5 0 6 = (o.length : Int) by rw [h2.at (by decide) (by omega)]; exact o1', w32_of (x := (o.length : Int)) (by omega) (by omega), if_neg (by omega)]
    refine tr_ret ⟨fun r hr hn => ?_, h2⟩
    obtain ⟨j, hj, ej⟩ := nmem_getD ((hO.2.2 r).mpr ⟨hr, hn⟩)
    rw [← ej]; exact h1 j hj
  rintro _ J3 ⟨z3, f3⟩
  have F3 : Fm FSV I J3 := F2.trans (f3.mono (fun a b c z => Or.inr z.1))
  have hG3 := h.fsv F3
  rw [← rix_0]
  refine tr_call (t_addComings (hG3.2.1 0 (by omega)) (w.sy (by omega)) 1) ?_
  rintro _ J4 ⟨z4, f4⟩
  have F4 : Fm FSV I J4 := F3.trans (f4.mono (fun a b c z => Or.inr z.1))
  have q6 : J4 5 0 6 = (o.length : Int) := by rw [f4.at (by decide) (by omega), f3.at (by decide) (by omega)]; exact o1'
  have q0 : ∀ j : Nat, j < o.length → J4 18 0 j = ((o.getD j 0 : Nat) : Int) := fun j hj => by rw [f4.at (by decide) (by omega), f3.at (by decide) (by omega)]; exact o2' j hj
  have q2 : ∀ r : Nat, r < 40 → J4 18 2 r = ((gR g 0).count (26 + (r : Int)) : Int) := fun r hr => by
    rw [z4 r hr, f3.at (by decide) (by omega), (z2 r hr).2]; omega
  rw [q6]
  have absent : ∀ r : Nat, gR g (r + 1) = [] → ∀ i : Nat, i < 41 → (gR g i).count (26 + (r : Int)) = 0 := by
    intro r hn i hi
    rw [List.count_eq_zero]
    intro hm
    exact (w.1 i hi _ hm).2.2 (by omega) (by rw [show (26 + (r : Int) - 26).toNat = r by omega]; exact hn)
  refine tr_call (P := fun _ J => (∀ r : Nat, r < 40 → gR g (r + 1) ≠ [] → J 18 2 r = cm g r) ∧ Fm (fun a b _ => a = 18 ∧ b = 2) J4 J) (tr_whl (fun n s J => ∃ k : Nat, k = n ∧ k ≤ o.length ∧ s = (k : Int) - 1 ∧ (∃ D : Nat → Bool, (∀ r : Nat, D r = true ↔ r ∈ o.drop k) ∧ (∀ y : Nat, y < 40 → tot g (fun r => J 18 2 r) D y = cm g y)) ∧ (∀ r : Nat, r < 40 → gR g (r + 1) = [] → J 18 2 r = 0) ∧ Fm (fun a b _ => a = 18 ∧ b = 2) J4 J) ?_ o.length _ _ ⟨o.length, rfl, Nat.le_refl _, rfl, ⟨fun _ => false, fun r => by rw [List.drop_length]; simp, fun y hy => ?_⟩, fun r hr hn => by rw [q2 r hr, absent r hn 0 (by omega)]; rfl, Fm.refl _ _⟩) ?_
  · rintro n s J ⟨k, rfl, hk, rfl, ⟨D, d1, d2⟩, d3, d4⟩
    unfold f_Sv_measure_w92
    by_cases q : k = 0
    · subst q
      rw [w32_of (x := ((0 : Nat) : Int) - 1) (by omega) (by omega), if_pos (by omega)]
      refine tr_ret ⟨fun r hr hn => ?_, d4⟩
      have h0 : ∀ r : Nat, r < 40 → D r = false → J 18 2 r = 0 := fun r hr hD => by
        by_cases e : gR g (r + 1) = []
        · exact d3 r hr e
        · have := (d1 r).mpr (by rw [List.drop_zero]; exact (hO.2.2 r).mpr ⟨hr, e⟩)
          rw [hD] at this; cases this
      have h1 := tot_end (g := g) (c := fun r => J 18 2 r) h0 hr
      rw [d2 r hr] at h1
      exact h1.symm
    · have hk1 : k - 1 < o.length := by omega
      have hm := (hO.2.2 _).mp (ngetD_mem hk1)
      have hG := h.fsv (F4.trans (d4.mono (fun a b c z => Or.inr z.1)))
      have hr := hG.2.1 (o.getD (k - 1) 0 + 1) (by omega)
      have e0 : J 18 0 (k - 1) = ((o.getD (k - 1) 0 : Nat) : Int) := by rw [d4.at (by decide) (by omega)]; exact q0 _ hk1
      have hd : o.drop (k - 1) = o.getD (k - 1) 0 :: o.drop k := by
        rw [List.drop_eq_getElem_cons hk1]
        simp [List.getD_eq_getElem?_getD, hk1, show k - 1 + 1 = k by omega]
      have hnd := hO.2.1.sublist (List.drop_sublist (k - 1) o)
      rw [hd, List.nodup_cons] at hnd
      have hcnt : ∀ r : Nat, r < 40 → D r = true → (gR g (o.getD (k - 1) 0 + 1)).count (26 + (r : Int)) = 0 := by
        intro r hr hD
        rw [List.count_eq_zero]
        intro hm2
        obtain ⟨j, hj, ej⟩ := ahead (k - 1) hk1 _ hm2 (by omega)
        rw [show (26 + (r : Int) - 26).toNat = r by omega] at ej
        have h1 := (d1 r).mp hD
        have h2 : r ∈ o.take (k - 1) := by
          rw [← ej, ← ngetD_take hj]
          exact ngetD_mem (by rw [List.length_take]; omega)
        have h3 := hO.2.1
        rw [← List.take_append_drop (k - 1) o, List.nodup_append, hd] at h3
        exact h3.2.2 r h2 r (List.mem_cons_of_mem _ h1) rfl
      rw [show (k : Int) - 1 = ((k - 1 : Nat) : Int) by omega, w32_of (x := ((k - 1 : Nat) : Int)) (by omega) (by omega), if_neg (by omega), if_pos (by omega), Int.toNat_natCast, e0, g_body ht hm.1, bnd_some, if_pos hr.1, e0, w32_of (x := ((o.getD (k - 1) 0 : Nat) : Int)) (by omega) (by omega), if_pos (by omega), Int.toNat_natCast]
      refine tr_call (t_addComings hr (w.sy (by omega)) _) ?_
      rintro _ K ⟨k1, k2⟩
      have hDf : D (o.getD (k - 1) 0) = false := eq_false_of_ne_true (fun z => hnd.1 ((d1 _).mp z))
      refine tr_ret ⟨k - 1, by omega, k - 1, rfl, by omega, by show ((k - 1 : Nat) : Int) + -1 = _; omega, ⟨fun r => D r || decide (r = o.getD (k - 1) 0), fun r => ?_, fun y hy => ?_⟩, fun r hr2 hn => ?_, d4.trans k2⟩
      · rw [hd, List.mem_cons, Bool.or_eq_true, d1, decide_eq_true_iff]
        exact Or.comm
      · rw [← d2 y hy]
        exact tot_step w hm.1 hm.2 hDf (fun r hr2 => k1 r hr2) hcnt y
      · rw [k1 r hr2, d3 r hr2 hn, absent r hn _ (by omega)]; simp
  · rw [cm_0 w y]
    unfold tot
    exact sT_congr (fun r hr => by rw [if_neg (by simp), if_neg (by simp)]; exact congrArg (· * _) (q2 r hr))
  rintro _ J5 ⟨z5, f5⟩
  refine tr_ret ⟨fun r hr hn => ⟨?_, z5 r hr hn⟩, F4.trans (f5.mono (fun a b c z => Or.inr z.1))⟩
  rw [f5.at (by decide) (by omega), f4.at (by decide) (by omega)]
  exact z3 r hr hn
end MEAS
