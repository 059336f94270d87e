/-! ===== the best pair; the class's choice ===== -/
def gLs (g : GS) (p : Nat) : Int := sl (gL g) ((p / 66 : Nat) : Int) + sl (gL g) ((p % 66 : Nat) : Int)
noncomputable def wz (g : GS) (p : Nat) : Bool := decide ((kz g p 40 ≠ -1 ∧ 0 < cz g p zE) ∨ (kz g p 40 = -1 ∧ gFree g ≠ -1 ∧ gN g 0 ≤ cz g p zE))
noncomputable def ky (g : GS) (p : Nat) : Int := if gN g 1 = 1 then -(fz g p zE) else if gN g 1 = 2 then gLs g p * 4356 - p else -(p : Int)
def ahd (g : GS) (p o : Nat) : Prop := cz g o zE < cz g p zE ∨ (cz g p zE = cz g o zE ∧ ky g o < ky g p)
def isB (g : GS) (b : Nat) : Prop := b < 4356 ∧ wz g b = true ∧ ∀ q : Nat, q < 4356 → wz g q = true → q ≠ b → ahd g b q
noncomputable def bestP (g : GS) : Int := @dite _ (∃ b : Nat, isB g b) (Classical.propDecidable _) (fun h => (h.choose : Int)) (fun _ => -1)
noncomputable def worthN (g : GS) : Int := sT (fun p => bI (wz g p = true)) zP
noncomputable def alikeN (g : GS) (c : Int) : Int := sT (fun p => bI ((wz g p && decide (cz g p zE = c)) = true)) zP
theorem isB_uniq {g : GS} {a b : Nat} (ha : isB g a) (hb : isB g b) : a = b := by
  apply Classical.byContradiction
  intro hne
  have h1 := ha.2.2 b hb.1 hb.2.1 (fun e => hne e.symm)
  have h2 := hb.2.2 a ha.1 ha.2.1 hne
  unfold ahd at h1 h2
  omega
theorem bestP_of {g : GS} {b : Nat} (h : isB g b) : bestP g = (b : Int) := by
  have hex : ∃ b : Nat, isB g b := ⟨b, h⟩
  unfold bestP
  rw [dif_pos hex]
  rw [isB_uniq hex.choose_spec h]
theorem bestP_none {g : GS} (h : ∀ q : Nat, q < 4356 → wz g q = false) : bestP g = -1 := by
  unfold bestP
  rw [dif_neg]
  rintro ⟨b, h1, h2, -⟩
  rw [h b h1] at h2
  cases h2
theorem bestP_cases (g : GS) : bestP g = -1 ∨ ∃ b : Nat, isB g b ∧ bestP g = (b : Int) := by
  by_cases h : ∃ b : Nat, isB g b
  · obtain ⟨b, hb⟩ := h
    exact Or.inr ⟨b, hb, bestP_of hb⟩
  · left
    unfold bestP
    rw [dif_neg h]
theorem cz_mem {g : GS} {p : Nat} : ∀ {c : Nat}, cz g p c ≠ 0 → ∃ x : Nat, x < c ∧ nz g x = true ∧ pz g x = (p : Int)
  | 0, h => absurd rfl h
  | c + 1, h => by
    by_cases q : nz g c = true ∧ pz g c = (p : Int)
    · exact ⟨c, by omega, q.1, q.2⟩
    · rw [cz_succ, bI_neg q, Int.add_zero] at h
      obtain ⟨x, h1, h2, h3⟩ := cz_mem h
      exact ⟨x, by omega, h2, h3⟩
theorem nz_at' {g : GS} {x : Nat} (h : nz g x = true) : gAl g (x / 400) = false ∧ x % 400 + 1 < (gR g (x / 400)).length ∧ nt (gR g (x / 400)) (x % 400) = true := by
  unfold nz at h
  simp at h
  exact ⟨h.1, h.2.1, h.2.2⟩
theorem cz_sym {g : GS} (w : WF g) {p : Nat} (hp : p < 4356) (h : cz g p zE ≠ 0) : SYr (gR g) ((p / 66 : Nat) : Int) ∧ SYr (gR g) ((p % 66 : Nat) : Int) := by
  obtain ⟨x, h1, h2, h3⟩ := cz_mem h
  obtain ⟨-, h5, -⟩ := nz_at' h2
  have hz := zE_eq
  have hi : x / 400 < 41 := by omega
  have m0 := w.1 _ hi _ (getD_mem (l := gR g (x / 400)) (j := x % 400) (d := -1) (by omega))
  have m1 := w.1 _ hi _ (getD_mem (l := gR g (x / 400)) (j := x % 400 + 1) (d := -1) (by omega))
  unfold pz at h3
  have e0 := m0.1
  have e1 := m0.2.1
  have e2 := m1.1
  have e3 := m1.2.1
  have a1 : (gR g (x / 400)).getD (x % 400) (-1) = ((p / 66 : Nat) : Int) := by omega
  have a2 : (gR g (x / 400)).getD (x % 400 + 1) (-1) = ((p % 66 : Nat) : Int) := by omega
  rw [a1] at m0
  rw [a2] at m1
  exact ⟨m0, m1⟩
theorem fz_spec {g : GS} {p c : Nat} (h : cz g p c ≠ 0) : ∃ x : Nat, fz g p c = (x : Int) ∧ x < c ∧ nz g x = true ∧ pz g x = (p : Int) := by
  obtain ⟨j, h1, h2, h3, h4, -⟩ := fF_some (fun z => h (cz_fz.mpr z) : fz g p c ≠ -1)
  simp at h4
  exact ⟨j, h1, by omega, h4.1, h4.2⟩
theorem ky_ne {g : GS} (w : WF g) {p o : Nat} (hp : p < 4356) (ho : o < 4356) (hne : p ≠ o) (h1 : cz g p zE ≠ 0) (h2 : cz g o zE ≠ 0) : ky g p ≠ ky g o := by
  intro e
  unfold ky at e
  by_cases q : gN g 1 = 1
  · rw [if_pos q, if_pos q] at e
    obtain ⟨x, a1, -, -, a4⟩ := fz_spec h1
    obtain ⟨y, b1, -, -, b4⟩ := fz_spec h2
    have : x = y := by omega
    subst this
    exact hne (by omega)
  · rw [if_neg q, if_neg q] at e
    by_cases q2 : gN g 1 = 2
    · rw [if_pos q2, if_pos q2] at e
      exact hne (by omega)
    · rw [if_neg q2, if_neg q2] at e
      exact hne (by omega)
theorem wz_cz {g : GS} (w : WF g) {p : Nat} (h : wz g p = true) : cz g p zE ≠ 0 := by
  unfold wz at h
  have h := of_decide_eq_true h
  have := w.2.2.2.2.2.1
  omega
theorem countP_sT {q : Nat → Bool} : ∀ (n : Nat) (tl : List Nat), tl.Nodup → (∀ x ∈ tl, x < n) → (∀ p : Nat, p < n → q p = true → p ∈ tl) → (tl.countP q : Int) = sT (fun p => bI (q p = true)) n
  | 0, tl, _, h, _ => by
    cases tl with
    | nil => rfl
    | cons x l => exact absurd (h x List.mem_cons_self) (Nat.not_lt_zero x)
  | n + 1, tl, hd, h, hq => by
    have ih := countP_sT (q := q) n (tl.erase n) (hd.erase n) (fun x hx => by
      have h2 := hd.mem_erase_iff.mp hx
      have h3 := h x h2.2
      have h4 := h2.1
      omega) (fun p hp hqp => hd.mem_erase_iff.mpr ⟨by omega, hq p (by omega) hqp⟩)
    show _ = sT (fun p => bI (q p = true)) n + bI (q n = true)
    rw [← ih]
    by_cases m : n ∈ tl
    · rw [(List.perm_cons_erase m).countP_eq, List.countP_cons]
      by_cases e : q n = true
      · rw [if_pos e, bI_pos e]; rfl
      · rw [if_neg e, bI_neg e]; rfl
    · rw [List.erase_of_not_mem m, bI_neg (fun z => m (hq n (by omega) z)), Int.add_zero]
/-- what the choice knows behind a part of the pairs -/
def CH (g : GS) (pre : List Nat) (b wn al : Int) : Prop := wn = (pre.countP (wz g) : Int) ∧ ((b = -1 ∧ al = 0 ∧ ∀ q ∈ pre, wz g q = false) ∨ ∃ m : Nat, b = (m : Int) ∧ m ∈ pre ∧ wz g m = true ∧ (∀ q ∈ pre, wz g q = true → q ≠ m → ahd g m q) ∧ al = (pre.countP (fun q => wz g q && decide (cz g q zE = cz g m zE)) : Int))
theorem CH.skip {g : GS} {pre : List Nat} {b wn al : Int} (h : CH g pre b wn al) {p : Nat} (hp : wz g p = false) : CH g (pre ++ [p]) b wn al := by
  obtain ⟨h1, h2⟩ := h
  refine ⟨by rw [List.countP_append]; simp [hp, h1], ?_⟩
  rcases h2 with ⟨a1, a2, a3⟩ | ⟨m, a1, a2, a3, a4, a5⟩
  · refine Or.inl ⟨a1, a2, fun q hq => ?_⟩
    rcases List.mem_append.mp hq with z | z
    · exact a3 q z
    · rw [List.mem_singleton.mp z]; exact hp
  · refine Or.inr ⟨m, a1, List.mem_append_left _ a2, a3, fun q hq hw hne => ?_, by rw [List.countP_append]; simp [hp, a5]⟩
    rcases List.mem_append.mp hq with z | z
    · exact a4 q z hw hne
    · rw [List.mem_singleton.mp z, hp] at hw; cases hw
theorem CH.first {g : GS} {pre : List Nat} {wn al : Int} (h : CH g pre (-1) wn al) {p : Nat} (hp : wz g p = true) : CH g (pre ++ [p]) (p : Int) (wn + 1) 1 := by
  obtain ⟨h1, h2⟩ := h
  refine ⟨by rw [List.countP_append]; simp [hp, h1], ?_⟩
  rcases h2 with ⟨-, -, a3⟩ | ⟨m, a1, -⟩
  · have hz : pre.countP (fun q => wz g q && decide (cz g q zE = cz g p zE)) = 0 := by
      rw [List.countP_eq_zero]
      intro q hq
      rw [a3 q hq]; simp
    refine Or.inr ⟨p, rfl, by simp, hp, fun q hq hw hne => ?_, by rw [List.countP_append, hz]; simp [hp]⟩
    rcases List.mem_append.mp hq with z | z
    · rw [a3 q z] at hw; cases hw
    · exact absurd (List.mem_singleton.mp z) hne
  · omega
theorem CH.more {g : GS} {pre : List Nat} {m : Nat} {wn al : Int} (h : CH g pre (m : Int) wn al) {p : Nat} (hp : wz g p = true) (hg : cz g m zE < cz g p zE) : CH g (pre ++ [p]) (p : Int) (wn + 1) 1 := by
  obtain ⟨h1, h2⟩ := h
  refine ⟨by rw [List.countP_append]; simp [hp, h1], ?_⟩
  rcases h2 with ⟨a1, -⟩ | ⟨m', a1, a2, a3, a4, a5⟩
  · omega
  · have : m' = m := by omega
    subst this
    have hle : ∀ q ∈ pre, wz g q = true → cz g q zE ≤ cz g m' zE := fun q hq hw => by
      by_cases e : q = m'
      · rw [e]; exact Int.le_refl _
      · have := a4 q hq hw e
        unfold ahd at this
        omega
    have hz : pre.countP (fun q => wz g q && decide (cz g q zE = cz g p zE)) = 0 := by
      rw [List.countP_eq_zero]
      intro q hq z
      simp at z
      have := hle q hq z.1
      omega
    refine Or.inr ⟨p, rfl, by simp, hp, fun q hq hw hne => ?_, by rw [List.countP_append, hz]; simp [hp]⟩
    rcases List.mem_append.mp hq with z | z
    · have := hle q z hw
      exact Or.inl (by omega)
    · exact absurd (List.mem_singleton.mp z) hne
theorem CH.same {g : GS} {pre : List Nat} {m : Nat} {wn al : Int} (h : CH g pre (m : Int) wn al) {p : Nat} (hp : wz g p = true) (he : cz g p zE = cz g m zE) (hk : ky g p ≠ ky g m) : CH g (pre ++ [p]) (if ky g m < ky g p then (p : Int) else (m : Int)) (wn + 1) (al + 1) := by
  obtain ⟨h1, h2⟩ := h
  refine ⟨by rw [List.countP_append]; simp [hp, h1], ?_⟩
  rcases h2 with ⟨a1, -⟩ | ⟨m', a1, a2, a3, a4, a5⟩
  · omega
  · have : m' = m := by omega
    subst this
    by_cases q : ky g m' < ky g p
    · rw [if_pos q]
      refine Or.inr ⟨p, rfl, by simp, hp, fun x hx hw hne => ?_, by rw [List.countP_append, a5]; simp [hp, he]⟩
      rcases List.mem_append.mp hx with z | z
      · by_cases e : x = m'
        · rw [e]; exact Or.inr ⟨he, q⟩
        · have := a4 x z hw e
          unfold ahd at this ⊢
          omega
      · exact absurd (List.mem_singleton.mp z) hne
    · rw [if_neg q]
      refine Or.inr ⟨m', rfl, List.mem_append_left _ a2, a3, fun x hx hw hne => ?_, by rw [List.countP_append, a5]; simp [hp, he]⟩
      rcases List.mem_append.mp hx with z | z
      · exact a4 x z hw hne
      · rw [List.mem_singleton.mp z]
        unfold ahd
        omega
theorem CH.less {g : GS} {pre : List Nat} {m : Nat} {wn al : Int} (h : CH g pre (m : Int) wn al) {p : Nat} (hp : wz g p = true) (hl : cz g p zE < cz g m zE) : CH g (pre ++ [p]) (m : Int) (wn + 1) al := by
  obtain ⟨h1, h2⟩ := h
  refine ⟨by rw [List.countP_append]; simp [hp, h1], ?_⟩
  rcases h2 with ⟨a1, -⟩ | ⟨m', a1, a2, a3, a4, a5⟩
  · omega
  · have : m' = m := by omega
    subst this
    have hne' : ¬ cz g p zE = cz g m' zE := by omega
    refine Or.inr ⟨m', rfl, List.mem_append_left _ a2, a3, fun x hx hw hne => ?_, by rw [List.countP_append, a5]; simp [hne']⟩
    rcases List.mem_append.mp hx with z | z
    · exact a4 x z hw hne
    · rw [List.mem_singleton.mp z]
      exact Or.inl hl
theorem CH.end {g : GS} {tl : List Nat} {b wn al : Int} (h : CH g tl b wn al) (hd : tl.Nodup) (h1 : ∀ x ∈ tl, x < 4356) (h2 : ∀ p : Nat, p < 4356 → wz g p = true → p ∈ tl) : b = bestP g ∧ wn = worthN g ∧ (b = -1 → al = 0) ∧ ∀ m : Nat, b = (m : Int) → al = alikeN g (cz g m zE) := by
  obtain ⟨k1, k2⟩ := h
  refine ⟨?_, by rw [k1]; exact countP_sT zP tl hd (by rw [zP_eq]; exact h1) (by rw [zP_eq]; exact h2), ?_, ?_⟩
  · rcases k2 with ⟨a1, a2, a3⟩ | ⟨m, a1, a2, a3, a4, a5⟩
    · rw [a1, bestP_none]
      intro q hq
      cases e : wz g q with
      | false => rfl
      | true => rw [← e]; exact a3 q (h2 q hq e)
    · rw [a1, bestP_of ⟨h1 m a2, a3, fun q hq hw hne => a4 q (h2 q hq hw) hw hne⟩]
  · intro e
    rcases k2 with ⟨-, a2, -⟩ | ⟨m, a1, -⟩
    · exact a2
    · omega
  · intro m e
    rcases k2 with ⟨a1, -⟩ | ⟨m', a1, a2, a3, a4, a5⟩
    · omega
    · have : m' = m := by omega
      subst this
      rw [a5]
      exact countP_sT zP tl hd (by rw [zP_eq]; exact h1) (by rw [zP_eq]; exact fun p hp z => h2 p hp (by simp at z; exact z.1))
section CHOOSE
variable {I : Mem} {t : Nat} {g : GS}
theorem p_countOf (h : PTr I t g) {p : Nat} (hp : p < 4356) : f_PT_countOf (p : Int) I = some (cz g p zE, I) := by
  unfold f_PT_countOf
  rw [w32_of (by omega) (by omega), if_neg (by omega), if_pos (by omega), if_pos (by omega), Int.toNat_natCast, (h.1.1 p hp).1]
theorem p_keptOf (h : PTr I t g) {p : Nat} (hp : p < 4356) : f_PT_keptOf (p : Int) I = some (kz g p 40, I) := by
  unfold f_PT_keptOf
  rw [w32_of (by omega) (by omega), if_neg (by omega), if_pos (by omega), if_pos (by omega), Int.toNat_natCast, (h.1.1 p hp).2.1]
theorem p_isWorth (h : PTr I t g) (w : WF g) {p : Nat} (hp : p < 4356) : f_PT_isWorth (p : Int) I = some (bI (wz g p = true), I) := by
  have hk : -1 ≤ kz g p 40 ∧ kz g p 40 ≤ 100 := (h.1.2.2 p hp).2
  have hc := cz_rng g p zE
  have hz := zE_eq
  have h' := h
  obtain ⟨-, h5, h6, hG⟩ := h
  have hn := w.2.2.2.2.2.1
  have ht := hG.1
  unfold f_PT_isWorth
  rw [p_keptOf h' hp, bnd_some, w32_of (x := kz g p 40) (by omega) (by omega), h5, h6]
  by_cases q : kz g p 40 = -1
  · rw [if_pos q]
    by_cases q2 : gFree g = -1
    · rw [if_pos (wb_neg (fun z => z q2)), bI_neg]
      unfold wz; simp [q, q2]
    · have e4 := g_number hG (j := 0) (by omega)
      rw [if_neg (wb_pos q2), if_neg (by omega), p_countOf h' hp, bnd_some, h5, if_pos (by omega), Int.toNat_natCast]
      rw [show (4 : Int) = 4 + ((0 : Nat) : Int) from rfl, e4, bnd_some, w32_of (x := cz g p zE) (by omega) (by omega), w32_of (x := gN g 0) (by omega) (by omega)]
      by_cases q3 : cz g p zE < gN g 0
      · rw [if_pos q3, bI_neg]
        unfold wz; simp [q]; intro; omega
      · rw [if_neg q3, bI_pos]
        unfold wz; simp [q, q2]; omega
  · rw [if_neg q, p_countOf h' hp, bnd_some, w32_of (x := cz g p zE) (by omega) (by omega)]
    by_cases q3 : 0 < cz g p zE
    · rw [if_pos q3, bI_pos]
      unfold wz; simp [q, q3]
    · rw [if_neg q3, bI_neg]
      unfold wz; simp [q]; omega
theorem idv_nat (p : Nat) (hp : p < 1000000) : idv (p : Int) 66 = ((p / 66 : Nat) : Int) := by
  unfold idv
  rw [w32_of (by omega) (by omega), w32_of (by omega) (by omega), Int.tdiv_eq_ediv_of_nonneg (by omega)]
  omega
theorem irm_nat (p : Nat) (hp : p < 1000000) : irm (p : Int) 66 = ((p % 66 : Nat) : Int) := by
  unfold irm
  rw [idv_nat p hp]
  omega
theorem p_isAhead (h : PTr I t g) (w : WF g) {p o : Nat} (hp : p < 4356) (ho : o < 4356) (c1 : cz g p zE ≠ 0) (c2 : cz g o zE ≠ 0) : f_PT_isAheadByTie (p : Int) (o : Int) I = some (bI (ky g o < ky g p), I) := by
  have hp' : I 16 1 p = fz g p zE := (h.1.1 p hp).2.2 c1
  have ho' : I 16 1 o = fz g o zE := (h.1.1 o ho).2.2 c2
  have hz := zE_eq
  obtain ⟨-, h5, h6, hG⟩ := h
  have hn := w.2.2.2.2.2.2.1
  have ht := hG.1
  have e5 := g_number hG (j := 1) (by omega)
  rw [show (4 : Int) + ((1 : Nat) : Int) = 5 from rfl] at e5
  obtain ⟨x, f1, f2, -⟩ := fz_spec c1
  obtain ⟨y, f3, f4, -⟩ := fz_spec c2
  have sp := cz_sym w hp c1
  have so := cz_sym w ho c2
  have l1 := w.sl1 sp.1
  have l2 := w.sl1 sp.2
  have l3 := w.sl1 so.1
  have l4 := w.sl1 so.2
  have plain : ∀ {P : Prop} [Decidable P], (P ↔ p < o) → f_PT_isAheadByTie_j18 (p : Int) (o : Int) I = some (bI P, I) := by
    intro P _ hP
    unfold f_PT_isAheadByTie_j18
    rw [w32_of (by omega) (by omega), w32_of (by omega) (by omega)]
    by_cases q : p < o
    · rw [if_pos (by omega), bI_pos (hP.mpr q)]
    · rw [if_neg (by omega), bI_neg (fun z => q (hP.mp z))]
  unfold f_PT_isAheadByTie
  rw [h5, if_neg (by omega), if_pos (by omega), Int.toNat_natCast, e5, bnd_some, w32_of (x := gN g 1) (by omega) (by omega)]
  by_cases q0 : gN g 1 = 0
  · rw [if_pos q0]
    refine plain ?_
    unfold ky
    rw [if_neg (by omega), if_neg (by omega), if_neg (by omega), if_neg (by omega)]
    omega
  · rw [if_neg q0, h5, if_pos (by omega), Int.toNat_natCast, e5, bnd_some, w32_of (x := gN g 1) (by omega) (by omega)]
    by_cases q1 : gN g 1 = 1
    · rw [if_pos q1, w32_of (x := (p : Int)) (by omega) (by omega), w32_of (x := (o : Int)) (by omega) (by omega), if_pos (by omega), if_pos (by omega), Int.toNat_natCast, Int.toNat_natCast, hp', ho', f1, f3, w32_of (x := (x : Int)) (by omega) (by omega), w32_of (x := (y : Int)) (by omega) (by omega)]
      have e : ky g o < ky g p ↔ (x : Int) < (y : Int) := by
        unfold ky
        rw [if_pos q1, if_pos q1, f1, f3]; omega
      by_cases q : (x : Int) < (y : Int)
      · rw [if_pos q, bI_pos (e.mpr q)]
      · rw [if_neg q, bI_neg (fun z => q (e.mp z))]
    · have q2 : gN g 1 = 2 := by omega
      have e : ky g o < ky g p ↔ gLs g o * 4356 - o < gLs g p * 4356 - p := by
        unfold ky
        rw [if_neg (by omega), if_pos q2, if_neg (by omega), if_pos q2]
      unfold gLs at e
      rw [if_neg q1, h5, if_pos (by omega), Int.toNat_natCast, idv_nat p (by omega), irm_nat p (by omega), idv_nat o (by omega), irm_nat o (by omega), g_lengthOf hG (by omega), bnd_some, h5, if_pos (by omega), Int.toNat_natCast, g_lengthOf hG (by omega), bnd_some, h5, if_pos (by omega), Int.toNat_natCast, g_lengthOf hG (by omega), bnd_some, h5, if_pos (by omega), Int.toNat_natCast, g_lengthOf hG (by omega), bnd_some]
      rw [w32_of (x := (p : Int)) (by omega) (by omega), w32_of (x := (o : Int)) (by omega) (by omega), w32_of (x := sl (gL g) ((p / 66 : Nat) : Int) + sl (gL g) ((p % 66 : Nat) : Int) - sl (gL g) ((o / 66 : Nat) : Int) - sl (gL g) ((o % 66 : Nat) : Int)) (by omega) (by omega)]
      by_cases z : sl (gL g) ((p / 66 : Nat) : Int) + sl (gL g) ((p % 66 : Nat) : Int) - sl (gL g) ((o / 66 : Nat) : Int) - sl (gL g) ((o % 66 : Nat) : Int) = 0
      · rw [if_pos z]
        by_cases q : (p : Int) < (o : Int)
        · rw [if_pos q, bI_pos (e.mpr (by omega))]
        · rw [if_neg q, bI_neg (fun y => q (by have := e.mp y; omega))]
      · rw [if_neg z]
        by_cases q : 0 < sl (gL g) ((p / 66 : Nat) : Int) + sl (gL g) ((p % 66 : Nat) : Int) - sl (gL g) ((o / 66 : Nat) : Int) - sl (gL g) ((o % 66 : Nat) : Int)
        · rw [if_pos q, bI_pos (e.mpr (by omega))]
        · rw [if_neg q, bI_neg (fun y => q (by have := e.mp y; omega))]
abbrev FCH : FP := fun k i s => k = 4 ∧ i = 0 ∧ (s = 7 ∨ s = 8 ∨ s = 9)
theorem PTr.fch {J : Mem} (h : PTr I t g) (f : Fm FCH I J) : PTr J t g := by
  obtain ⟨⟨a, b, d⟩, h5, h6, hG⟩ := h
  refine ⟨⟨fun p hp => ?_, b.fm f (by unfold FCH; omega) (fun j => by unfold FCH; omega), d⟩, by rw [f.at (by decide) (by unfold FCH; omega)]; exact h5, by rw [f.at (by decide) (by unfold FCH; omega)]; exact h6, hG.fpa (f.mono (fun a b c z => Or.inl z.1))⟩
  rw [f.at (by decide) (by unfold FCH; omega), f.at (by decide) (by unfold FCH; omega), f.at (by decide) (by unfold FCH; omega)]
  exact a p hp
theorem t_choose (h : PTr I t g) (w : WF g) : Tr (f_PT_choose I) (fun _ J => PTr J t g ∧ J 4 0 7 = bestP g ∧ J 4 0 8 = worthN g ∧ (bestP g = -1 → J 4 0 9 = 0) ∧ (∀ m : Nat, bestP g = (m : Int) → J 4 0 9 = alikeN g (cz g m zE)) ∧ Fm FCH I J) := by
  have h' := h
  obtain ⟨⟨ha, ⟨tl, k1, k2, k3, k4⟩, hr⟩, h5, h6, hG⟩ := h
  have hlt : ∀ x ∈ tl, x < 4356 := fun x hx => ((k2 x).mp hx).1
  have hlen := nodup_len 4356 tl k1 hlt
  have hall : ∀ p : Nat, p < 4356 → wz g p = true → p ∈ tl := fun p hp z => (k2 p).mpr ⟨hp, Or.inl (wz_cz w z)⟩
  unfold f_PT_choose
  show Tr (bnd (whl f_PT_choose_w17 0 (sI (sI (sI I 4 0 7 (-1)) 4 0 8 0) 4 0 9 0)) (fun _ J62 => some ((), J62))) _
  generalize hM : sI (sI (sI I 4 0 7 (-1)) 4 0 8 0) 4 0 9 0 = M
  have m7 : M 4 0 7 = -1 := by rw [← hM, sI_ne (by omega), sI_ne (by omega), sI_self]
  have m8 : M 4 0 8 = 0 := by rw [← hM, sI_ne (by omega), sI_self]
  have m9 : M 4 0 9 = 0 := by rw [← hM, sI_self]
  have fM : Fm FCH I M := by
    rw [← hM]
    exact ((Fm.sI (by decide) (by omega) (by omega) ⟨rfl, rfl, Or.inl rfl⟩).trans (Fm.sI (by decide) (by omega) (by omega) ⟨rfl, rfl, Or.inr (Or.inl rfl)⟩)).trans (Fm.sI (by decide) (by omega) (by omega) ⟨rfl, rfl, Or.inr (Or.inr rfl)⟩)
  refine tr_call (P := fun _ J => CH g tl (J 4 0 7) (J 4 0 8) (J 4 0 9) ∧ Fm FCH I J) (tr_cnt (fun k => (k : Int)) (fun k J => CH g (tl.take k) (J 4 0 7) (J 4 0 8) (J 4 0 9) ∧ Fm FCH I J) tl.length rfl ⟨?_, fM⟩ ?_ ?_) ?_
  · rw [m7, m8, m9]; exact ⟨rfl, Or.inl ⟨rfl, rfl, fun q hq => absurd hq List.not_mem_nil⟩⟩
  · rintro k J hk ⟨c1, c2⟩
    have hJ := h'.fch c2
    have hmem : tl.getD k 0 ∈ tl := by simp [List.getD_eq_getElem?_getD, hk]
    have hp := hlt _ hmem
    have e3 : J 16 3 k = ((tl.getD k 0 : Nat) : Int) := by rw [c2.at (by decide) (by unfold FCH; omega)]; exact k4 k hk
    have e4 : J 4 0 4 = (tl.length : Int) := by rw [c2.at (by decide) (by unfold FCH; omega)]; exact k3
    have htk : tl.take (k + 1) = tl.take k ++ [tl.getD k 0] := by
      rw [List.take_add_one]
      simp [List.getD_eq_getElem?_getD, hk]
    have hnot : tl.getD k 0 ∉ tl.take k := by
      have hnd := k1.sublist (List.take_sublist (k + 1) tl)
      rw [htk, List.nodup_append] at hnd
      intro hm
      exact hnd.2.2 _ hm _ (by simp) rfl
    generalize tl.getD k 0 = p at *
    unfold f_PT_choose_w17
    rw [w32_of (x := (k : Int)) (by omega) (by omega), e4, w32_of (x := (tl.length : Int)) (by omega) (by omega), if_pos (by omega), if_pos (by omega), Int.toNat_natCast, e3, p_isWorth hJ w hp, bnd_some]
    rw [htk]
    by_cases qw : wz g p = true
    · rw [if_neg (wb_pos qw)]
      have cp0 := wz_cz w qw
      have hcp := cz_rng g p zE
      have hz := zE_eq
      have hsI : ∀ (s' : Nat) (v : Int), sI J 4 0 8 v 16 0 s' = J 16 0 s' := fun s' v => sI_ne (by omega)
      show Tr (if w32 (sI J 4 0 8 (J 4 0 8 + 1) 4 0 7) = -1 then f_PT_choose_j79 (k : Int) (p : Int) (sI J 4 0 8 (J 4 0 8 + 1)) else _) _
      have f8 : Fm FCH J (sI J 4 0 8 (J 4 0 8 + 1)) := Fm.sI (by decide) (by omega) (by omega) ⟨rfl, rfl, Or.inr (Or.inl rfl)⟩
      generalize hK : sI J 4 0 8 (J 4 0 8 + 1) = K at f8 ⊢
      have n7 : K 4 0 7 = J 4 0 7 := by rw [← hK, sI_ne (by omega)]
      have n8 : K 4 0 8 = J 4 0 8 + 1 := by rw [← hK, sI_self]
      have n9 : K 4 0 9 = J 4 0 9 := by rw [← hK, sI_ne (by omega)]
      have hKr := hJ.fch f8
      have take : CH g (tl.take k ++ [p]) (p : Int) (J 4 0 8 + 1) 1 → Tr (f_PT_choose_j79 (k : Int) (p : Int) K) (LQ (fun s' J' => s' = ((k + 1 : Nat) : Int) ∧ CH g (tl.take k ++ [p]) (J' 4 0 7) (J' 4 0 8) (J' 4 0 9) ∧ Fm FCH I J') (fun _ J => CH g tl (J 4 0 7) (J 4 0 8) (J 4 0 9) ∧ Fm FCH I J)) := by
        intro hc
        unfold f_PT_choose_j79
        refine tr_ret ⟨rfl, ?_, (c2.trans f8).trans ((Fm.sI (by decide) (by omega) (by omega) ⟨rfl, rfl, Or.inl rfl⟩).trans (Fm.sI (by decide) (by omega) (by omega) ⟨rfl, rfl, Or.inr (Or.inr rfl)⟩))⟩
        rw [sI_ne (by omega), sI_self, sI_ne (by omega), sI_ne (by omega), sI_self, n8]
        exact hc
      rw [n7]
      have c1' := c1
      rcases c1.2 with ⟨a1, -⟩ | ⟨m, a1, a2, a3, -⟩
      · rw [a1, if_pos (by decide)]
        rw [a1] at c1
        exact take (c1.first qw)
      · have hm4 := hlt m (List.take_subset k tl a2)
        have cm0 := wz_cz w a3
        have hcm := cz_rng g m zE
        rw [a1] at c1 ⊢
        rw [w32_of (x := (m : Int)) (by omega) (by omega), if_neg (by omega), w32_of (x := (p : Int)) (by omega) (by omega), if_pos (by omega), if_pos (by omega), Int.toNat_natCast, Int.toNat_natCast, show K 16 0 p = cz g p zE from (hKr.1.1 p hp).1, show K 16 0 m = cz g m zE from (hKr.1.1 m hm4).1, w32_of (x := cz g p zE) (by omega) (by omega), w32_of (x := cz g m zE) (by omega) (by omega)]
        by_cases g1 : cz g m zE < cz g p zE
        · rw [if_pos g1]; exact take (c1.more qw g1)
        · rw [if_neg g1]
          by_cases g2 : cz g p zE = cz g m zE
          · rw [if_pos g2]
            have f9 : Fm FCH K (sI K 4 0 9 (K 4 0 9 + 1)) := Fm.sI (by decide) (by omega) (by omega) ⟨rfl, rfl, Or.inr (Or.inr rfl)⟩
            show Tr (bnd (f_PT_isAheadByTie (p : Int) (sI K 4 0 9 (K 4 0 9 + 1) 4 0 7) (sI K 4 0 9 (K 4 0 9 + 1))) _) _
            generalize hL : sI K 4 0 9 (K 4 0 9 + 1) = L at f9 ⊢
            have o7 : L 4 0 7 = (m : Int) := by rw [← hL, sI_ne (by omega), n7, a1]
            have o8 : L 4 0 8 = J 4 0 8 + 1 := by rw [← hL, sI_ne (by omega), n8]
            have o9 : L 4 0 9 = J 4 0 9 + 1 := by rw [← hL, sI_self, n9]
            rw [o7, p_isAhead (hKr.fch f9) w hp hm4 cp0 cm0, bnd_some]
            have hne : p ≠ m := fun e => hnot (by rw [e]; exact a2)
            have c3 := c1.same qw g2 (ky_ne w hp hm4 hne cp0 cm0)
            by_cases g3 : ky g m < ky g p
            · rw [if_neg (wb_pos g3)]
              rw [if_pos g3] at c3
              refine tr_ret ⟨rfl, ?_, ((c2.trans f8).trans f9).trans (Fm.sI (by decide) (by omega) (by omega) ⟨rfl, rfl, Or.inl rfl⟩)⟩
              rw [sI_self, sI_ne (by omega), sI_ne (by omega), o8, o9]
              exact c3
            · rw [if_pos (wb_neg g3)]
              rw [if_neg g3] at c3
              refine tr_ret ⟨rfl, ?_, ((c2.trans f8).trans f9).trans (Fm.sI (by decide) (by omega) (by omega) ⟨rfl, rfl, Or.inl rfl⟩)⟩
              rw [sI_self, sI_ne (by omega), sI_ne (by omega), o7, o8, o9]
              exact c3
          · rw [if_neg g2]
            refine tr_ret ⟨rfl, ?_, c2.trans f8⟩
            rw [n7, n8, n9, a1]
            exact c1.less qw (by omega)
    · have qf : wz g p = false := eq_false_of_ne_true qw
      rw [if_pos (wb_neg qw)]
      exact tr_ret ⟨rfl, c1.skip qf, c2⟩
  · rintro J ⟨c1, c2⟩
    have e4 : J 4 0 4 = (tl.length : Int) := by rw [c2.at (by decide) (by unfold FCH; omega)]; exact k3
    unfold f_PT_choose_w17
    rw [w32_of (x := (tl.length : Int)) (by omega) (by omega), e4, w32_of (x := (tl.length : Int)) (by omega) (by omega), if_neg (by omega)]
    rw [List.take_length] at c1
    exact tr_ret ⟨c1, c2⟩
  rintro _ J ⟨c1, c2⟩
  obtain ⟨e1, e2, e3, e4⟩ := c1.end k1 hlt hall
  refine tr_ret ⟨h'.fch c2, e1, e2, fun z => e3 (by rw [e1]; exact z), fun m z => e4 m (by rw [e1]; exact z), c2⟩
/-- the table behind a reading -/
def PTd (J : Mem) (t : Nat) (g : GS) : Prop := PTr J t g ∧ J 4 0 7 = bestP g ∧ J 4 0 8 = worthN g ∧ (bestP g = -1 → J 4 0 9 = 0) ∧ (∀ m : Nat, bestP g = (m : Int) → J 4 0 9 = alikeN g (cz g m zE))
def PTi (I : Mem) : Prop := ∃ c kf pl : Nat → Int, PTp I c kf pl
theorem t_readFrom (h : GC I t g) (w : WF g) (hp : PTi I) : Tr (f_PT_readFrom t I) (fun _ J => PTd J t g ∧ PTi J ∧ GC J t g ∧ Fm FPA I J) := by
  obtain ⟨c, kf, pl, hp⟩ := hp
  refine t_readFrom0 h (fun i hi => w.sy hi) hp (fun K k1 k2 => tr_mono (t_choose k1 w) ?_)
  rintro _ J ⟨j1, j2, j3, j4, j5, j6⟩
  exact ⟨⟨j1, j2, j3, j4, j5⟩, ⟨_, _, _, j1.1⟩, j1.2.2.2, k2.trans (j6.mono (fun a b c z => Or.inl z.1))⟩
end CHOOSE
