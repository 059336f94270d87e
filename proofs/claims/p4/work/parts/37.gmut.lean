/-! ===== the class's grammar: writing ===== -/
def up {α : Type} (f : Nat → α) (k : Nat) (v : α) : Nat → α := fun j => if j = k then v else f j
theorem up_self {α : Type} (f : Nat → α) (k : Nat) (v : α) : up f k v k = v := if_pos rfl
theorem up_ne {α : Type} {f : Nat → α} {k : Nat} {v : α} {j : Nat} (h : j ≠ k) : up f k v j = f j := if_neg h
def gsR (g : GS) (i : Nat) (l : List Int) : GS := (up (gR g) i l, gT g, gL g, gA g, gN g)
def gsT (g : GS) (l : List Int) : GS := (gR g, l, gL g, gA g, gN g)
def gsL (g : GS) (i : Nat) (v : Int) : GS := (gR g, gT g, up (gL g) i v, gA g, gN g)
def gsA (g : GS) (i : Nat) (v : Int) : GS := (gR g, gT g, gL g, up (gA g) i v, gN g)
def gsN (g : GS) (i : Nat) (v : Int) : GS := (gR g, gT g, gL g, gA g, up (gN g) i v)
theorem FR_FG {t i : Nat} (hi : i < 41) : ∀ a b c : Nat, FR (rix t i) a b c → FG t a b c := fun a b c q => Or.inl ⟨q.1, by have := rix_in t hi; rw [q.2]; omega, by have := rix_in t hi; rw [q.2]; omega⟩
theorem FR_FG1 {t : Nat} : ∀ a b c : Nat, FR (43 * t + 1) a b c → FG t a b c := fun a b c q => Or.inl ⟨q.1, by rw [q.2]; omega, by rw [q.2]; omega⟩
theorem GC.congr {I : Mem} {t : Nat} {g g' : GS} (h : GC I t g) (h1 : ∀ i : Nat, i < 41 → gR g' i = gR g i) (h2 : gT g' = gT g) (h3 : ∀ i : Nat, i < 40 → gL g' i = gL g i) (h4 : ∀ i : Nat, i < 9 → gA g' i = gA g i) (h5 : ∀ i : Nat, i < 4 → gN g' i = gN g i) : GC I t g' := by
  obtain ⟨ht, k1, k2, k3, k4, k5, k6, k7, k8, k9⟩ := h
  refine ⟨ht, fun i hi => by rw [h1 i hi]; exact k1 i hi, by rw [h2]; exact k2, k3, fun i hi => by rw [h3 i hi]; exact k4 i hi, fun i hi => by rw [h4 i hi]; exact k5 i hi, by rw [h5 0 (by decide)]; exact k6, by rw [h5 1 (by decide)]; exact k7, by rw [h5 2 (by decide)]; exact k8, by rw [h5 3 (by decide)]; exact k9⟩
theorem GC.row {I J : Mem} {t i : Nat} {g : GS} {l : List Int} (h : GC I t g) (hi : i < 41) (hr : RW J (rix t i) l) (f : Fm (FR (rix t i)) I J) : GC J t (gsR g i l) := by
  obtain ⟨ht, k1, k2, k3, k4, k5, k6, k7, k8, k9⟩ := h
  have hx := rix_in t hi
  refine ⟨ht, fun j hj => ?_, k2.fm f (fun k s hk q => hx.2.2.1 q.2.symm), k3.fm f (fun k s hk q => hx.2.2.2 q.2.symm), fun j hj => ?_, fun j hj => ?_, ?_, ?_, ?_, ?_⟩
  · by_cases e : j = i
    · subst e; show RW J (rix t j) (up (gR g) j l j); rw [up_self]; exact hr
    · show RW J (rix t j) (up (gR g) i l j); rw [up_ne e]
      exact (k1 j hj).fm f (fun k s hk q => e (rix_inj q.2))
  · rw [f.at (by decide) (fun q => by rcases q.1 with h | h <;> omega)]; exact k4 j hj
  · rw [f.at (by decide) (fun q => by rcases q.1 with h | h <;> omega)]; exact k5 j hj
  · rw [f.at (by decide) (fun q => by rcases q.1 with h | h <;> omega)]; exact k6
  · rw [f.at (by decide) (fun q => by rcases q.1 with h | h <;> omega)]; exact k7
  · rw [f.at (by decide) (fun q => by rcases q.1 with h | h <;> omega)]; exact k8
  · rw [f.at (by decide) (fun q => by rcases q.1 with h | h <;> omega)]; exact k9
theorem GC.told {I J : Mem} {t : Nat} {g : GS} {l : List Int} (h : GC I t g) (hr : RW J (43 * t + 1) l) (f : Fm (FR (43 * t + 1)) I J) : GC J t (gsT g l) := by
  obtain ⟨ht, k1, k2, k3, k4, k5, k6, k7, k8, k9⟩ := h
  refine ⟨ht, fun j hj => (k1 j hj).fm f (fun k s hk q => (rix_in t hj).2.2.1 q.2), hr, k3.fm f (fun k s hk q => by have := q.2; omega), fun j hj => ?_, fun j hj => ?_, ?_, ?_, ?_, ?_⟩
  · rw [f.at (by decide) (fun q => by rcases q.1 with h | h <;> omega)]; exact k4 j hj
  · rw [f.at (by decide) (fun q => by rcases q.1 with h | h <;> omega)]; exact k5 j hj
  · rw [f.at (by decide) (fun q => by rcases q.1 with h | h <;> omega)]; exact k6
  · rw [f.at (by decide) (fun q => by rcases q.1 with h | h <;> omega)]; exact k7
  · rw [f.at (by decide) (fun q => by rcases q.1 with h | h <;> omega)]; exact k8
  · rw [f.at (by decide) (fun q => by rcases q.1 with h | h <;> omega)]; exact k9
theorem sI_14 {I : Mem} {t k i : Nat} {v : Int} (hk : k = 1 ∨ k = 14 ∨ k = 15) : Fm (fun a b c => a = k ∧ b = t ∧ c = i) I (sI I k t i v) := Fm.sI (by omega) (by omega) (by omega) ⟨rfl, rfl, rfl⟩
theorem FX_FG {t k i : Nat} (hk : k = 1 ∨ k = 14 ∨ k = 15) : ∀ a b c : Nat, (a = k ∧ b = t ∧ c = i) → FG t a b c := fun a b c q => Or.inr ⟨by omega, q.2.1⟩
theorem GC.len {I : Mem} {t i : Nat} {g : GS} {v : Int} (h : GC I t g) (hi : i < 40) : GC (sI I 14 t i v) t (gsL g i v) := by
  have f := sI_14 (I := I) (t := t) (k := 14) (i := i) (v := v) (by decide)
  obtain ⟨ht, k1, k2, k3, k4, k5, k6, k7, k8, k9⟩ := h
  refine ⟨ht, fun j hj => (k1 j hj).fm f (fun k s hk q => by omega), k2.fm f (fun k s hk q => by omega), k3.fm f (fun k s hk q => by omega), fun j hj => ?_, fun j hj => ?_, ?_, ?_, ?_, ?_⟩
  · show sI I 14 t i v 14 t j = up (gL g) i v j
    by_cases e : j = i
    · subst e; rw [sI_self, up_self]
    · rw [sI_ne (fun q => e q.2.2), up_ne e]; exact k4 j hj
  · rw [sI_ne (fun q => absurd q.1 (by decide))]; exact k5 j hj
  · rw [sI_ne (fun q => absurd q.1 (by decide))]; exact k6
  · rw [sI_ne (fun q => absurd q.1 (by decide))]; exact k7
  · rw [sI_ne (fun q => absurd q.1 (by decide))]; exact k8
  · rw [sI_ne (fun q => absurd q.1 (by decide))]; exact k9
theorem GC.acc {I : Mem} {t i : Nat} {g : GS} {v : Int} (h : GC I t g) (hi : i < 9) : GC (sI I 15 t i v) t (gsA g i v) := by
  have f := sI_14 (I := I) (t := t) (k := 15) (i := i) (v := v) (by decide)
  obtain ⟨ht, k1, k2, k3, k4, k5, k6, k7, k8, k9⟩ := h
  refine ⟨ht, fun j hj => (k1 j hj).fm f (fun k s hk q => by omega), k2.fm f (fun k s hk q => by omega), k3.fm f (fun k s hk q => by omega), fun j hj => ?_, fun j hj => ?_, ?_, ?_, ?_, ?_⟩
  · rw [sI_ne (fun q => absurd q.1 (by decide))]; exact k4 j hj
  · show sI I 15 t i v 15 t j = up (gA g) i v j
    by_cases e : j = i
    · subst e; rw [sI_self, up_self]
    · rw [sI_ne (fun q => e q.2.2), up_ne e]; exact k5 j hj
  · rw [sI_ne (fun q => absurd q.1 (by decide))]; exact k6
  · rw [sI_ne (fun q => absurd q.1 (by decide))]; exact k7
  · rw [sI_ne (fun q => absurd q.1 (by decide))]; exact k8
  · rw [sI_ne (fun q => absurd q.1 (by decide))]; exact k9
theorem GC.num {I : Mem} {t i : Nat} {g : GS} {v : Int} (h : GC I t g) (hi : i < 4) : GC (sI I 1 t (6 + i) v) t (gsN g i v) := by
  have f := sI_14 (I := I) (t := t) (k := 1) (i := 6 + i) (v := v) (by decide)
  obtain ⟨ht, k1, k2, k3, k4, k5, k6, k7, k8, k9⟩ := h
  refine ⟨ht, fun j hj => (k1 j hj).fm f (fun k s hk q => by omega), k2.fm f (fun k s hk q => by omega), k3.fm f (fun k s hk q => by omega), fun j hj => ?_, fun j hj => ?_, ?_, ?_, ?_, ?_⟩
  · rw [sI_ne (fun q => absurd q.1 (by decide))]; exact k4 j hj
  · rw [sI_ne (fun q => absurd q.1 (by decide))]; exact k5 j hj
  · show sI I 1 t (6 + i) v 1 t 6 = up (gN g) i v 0
    by_cases e : 0 = i
    · subst e; rw [sI_self, up_self]
    · rw [sI_ne (by omega), up_ne e]; exact k6
  · show sI I 1 t (6 + i) v 1 t 7 = up (gN g) i v 1
    by_cases e : 1 = i
    · subst e; rw [sI_self, up_self]
    · rw [sI_ne (by omega), up_ne e]; exact k7
  · show sI I 1 t (6 + i) v 1 t 8 = up (gN g) i v 2
    by_cases e : 2 = i
    · subst e; rw [sI_self, up_self]
    · rw [sI_ne (by omega), up_ne e]; exact k8
  · show sI I 1 t (6 + i) v 1 t 9 = up (gN g) i v 3
    by_cases e : 3 = i
    · subst e; rw [sI_self, up_self]
    · rw [sI_ne (by omega), up_ne e]; exact k9
section GMUT
variable {I : Mem} {t : Nat} {g : GS}
theorem t_addTo (h : GC I t g) {j : Nat} (hj : j < 9) (v : Int) : Tr (f_G_addTo t (j : Int) v I) (fun _ J => GC J t (gsA g j (gA g j + v)) ∧ Fm (FG t) I J) := by
  unfold f_G_addTo
  rw [if_pos h.1, w32_of (by omega) (by omega), if_neg (by omega), if_pos (by omega), if_pos (by omega), Int.toNat_natCast, h.2.2.2.2.2.1 j hj]
  exact tr_ret ⟨h.acc hj, (sI_14 (by decide)).mono (FX_FG (by decide))⟩
theorem t_putNumber (h : GC I t g) {j : Nat} (hj : j < 3) (v : Int) : Tr (f_G_putNumber t (4 + (j : Int)) v I) (fun _ J => GC J t (gsN g j v) ∧ Fm (FG t) I J) := by
  unfold f_G_putNumber
  rw [if_pos h.1, w32_of (by omega) (by omega)]
  rcases (show j = 0 ∨ j = 1 ∨ j = 2 by omega) with rfl | rfl | rfl
  · rw [if_pos (by decide)]; exact tr_ret ⟨h.num (i := 0) (by decide), (sI_14 (by decide)).mono (FX_FG (by decide))⟩
  · rw [if_neg (by decide), if_pos (by decide)]; exact tr_ret ⟨h.num (i := 1) (by decide), (sI_14 (by decide)).mono (FX_FG (by decide))⟩
  · rw [if_neg (by decide), if_neg (by decide)]; exact tr_ret ⟨h.num (i := 2) (by decide), (sI_14 (by decide)).mono (FX_FG (by decide))⟩
theorem t_putLength (h : GC I t g) {r : Nat} (hr : r < 40) (v : Int) : Tr (f_G_putLength t (r : Int) v I) (fun _ J => GC J t (gsL g r v) ∧ Fm (FG t) I J) := by
  unfold f_G_putLength
  rw [if_pos h.1, w32_of (by omega) (by omega), if_neg (by omega), if_pos (by omega), if_pos (by omega), Int.toNat_natCast]
  exact tr_ret ⟨h.len hr, (sI_14 (by decide)).mono (FX_FG (by decide))⟩
def g0 : GS := (fun _ => [], [], fun _ => 0, fun _ => 0, fun j => if j = 0 then 2 else if j = 2 then 1 else 0)
theorem t_gclear (h : GC I t g) : Tr (f_G_clear t I) (fun _ J => GC J t g0 ∧ Fm (FG t) I J) := by
  have ht := h.1
  unfold f_G_clear
  rw [if_pos ht]
  refine tr_call (t_clear (h.2.1 0 (by omega))) ?_
  rintro _ J1 ⟨r1, f1⟩
  have h1 := h.row (i := 0) (by omega) r1 f1
  refine tr_call (t_clear h1.2.2.1) ?_
  rintro _ J2 ⟨r2, f2⟩
  have h2 := h1.told r2 f2
  have f2 := (f1.mono (FR_FG (t := t) (i := 0) (by omega))).trans (f2.mono FR_FG1)
  refine tr_call (P := fun _ J => GC J t (fun _ => [], [], fun _ => 0, gA g, gN g) ∧ Fm (FG t) I J) (tr_cnt (fun k => (k : Int)) (fun k J => GC J t (fun i => if i ≤ k then [] else gR g i, [], fun i => if i < k then 0 else gL g i, gA g, gN g) ∧ Fm (FG t) I J) 40 rfl ⟨h2.congr (fun i _ => ?_) rfl (fun _ _ => rfl) (fun _ _ => rfl) (fun _ _ => rfl), f2⟩ ?_ ?_) ?_
  · show (if i ≤ 0 then [] else gR g i) = up (gR g) 0 [] i
    by_cases e : i = 0
    · subst e; rw [if_pos (Nat.le_refl _), up_self]
    · rw [if_neg (by omega), up_ne e]
  · rintro k J hk ⟨hG, hF⟩
    unfold f_G_clear_w16
    rw [w32_of (by omega) (by omega), if_pos (by omega), if_pos (by omega), Int.toNat_natCast, ← rix_s]
    refine tr_call (t_clear (hG.2.1 (k + 1) (by omega))) ?_
    rintro _ K ⟨r3, f3⟩
    refine tr_ret ⟨rfl, ((hG.row (by omega) r3 f3).len hk).congr (fun i _ => ?_) rfl (fun i _ => ?_) (fun _ _ => rfl) (fun _ _ => rfl), hF.trans ((f3.mono (FR_FG (by omega))).trans ((sI_14 (by decide)).mono (FX_FG (by decide))))⟩
    · show (if i ≤ k + 1 then [] else gR g i) = up (fun i => if i ≤ k then [] else gR g i) (k + 1) [] i
      by_cases e : i = k + 1
      · subst e; rw [if_pos (Nat.le_refl _), up_self]
      · rw [up_ne e]
        by_cases e2 : i ≤ k
        · rw [if_pos e2, if_pos (by omega)]
        · rw [if_neg e2, if_neg (by omega)]
    · show (if i < k + 1 then 0 else gL g i) = up (fun i => if i < k then 0 else gL g i) k 0 i
      by_cases e : i = k
      · subst e; rw [if_pos (by omega), up_self]
      · rw [up_ne e]
        by_cases e2 : i < k
        · rw [if_pos e2, if_pos (by omega)]
        · rw [if_neg e2, if_neg (by omega)]
  · rintro J ⟨hG, hF⟩
    unfold f_G_clear_w16
    rw [if_neg (by decide)]
    refine tr_ret ⟨hG.congr (fun i hi => ?_) rfl (fun i hi => ?_) (fun _ _ => rfl) (fun _ _ => rfl), hF⟩
    · show [] = (if i ≤ 40 then [] else gR g i); rw [if_pos (by omega)]
    · show 0 = (if i < 40 then 0 else gL g i); rw [if_pos hi]
  rintro _ J3 ⟨h3, f3⟩
  refine tr_call (P := fun _ J => GC J t (fun _ => [], [], fun _ => 0, fun _ => 0, gN g) ∧ Fm (FG t) I J) (tr_cnt (fun k => (k : Int)) (fun k J => GC J t (fun _ => [], [], fun _ => 0, fun i => if i < k then 0 else gA g i, gN g) ∧ Fm (FG t) I J) 9 rfl ⟨h3, f3⟩ ?_ ?_) ?_
  · rintro k J hk ⟨hG, hF⟩
    unfold f_G_clear_w46
    rw [w32_of (by omega) (by omega), if_pos (by omega), if_pos (by omega), Int.toNat_natCast]
    refine tr_ret ⟨rfl, (hG.acc hk).congr (fun _ _ => rfl) rfl (fun _ _ => rfl) (fun i hi => ?_) (fun _ _ => rfl), hF.trans ((sI_14 (by decide)).mono (FX_FG (by decide)))⟩
    show (if i < k + 1 then 0 else gA g i) = up (fun i => if i < k then 0 else gA g i) k 0 i
    by_cases e : i = k
    · subst e; rw [if_pos (by omega), up_self]
    · rw [up_ne e]
      by_cases e2 : i < k
      · rw [if_pos e2, if_pos (by omega)]
      · rw [if_neg e2, if_neg (by omega)]
  · rintro J ⟨hG, hF⟩
    unfold f_G_clear_w46
    rw [if_neg (by decide)]
    refine tr_ret ⟨hG.congr (fun _ _ => rfl) rfl (fun _ _ => rfl) (fun i hi => ?_) (fun _ _ => rfl), hF⟩
    show 0 = (if i < 9 then 0 else gA g i); rw [if_pos hi]
  rintro _ J4 ⟨h4, f4⟩
  refine tr_ret ⟨((((h4.num (i := 0) (v := 2) (by decide)).num (i := 1) (v := 0) (by decide)).num (i := 2) (v := 1) (by decide)).num (i := 3) (v := 0) (by decide)).congr (fun _ _ => rfl) rfl (fun _ _ => rfl) (fun _ _ => rfl) (fun i hi => ?_), f4.trans ((((((sI_14 (by decide)).mono (FX_FG (by decide))).trans ((sI_14 (by decide)).mono (FX_FG (by decide)))).trans ((sI_14 (by decide)).mono (FX_FG (by decide)))).trans ((sI_14 (by decide)).mono (FX_FG (by decide)))))⟩
  rcases (show i = 0 ∨ i = 1 ∨ i = 2 ∨ i = 3 by omega) with rfl | rfl | rfl | rfl <;> rfl
theorem t_gtakeFrom {a : Nat} {g2 : GS} (h : GC I t g) (k : GC I a g2) (hta : t ≠ a) : Tr (f_G_takeFrom t a I) (fun _ J => GC J t g2 ∧ Fm (FG t) I J) := by
  have ht := h.1
  have ha := k.1
  have hFG : ∀ {J : Mem}, Fm (FG t) I J → GC J a g2 := fun f => k.fm f (fun x y z q w => by unfold FG at q w; omega)
  have hne : ∀ {i j : Nat}, i < 41 → j < 41 → rix a i ≠ rix t j := fun hi hj e => by
    have := rix_in a hi
    have := rix_in t hj
    omega
  unfold f_G_takeFrom
  rw [if_pos ht, if_pos ha]
  refine tr_call (t_takeFrom (h.2.1 0 (by omega)) (k.2.1 0 (by omega)) (hne (i := 0) (j := 0) (by omega) (by omega))) ?_
  rintro _ J1 ⟨r1, f1⟩
  have h1 := h.row (i := 0) (by omega) r1 f1
  have F1 := f1.mono (FR_FG (t := t) (i := 0) (by omega))
  refine tr_call (t_takeFrom h1.2.2.1 (hFG F1).2.2.1 (by omega)) ?_
  rintro _ J2 ⟨r2, f2⟩
  have h2 := h1.told r2 f2
  have F2 := F1.trans (f2.mono FR_FG1)
  refine tr_call (P := fun _ J => GC J t (gR g2, gT g2, gL g2, gA g, gN g) ∧ Fm (FG t) I J) (tr_cnt (fun k => (k : Int)) (fun k J => GC J t (fun i => if i ≤ k then gR g2 i else gR g i, gT g2, fun i => if i < k then gL g2 i else gL g i, gA g, gN g) ∧ Fm (FG t) I J) 40 rfl ⟨h2.congr (fun i _ => ?_) rfl (fun _ _ => rfl) (fun _ _ => rfl) (fun _ _ => rfl), F2⟩ ?_ ?_) ?_
  · show (if i ≤ 0 then gR g2 i else gR g i) = up (gR g) 0 (gR g2 0) i
    by_cases e : i = 0
    · subst e; rw [if_pos (Nat.le_refl _), up_self]
    · rw [if_neg (by omega), up_ne e]
  · rintro k J hk ⟨hG, hF⟩
    unfold f_G_takeFrom_w24
    rw [w32_of (by omega) (by omega), if_pos (by omega), if_pos (by omega), Int.toNat_natCast, ← rix_s, ← rix_s]
    refine tr_call (t_takeFrom (hG.2.1 (k + 1) (by omega)) ((hFG hF).2.1 (k + 1) (by omega)) (hne (by omega) (by omega))) ?_
    rintro _ K ⟨r3, f3⟩
    have F3 := hF.trans (f3.mono (FR_FG (t := t) (i := k + 1) (by omega)))
    rw [(hFG F3).2.2.2.2.1 k hk]
    refine tr_ret ⟨rfl, ((hG.row (by omega) r3 f3).len hk).congr (fun i _ => ?_) rfl (fun i _ => ?_) (fun _ _ => rfl) (fun _ _ => rfl), F3.trans ((sI_14 (by decide)).mono (FX_FG (by decide)))⟩
    · show (if i ≤ k + 1 then gR g2 i else gR g i) = up (fun i => if i ≤ k then gR g2 i else gR g i) (k + 1) (gR g2 (k + 1)) i
      by_cases e : i = k + 1
      · subst e; rw [if_pos (Nat.le_refl _), up_self]
      · rw [up_ne e]
        by_cases e2 : i ≤ k
        · rw [if_pos e2, if_pos (by omega)]
        · rw [if_neg e2, if_neg (by omega)]
    · show (if i < k + 1 then gL g2 i else gL g i) = up (fun i => if i < k then gL g2 i else gL g i) k (gL g2 k) i
      by_cases e : i = k
      · subst e; rw [if_pos (by omega), up_self]
      · rw [up_ne e]
        by_cases e2 : i < k
        · rw [if_pos e2, if_pos (by omega)]
        · rw [if_neg e2, if_neg (by omega)]
  · rintro J ⟨hG, hF⟩
    unfold f_G_takeFrom_w24
    rw [if_neg (by decide)]
    refine tr_ret ⟨hG.congr (fun i hi => ?_) rfl (fun i hi => ?_) (fun _ _ => rfl) (fun _ _ => rfl), hF⟩
    · show gR g2 i = (if i ≤ 40 then gR g2 i else gR g i); rw [if_pos (by omega)]
    · show gL g2 i = (if i < 40 then gL g2 i else gL g i); rw [if_pos hi]
  rintro _ J3 ⟨h3, f3⟩
  refine tr_call (P := fun _ J => GC J t (gR g2, gT g2, gL g2, gA g2, gN g) ∧ Fm (FG t) I J) (tr_cnt (fun k => (k : Int)) (fun k J => GC J t (gR g2, gT g2, gL g2, fun i => if i < k then gA g2 i else gA g i, gN g) ∧ Fm (FG t) I J) 9 rfl ⟨h3, f3⟩ ?_ ?_) ?_
  · rintro k J hk ⟨hG, hF⟩
    unfold f_G_takeFrom_w65
    rw [w32_of (by omega) (by omega), if_pos (by omega), if_pos (by omega), Int.toNat_natCast, (hFG hF).2.2.2.2.2.1 k hk]
    refine tr_ret ⟨rfl, (hG.acc hk).congr (fun _ _ => rfl) rfl (fun _ _ => rfl) (fun i hi => ?_) (fun _ _ => rfl), hF.trans ((sI_14 (by decide)).mono (FX_FG (by decide)))⟩
    show (if i < k + 1 then gA g2 i else gA g i) = up (fun i => if i < k then gA g2 i else gA g i) k (gA g2 k) i
    by_cases e : i = k
    · subst e; rw [if_pos (by omega), up_self]
    · rw [up_ne e]
      by_cases e2 : i < k
      · rw [if_pos e2, if_pos (by omega)]
      · rw [if_neg e2, if_neg (by omega)]
  · rintro J ⟨hG, hF⟩
    unfold f_G_takeFrom_w65
    rw [if_neg (by decide)]
    refine tr_ret ⟨hG.congr (fun _ _ => rfl) rfl (fun _ _ => rfl) (fun i hi => ?_) (fun _ _ => rfl), hF⟩
    show gA g2 i = (if i < 9 then gA g2 i else gA g i); rw [if_pos hi]
  rintro _ J4 ⟨h4, f4⟩
  obtain ⟨-, -, -, -, -, -, e6, e7, e8, e9⟩ := hFG f4
  have s1 : ∀ (M : Mem) (s s' : Nat) (v : Int), sI M 1 t s v 1 a s' = M 1 a s' := fun M s s' v => sI_ne (fun q => hta q.2.1.symm)
  refine tr_ret ?_
  simp only [s1, e6, e7, e8, e9]
  refine ⟨((((h4.num (i := 0) (by decide)).num (i := 1) (by decide)).num (i := 2) (by decide)).num (i := 3) (by decide)).congr (fun _ _ => rfl) rfl (fun _ _ => rfl) (fun _ _ => rfl) (fun i hi => ?_), f4.trans ((((((sI_14 (by decide)).mono (FX_FG (by decide))).trans ((sI_14 (by decide)).mono (FX_FG (by decide)))).trans ((sI_14 (by decide)).mono (FX_FG (by decide)))).trans ((sI_14 (by decide)).mono (FX_FG (by decide)))))⟩
  rcases (show i = 0 ∨ i = 1 ∨ i = 2 ∨ i = 3 by omega) with rfl | rfl | rfl | rfl <;> rfl
def gAppend (g : GS) (x : Int) : GS := gsA (gsT (gsR g 0 (gR g 0 ++ [x])) (gT g ++ [x])) 6 (gA g 6 + 1)
theorem t_addLetter (h : GC I t g) (h1 : (gR g 0).length < 400) (h2 : (gT g).length < 400) (x : Int) : Tr (f_G_addLetter t x I) (fun _ J => GC J t (gAppend g x) ∧ Fm (FG t) I J) := by
  unfold f_G_addLetter
  rw [if_pos h.1]
  refine tr_call (t_put (h.2.1 0 (by omega)) h1 x) ?_
  rintro _ J1 ⟨r1, f1⟩
  have k1 := h.row (by omega) r1 f1
  refine tr_call (t_put k1.2.2.1 h2 x) ?_
  rintro _ J2 ⟨r2, f2⟩
  have k2 := k1.told r2 f2
  refine tr_call (t_addTo k2 (j := 6) (by decide) 1) ?_
  rintro _ J3 ⟨k3, f3⟩
  exact tr_ret ⟨k3, ((f1.mono (FR_FG (t := t) (i := 0) (by omega))).trans (f2.mono FR_FG1)).trans f3⟩
end GMUT
