/-! ===== the class's grammar: a pair becomes a rule, a rule dissolves ===== -/
def gJR (g : GS) (a b s : Int) : Nat → List Int := fun i => if i ≠ 0 ∧ gR g i = [a, b] then gR g i else joinL a b s (gR g i)
def gPl (g : GS) (a b : Int) : Nat → Int := fun i => if i ≠ 0 ∧ gR g i = [a, b] then 0 else (jcnt a b (gR g i) : Int)
def gPlaces (g : GS) (a b : Int) : Int := sT (gPl g a b) 41
/-- the pair becomes the rule's symbol; the rule is there -/
def gJoinK (g : GS) (a b : Int) (r : Nat) : GS := (gJR g a b (26 + (r : Int)), gT g, gL g, up (gA g) 5 (gA g 5 + gPlaces g a b), gN g)
/-- the same, and the rule is new -/
def gJoinN (g : GS) (a b : Int) (r : Nat) : GS := (up (gJR g a b (26 + (r : Int))) (r + 1) [a, b], gT g, up (gL g) r (sl (gL g) a + sl (gL g) b), up (up (gA g) 5 (gA g 5 + gPlaces g a b)) 1 (gA g 1 + 1), gN g)
def gRule (g : GS) (a b : Int) : Int := if gKept g a b = -1 then gFree g else gKept g a b
def gJoin (g : GS) (a b : Int) : GS := if gRule g a b = -1 then g else if gKept g a b = -1 then gJoinN g a b (gRule g a b).toNat else gJoinK g a b (gRule g a b).toNat
theorem gRule_rng (g : GS) (a b : Int) : gRule g a b = -1 ∨ ∃ r : Nat, r < 40 ∧ gRule g a b = (r : Int) := by
  unfold gRule
  by_cases h : gKept g a b = -1
  · rw [if_pos h]
    by_cases k : gFree g = -1
    · exact Or.inl k
    · obtain ⟨j, h1, h2, h3, -⟩ := fF_some k
      exact Or.inr ⟨j, by omega, h1⟩
  · rw [if_neg h]
    obtain ⟨j, h1, h2, h3, -⟩ := fF_some h
    exact Or.inr ⟨j, by omega, h1⟩
theorem gFree_spec {g : GS} {r : Nat} (h : gFree g = (r : Int)) : r < 40 ∧ gR g (r + 1) = [] := by
  obtain ⟨j, h1, h2, h3, h4, -⟩ := fF_some (p := fun r => decide (gR g (r + 1) = [])) (n := 40) (k := 0) (by show gFree g ≠ -1; omega)
  have : j = r := by
    have h1 : gFree g = (j : Int) := h1
    omega
  subst this
  exact ⟨by omega, by simpa using h4⟩
theorem gKept_spec {g : GS} {a b : Int} {r : Nat} (h : gKept g a b = (r : Int)) : r < 40 ∧ gR g (r + 1) = [a, b] := by
  obtain ⟨j, h1, h2, h3, h4, -⟩ := fF_some (p := fun r => decide (gR g (r + 1) = [a, b])) (n := 40) (k := 0) (by show gKept g a b ≠ -1; omega)
  have : j = r := by
    have h1 : gKept g a b = (j : Int) := h1
    omega
  subst this
  exact ⟨by omega, by simpa using h4⟩
theorem jcnt_le (a b : Int) (l : List Int) : jcnt a b l ≤ l.length := by
  have := joinL_len (a := a) (b := b) (s := 0) l
  omega
theorem gPl_rng {g : GS} {a b : Int} {i : Nat} (hi : (gR g i).length ≤ 400) : 0 ≤ gPl g a b i ∧ gPl g a b i ≤ 400 := by
  have := jcnt_le a b (gR g i)
  unfold gPl
  split <;> omega
theorem sT_rng {f : Nat → Int} {c : Int} : ∀ {n : Nat}, (∀ k : Nat, k < n → 0 ≤ f k ∧ f k ≤ c) → 0 ≤ sT f n ∧ sT f n ≤ c * n
  | 0, _ => by simp [sT]
  | n + 1, h => by
    have h1 := sT_rng (n := n) (fun k hk => h k (by omega))
    have h2 := h n (by omega)
    show 0 ≤ sT f n + f n ∧ sT f n + f n ≤ c * ((n + 1 : Nat) : Int)
    rw [Int.natCast_add, Int.mul_add]
    simp
    omega
section GJOIN
variable {I : Mem} {t : Nat} {g : GS}
theorem t_gjoin0 (h : GC I t g) (w : ∀ i : Nat, i < 41 → SY (gR g i)) {a b : Int} (ha : 0 ≤ a ∧ a < 66) (hb : 0 ≤ b ∧ b < 66) {r : Nat} (hr : r < 40) (hk : gRule g a b = (r : Int)) : Tr (f_G_join_j20 t a b (gKept g a b) (r : Int) I) (fun x J => x = gRule g a b ∧ GC J t (gJoin g a b) ∧ Fm (FG t) I J) := by
  have ht := h.1
  have hrow := fun i (hi : i < 41) => (h.2.1 i hi).len
  have hKr : -1 ≤ gKept g a b ∧ gKept g a b < 40 := by
    by_cases q : gKept g a b = -1
    · omega
    · obtain ⟨j, h1, h2, h3, -⟩ := fF_some q
      have h1 : gKept g a b = (j : Int) := h1
      omega
  unfold f_G_join_j20
  rw [w32_of (x := (r : Int)) (by omega) (by omega), if_neg (by omega)]
  have e0 := h.2.1 0 (by omega)
  rw [rix_0] at e0
  refine tr_call (t_join e0 (w 0 (by omega)) ha hb (s := 26 + (r : Int))) ?_
  rintro x0 J1 ⟨rfl, r1, f1⟩
  rw [← rix_0] at r1 f1
  have h1 := h.row (i := 0) (by omega) r1 f1
  refine tr_call (P := fun x J => x = gPlaces g a b ∧ GC J t (gJR g a b (26 + (r : Int)), gT g, gL g, gA g, gN g) ∧ Fm (FG t) I J) (tr_cnt (fun k => (sT (gPl g a b) (k + 1), (k : Int))) (fun k J => GC J t (fun i => if i ≤ k then gJR g a b (26 + (r : Int)) i else gR g i, gT g, gL g, gA g, gN g) ∧ Fm (FG t) I J) 40 ?_ ⟨h1.congr (fun i _ => ?_) rfl (fun _ _ => rfl) (fun _ _ => rfl) (fun _ _ => rfl), f1.mono (FR_FG (by omega))⟩ ?_ ?_) ?_
  · refine Prod.ext ?_ rfl
    show (jcnt a b (gR g 0) : Int) = 0 + gPl g a b 0
    unfold gPl
    rw [if_neg (by simp), Int.zero_add]
  · show (if i ≤ 0 then gJR g a b (26 + (r : Int)) i else gR g i) = up (gR g) 0 (joinL a b (26 + (r : Int)) (gR g 0)) i
    by_cases e : i = 0
    · subst e; rw [if_pos (Nat.le_refl _), up_self]; unfold gJR; rw [if_neg (by simp)]
    · rw [if_neg (by omega), up_ne e]
  · rintro k J hk2 ⟨hG, hF⟩
    have hrk := hG.2.1 (k + 1) (by omega)
    have hke : (fun i => if i ≤ k then gJR g a b (26 + (r : Int)) i else gR g i) (k + 1) = gR g (k + 1) := if_neg (by omega)
    rw [show gR ((fun i => if i ≤ k then gJR g a b (26 + (r : Int)) i else gR g i, gT g, gL g, gA g, gN g) : GS) (k + 1) = gR g (k + 1) from hke] at hrk
    have hsy := w (k + 1) (by omega)
    unfold f_G_join_w49
    dsimp only
    rw [w32_of (x := (k : Int)) (by omega) (by omega), if_pos (by omega), if_pos (by omega), Int.toNat_natCast, ← rix_s, row_isPair hrk hsy ha hb, bnd_some]
    by_cases e : gR g (k + 1) = [a, b]
    · rw [if_neg (wb_pos e)]
      have hp : gPl g a b (k + 1) = 0 := if_pos ⟨by omega, e⟩
      refine tr_ret ⟨?_, hG.congr (fun i _ => ?_) rfl (fun _ _ => rfl) (fun _ _ => rfl) (fun _ _ => rfl), hF⟩
      · show (sT (gPl g a b) (k + 1), (k : Int) + 1) = (sT (gPl g a b) (k + 1) + gPl g a b (k + 1), ((k + 1 : Nat) : Int))
        rw [hp, Int.add_zero]; rfl
      · show (if i ≤ k + 1 then gJR g a b (26 + (r : Int)) i else gR g i) = (if i ≤ k then gJR g a b (26 + (r : Int)) i else gR g i)
        by_cases e2 : i = k + 1
        · subst e2
          rw [if_pos (Nat.le_refl _), if_neg (by omega)]
          exact if_pos ⟨by omega, e⟩
        · by_cases e3 : i ≤ k
          · rw [if_pos e3, if_pos (by omega)]
          · rw [if_neg e3, if_neg (by omega)]
    · rw [if_pos (wb_neg e)]
      have hp : gPl g a b (k + 1) = (jcnt a b (gR g (k + 1)) : Int) := if_neg (fun q => e q.2)
      have hj : gJR g a b (26 + (r : Int)) (k + 1) = joinL a b (26 + (r : Int)) (gR g (k + 1)) := if_neg (fun q => e q.2)
      refine tr_call (t_join hrk hsy ha hb (s := 26 + (r : Int))) ?_
      rintro x K ⟨rfl, r2, f2⟩
      refine tr_ret ⟨?_, (hG.row (by omega) r2 f2).congr (fun i _ => ?_) rfl (fun _ _ => rfl) (fun _ _ => rfl) (fun _ _ => rfl), hF.trans (f2.mono (FR_FG (by omega)))⟩
      · show (sT (gPl g a b) (k + 1) + _, (k : Int) + 1) = (sT (gPl g a b) (k + 1) + gPl g a b (k + 1), ((k + 1 : Nat) : Int))
        rw [hp]; rfl
      · show (if i ≤ k + 1 then gJR g a b (26 + (r : Int)) i else gR g i) = up (fun i => if i ≤ k then gJR g a b (26 + (r : Int)) i else gR g i) (k + 1) (joinL a b (26 + (r : Int)) (gR g (k + 1))) i
        by_cases e2 : i = k + 1
        · subst e2; rw [if_pos (Nat.le_refl _), up_self]; exact hj
        · rw [up_ne e2]
          by_cases e3 : i ≤ k
          · rw [if_pos e3, if_pos (by omega)]
          · rw [if_neg e3, if_neg (by omega)]
  · rintro J ⟨hG, hF⟩
    unfold f_G_join_w49
    dsimp only
    rw [if_neg (by decide)]
    refine tr_ret ⟨rfl, hG.congr (fun i hi => ?_) rfl (fun _ _ => rfl) (fun _ _ => rfl) (fun _ _ => rfl), hF⟩
    show gJR g a b (26 + (r : Int)) i = (if i ≤ 40 then gJR g a b (26 + (r : Int)) i else gR g i)
    rw [if_pos (by omega)]
  rintro x J2 ⟨rfl, h2, f2⟩
  refine tr_call (t_addTo h2 (j := 5) (by decide) (gPlaces g a b)) ?_
  rintro _ J3 ⟨h3, f3⟩
  have F3 := f2.trans f3
  rw [w32_of (x := gKept g a b) (by omega) (by omega)]
  by_cases hkk : gKept g a b = -1
  · have hfree : gFree g = (r : Int) := by rw [← hk]; unfold gRule; rw [if_pos hkk]
    have hfr := (gFree_spec hfree).2
    have hz : gR ((gJR g a b (26 + (r : Int)), gT g, gL g, up (gA g) 5 (gA g 5 + gPlaces g a b), gN g) : GS) (r + 1) = [] := by
      show gJR g a b (26 + (r : Int)) (r + 1) = []
      unfold gJR; rw [hfr, if_neg (by simp)]; rfl
    rw [if_pos hkk, if_pos (by omega), Int.toNat_natCast, ← rix_s]
    have q1 := h3.2.1 (r + 1) (by omega)
    have q1 : RW J3 (rix t (r + 1)) [] := by rw [← hz]; exact q1
    refine tr_call (t_put q1 (by decide) a) ?_
    rintro _ J4 ⟨r4, f4⟩
    have h4 := h3.row (by omega) r4 f4
    refine tr_call (t_put r4 (by simp) b) ?_
    rintro _ J5 ⟨r5, f5⟩
    have h5 := h4.row (by omega) r5 f5
    have F5 := F3.trans ((f4.mono (FR_FG (by omega))).trans (f5.mono (FR_FG (by omega))))
    rw [g_lengthOf h5 ha, bnd_some, g_lengthOf h5 hb, bnd_some]
    have h6 := h5.len (v := sl (gL g) a + sl (gL g) b) hr
    refine tr_call (t_addTo h6 (j := 1) (by decide) 1) ?_
    rintro _ J7 ⟨h7, f7⟩
    refine tr_ret ⟨hk.symm, h7.congr (fun i _ => ?_) ?_ (fun i _ => ?_) (fun i _ => ?_) (fun i _ => ?_), F5.trans (((sI_14 (by decide)).mono (FX_FG (by decide))).trans f7)⟩
    · unfold gJoin
      rw [hk, if_neg (by omega), if_pos hkk, Int.toNat_natCast]
      show up (gJR g a b (26 + (r : Int))) (r + 1) [a, b] i = up (up (gJR g a b (26 + (r : Int))) (r + 1) ([] ++ [a])) (r + 1) ([] ++ [a] ++ [b]) i
      by_cases e : i = r + 1
      · subst e; rw [up_self, up_self]; rfl
      · rw [up_ne e, up_ne e, up_ne e]
    · unfold gJoin
      rw [hk, if_neg (by omega), if_pos hkk, Int.toNat_natCast]; rfl
    · unfold gJoin
      rw [hk, if_neg (by omega), if_pos hkk, Int.toNat_natCast]; rfl
    · unfold gJoin
      rw [hk, if_neg (by omega), if_pos hkk, Int.toNat_natCast]; rfl
    · unfold gJoin
      rw [hk, if_neg (by omega), if_pos hkk, Int.toNat_natCast]; rfl
  · rw [if_neg hkk]
    refine tr_ret ⟨hk.symm, ?_, F3⟩
    unfold gJoin
    rw [hk, if_neg (by omega), if_neg hkk, Int.toNat_natCast]
    exact h3
theorem t_gjoin (h : GC I t g) (w : ∀ i : Nat, i < 41 → SY (gR g i)) {a b : Int} (ha : 0 ≤ a ∧ a < 66) (hb : 0 ≤ b ∧ b < 66) : Tr (f_G_join t a b I) (fun x J => x = gRule g a b ∧ GC J t (gJoin g a b) ∧ Fm (FG t) I J) := by
  have hKr : -1 ≤ gKept g a b ∧ gKept g a b < 40 := by
    by_cases q : gKept g a b = -1
    · omega
    · obtain ⟨j, h1, h2, h3, -⟩ := fF_some q
      have h1 : gKept g a b = (j : Int) := h1
      omega
  unfold f_G_join
  rw [if_pos h.1, g_keptOf h w ha hb, bnd_some, w32_of (x := gKept g a b) (by omega) (by omega)]
  rcases gRule_rng g a b with hr | ⟨r, hr, hk⟩
  · have hk0 : gKept g a b = -1 := by
      unfold gRule at hr
      by_cases q : gKept g a b = -1
      · exact q
      · rw [if_neg q] at hr; exact hr
    have hf : gFree g = -1 := by unfold gRule at hr; rw [if_pos hk0] at hr; exact hr
    rw [if_pos hk0, g_lowestFree h, bnd_some, hf]
    unfold f_G_join_j20
    rw [if_pos (by decide)]
    refine tr_ret ⟨hr.symm, ?_, Fm.refl _ _⟩
    unfold gJoin
    rw [if_pos hr]
    exact h
  · have key := t_gjoin0 h w ha hb hr hk
    by_cases q : gKept g a b = -1
    · have e : gFree g = (r : Int) := by rw [← hk]; unfold gRule; rw [if_pos q]
      rw [if_pos q, g_lowestFree h, bnd_some, e]
      exact key
    · have e : gKept g a b = (r : Int) := by rw [← hk]; unfold gRule; rw [if_neg q]
      rw [if_neg q]
      rw [e] at key ⊢
      exact key
end GJOIN
def gDis (g : GS) (r : Nat) (c : Nat) : GS := (fun i => if i = r + 1 then [] else openL (26 + (r : Int)) (gR g (r + 1)) (gR g i), gT g, up (gL g) r 0, up (gA g) c (gA g c + 1), gN g)
theorem t_open0 {I : Mem} {r : Nat} {l : List Int} {r2 : Nat} {b : List Int} (h : RW I r l) (k : RW I r2 b) (hs : SY l) {s : Int} (h0 : 0 ≤ s ∧ s < 66) (hc : l.count s = 0) : f_Row_open r s r2 I = some (0, I) := by
  unfold f_Row_open
  rw [if_pos h.1, if_pos k.1, row_timesOf h hs (by omega), bnd_some, hc, if_pos (by decide)]
/-- every body's symbols unfold to fewer letters than it -/
theorem WF.not_in {g : GS} (w : WF g) {r : Nat} (hr : r < 40) (hn : gR g (r + 1) ≠ []) : (gR g (r + 1)).count (26 + (r : Int)) = 0 := by
  obtain ⟨h2, hL, -, h1⟩ := w.2.1 r hr hn
  rw [List.count_eq_zero]
  intro hm
  have hs : sl (gL g) (26 + (r : Int)) = gL g r := by
    unfold sl
    rw [if_neg (by omega)]
    congr 1
    omega
  obtain ⟨l1, l2, e⟩ := List.append_of_mem hm
  have hge : ∀ x ∈ gR g (r + 1), 1 ≤ sl (gL g) x := fun x hx => (w.sl1' (by omega) hx).1
  rw [e] at h2 hL hge
  rw [ll_app, ll_cons, hs] at hL
  have g1 := ll_ge (L := gL g) (l := l1) (fun x hx => hge x (by simp [hx]))
  have g2 := ll_ge (L := gL g) (l := l2) (fun x hx => hge x (by simp [hx]))
  simp at h2
  omega
theorem ll_openL {L : Nat → Int} {s : Int} {b : List Int} (h : sl L s = ll L b) : ∀ l : List Int, ll L (openL s b l) = ll L l := by
  intro l
  induction l with
  | nil => rfl
  | cons x l ih =>
    rw [openL_cons, ll_app, ih, ll_cons]
    by_cases e : x = s
    · rw [if_pos e, e, h]
    · rw [if_neg e, ll_cons, ll_nil, Int.add_zero]
theorem openL_mem {s x : Int} {b l : List Int} (h : x ∈ openL s b l) : x ∈ b ∧ s ∈ l ∨ (x ∈ l ∧ x ≠ s) := by
  unfold openL at h
  rw [List.mem_flatMap] at h
  obtain ⟨y, hy, hx⟩ := h
  by_cases e : y = s
  · rw [if_pos e] at hx; exact Or.inl ⟨hx, by rw [← e]; exact hy⟩
  · rw [if_neg e, List.mem_singleton] at hx; exact Or.inr ⟨by rw [hx]; exact hy, by rw [hx]; exact e⟩
theorem WF.sl_rule {g : GS} {r : Nat} : sl (gL g) (26 + (r : Int)) = gL g r := by
  unfold sl
  rw [if_neg (by omega)]
  congr 1
  omega
theorem WF.open_len {g : GS} (w : WF g) {r i : Nat} (hr : r < 40) (hi : i < 41) (hn : gR g (r + 1) ≠ []) : (openL (26 + (r : Int)) (gR g (r + 1)) (gR g i)).length ≤ 400 := by
  have h1 : sl (gL g) (26 + (r : Int)) = ll (gL g) (gR g (r + 1)) := by rw [WF.sl_rule]; exact (w.2.1 r hr hn).2.1
  have h2 := ll_openL h1 (gR g i)
  have h3 := ll_ge (L := gL g) (l := openL (26 + (r : Int)) (gR g (r + 1)) (gR g i)) (fun x hx => by
    rcases openL_mem hx with q | q
    · exact (w.sl1' (by omega) q.1).1
    · exact (w.sl1' hi q.1).1)
  have h4 := (w.lle hi).2
  omega
theorem t_dissolve {I : Mem} {t : Nat} {g : GS} (h : GC I t g) (w : WF g) {r : Nat} (hr : r < 40) (hn : gR g (r + 1) ≠ []) {c : Nat} (hc : c < 9) : Tr (f_G_dissolve t (r : Int) (c : Int) I) (fun x J => x = gUses g r ∧ GC J t (gDis g r c) ∧ Fm (FG t) I J) := by
  have ht := h.1
  have hnr := w.not_in hr hn
  have hb1 : 1 ≤ (gR g (r + 1)).length := List.length_pos_iff.mpr hn
  have hb := h.2.1 (r + 1) (by omega)
  have h0 := h.2.1 0 (by omega)
  have hrx : rix t (r + 1) ≠ rix t 0 := fun e => by have := rix_inj e; omega
  unfold f_G_dissolve
  rw [if_pos ht, g_body ht hr, bnd_some, if_pos (rix_lt ht (by omega)), ← rix_0]
  refine tr_call (t_open h0 hb hrx (w.sy (by omega)) (s := 26 + (r : Int)) (by omega) hb1 (w.open_len hr (by omega) hn)) ?_
  rintro x J1 ⟨rfl, r1, f1⟩
  have h1 := h.row (i := 0) (by omega) r1 f1
  have hbody : ∀ {J : Mem}, Fm (fun k i _ => (k = 2 ∨ k = 12) ∧ 43 * t ≤ i ∧ i < 43 * t + 43 ∧ i ≠ rix t (r + 1)) I J → RW J (rix t (r + 1)) (gR g (r + 1)) := fun f => hb.fm f (fun k s hk q => q.2.2.2 rfl)
  refine tr_call (P := fun x J => x = gUses g r ∧ GC J t (fun i => openL (26 + (r : Int)) (gR g (r + 1)) (gR g i), gT g, gL g, gA g, gN g) ∧ Fm (FG t) I J) (tr_cnt (fun k => (sT (fun i => ((gR g i).count (26 + (r : Int)) : Int)) (k + 1), (k : Int))) (fun k J => GC J t (fun i => if i ≤ k then openL (26 + (r : Int)) (gR g (r + 1)) (gR g i) else gR g i, gT g, gL g, gA g, gN g) ∧ RW J (rix t (r + 1)) (gR g (r + 1)) ∧ Fm (FG t) I J) 40 ?_ ⟨h1.congr (fun i _ => ?_) rfl (fun _ _ => rfl) (fun _ _ => rfl) (fun _ _ => rfl), hb.fm f1 (fun k s hk q => hrx q.2), f1.mono (FR_FG (by omega))⟩ ?_ ?_) ?_
  · refine Prod.ext ?_ rfl
    show ((gR g 0).count (26 + (r : Int)) : Int) = 0 + ((gR g 0).count (26 + (r : Int)) : Int)
    rw [Int.zero_add]
  · show (if i ≤ 0 then openL (26 + (r : Int)) (gR g (r + 1)) (gR g i) else gR g i) = up (gR g) 0 (openL (26 + (r : Int)) (gR g (r + 1)) (gR g 0)) i
    by_cases e : i = 0
    · subst e; rw [if_pos (Nat.le_refl _), up_self]
    · rw [if_neg (by omega), up_ne e]
  · rintro k J hk ⟨hG, hB, hF⟩
    have hrk := hG.2.1 (k + 1) (by omega)
    have hke : (fun i => if i ≤ k then openL (26 + (r : Int)) (gR g (r + 1)) (gR g i) else gR g i) (k + 1) = gR g (k + 1) := if_neg (by omega)
    rw [show gR ((fun i => if i ≤ k then openL (26 + (r : Int)) (gR g (r + 1)) (gR g i) else gR g i, gT g, gL g, gA g, gN g) : GS) (k + 1) = gR g (k + 1) from hke] at hrk
    have hsy := w.sy (i := k + 1) (by omega)
    unfold f_G_dissolve_w27
    dsimp only
    rw [w32_of (x := (k : Int)) (by omega) (by omega), if_pos (by omega), if_pos (by omega), Int.toNat_natCast, ← rix_s]
    have fin : ∀ i : Nat, (i = k + 1 → (if i ≤ k then openL (26 + (r : Int)) (gR g (r + 1)) (gR g i) else gR g i) = openL (26 + (r : Int)) (gR g (r + 1)) (gR g i)) → (if i ≤ k + 1 then openL (26 + (r : Int)) (gR g (r + 1)) (gR g i) else gR g i) = (if i ≤ k then openL (26 + (r : Int)) (gR g (r + 1)) (gR g i) else gR g i) := by
      intro i hq
      by_cases e2 : i = k + 1
      · rw [hq e2, if_pos (by omega)]
      · by_cases e3 : i ≤ k
        · rw [if_pos e3, if_pos (by omega)]
        · rw [if_neg e3, if_neg (by omega)]
    by_cases e : k = r
    · subst e
      rw [t_open0 hrk hB hsy (by omega) hnr, bnd_some]
      refine tr_ret ⟨?_, hG.congr (fun i _ => fin i (fun q => ?_)) rfl (fun _ _ => rfl) (fun _ _ => rfl) (fun _ _ => rfl), hB, hF⟩
      · show (sT _ (k + 1) + 0, (k : Int) + 1) = (sT _ (k + 1) + ((gR g (k + 1)).count (26 + (k : Int)) : Int), ((k + 1 : Nat) : Int))
        rw [hnr]; rfl
      · subst q
        rw [if_neg (by omega), openL_none hnr]
    · have hrx2 : rix t (r + 1) ≠ rix t (k + 1) := fun q => by have := rix_inj q; omega
      refine tr_call (t_open hrk hB hrx2 hsy (s := 26 + (r : Int)) (by omega) hb1 (w.open_len hr (by omega) hn)) ?_
      rintro x K ⟨rfl, r2, f2⟩
      refine tr_ret ⟨rfl, (hG.row (by omega) r2 f2).congr (fun i _ => ?_) rfl (fun _ _ => rfl) (fun _ _ => rfl) (fun _ _ => rfl), hB.fm f2 (fun a s ha q => hrx2 q.2), hF.trans (f2.mono (FR_FG (by omega)))⟩
      show (if i ≤ k + 1 then openL (26 + (r : Int)) (gR g (r + 1)) (gR g i) else gR g i) = up (fun i => if i ≤ k then openL (26 + (r : Int)) (gR g (r + 1)) (gR g i) else gR g i) (k + 1) (openL (26 + (r : Int)) (gR g (r + 1)) (gR g (k + 1))) i
      by_cases e2 : i = k + 1
      · subst e2; rw [if_pos (Nat.le_refl _), up_self]
      · rw [up_ne e2]
        exact fin i (fun q => absurd q e2)
  · rintro J ⟨hG, hB, hF⟩
    unfold f_G_dissolve_w27
    dsimp only
    rw [if_neg (by decide)]
    refine tr_ret ⟨rfl, hG.congr (fun i hi => ?_) rfl (fun _ _ => rfl) (fun _ _ => rfl) (fun _ _ => rfl), hF⟩
    show _ = (if i ≤ 40 then openL (26 + (r : Int)) (gR g (r + 1)) (gR g i) else gR g i)
    rw [if_pos (by omega)]
  rintro x J2 ⟨rfl, h2, f2⟩
  refine tr_call (t_clear (h2.2.1 (r + 1) (by omega))) ?_
  rintro _ J3 ⟨r3, f3⟩
  have h3 := h2.row (by omega) r3 f3
  refine tr_call (t_putLength h3 hr 0) ?_
  rintro _ J4 ⟨h4, f4⟩
  refine tr_call (t_addTo h4 hc 1) ?_
  rintro _ J5 ⟨h5, f5⟩
  refine tr_ret ⟨rfl, h5.congr (fun i _ => ?_) rfl (fun _ _ => rfl) (fun _ _ => rfl) (fun _ _ => rfl), f2.trans ((f3.mono (FR_FG (by omega))).trans (f4.trans f5))⟩
  show (if i = r + 1 then [] else openL (26 + (r : Int)) (gR g (r + 1)) (gR g i)) = up (fun i => openL (26 + (r : Int)) (gR g (r + 1)) (gR g i)) (r + 1) [] i
  by_cases e : i = r + 1
  · subst e; rw [if_pos rfl, up_self]
  · rw [if_neg e, up_ne e]
