/-! ===== what is found is what a join takes; steps; the class makes steps ===== -/
def cf (a b : Int) : Bool → List Int → Int
  | _, [] => 0
  | _, [_] => 0
  | tk, x :: y :: l => (if ¬ (x = y ∧ tk = true) ∧ x = a ∧ y = b then 1 else 0) + cf a b (decide (x = y) && !tk) (y :: l)
theorem cf_cons (a b : Int) (tk : Bool) (x y : Int) (l : List Int) : cf a b tk (x :: y :: l) = (if ¬ (x = y ∧ tk = true) ∧ x = a ∧ y = b then 1 else 0) + cf a b (decide (x = y) && !tk) (y :: l) := by cases tk <;> rfl
theorem cf_nil (a b : Int) (tk : Bool) : cf a b tk [] = 0 := by cases tk <;> rfl
theorem cf_one (a b : Int) (tk : Bool) (x : Int) : cf a b tk [x] = 0 := by cases tk <;> rfl
theorem cf_ne {a b : Int} (h : a ≠ b) : ∀ (l : List Int) (tk : Bool), cf a b tk l = (jcnt a b l : Int)
  | [], tk => by rw [cf_nil]; rfl
  | [x], tk => by rw [cf_one]; rfl
  | x :: y :: l, tk => by
    rw [cf_cons, cf_ne h (y :: l), jcnt]
    by_cases q : x = a ∧ y = b
    · have hxy : x ≠ y := by rw [q.1, q.2]; exact h
      rw [if_pos ⟨fun z => hxy z.1, q.1, q.2⟩, if_pos q]
      have : jcnt a b (y :: l) = jcnt a b l := by
        cases l with
        | nil => rfl
        | cons z l => rw [jcnt, if_neg (fun e => h (by rw [← e.1, q.2]))]
      rw [this]
      omega
    · rw [if_neg (fun z => q z.2), if_neg q]
      omega
theorem cf_t2 (a : Int) (l : List Int) : cf a a true (a :: l) = cf a a false l := by
  cases l with
  | nil => rw [cf_one, cf_nil]
  | cons z l =>
    rw [cf_cons, if_neg (fun e => e.1 ⟨e.2.2.symm, rfl⟩)]
    simp
theorem cf_t3 {a : Int} : ∀ (l : List Int) (y : Int), y ≠ a → cf a a true (y :: l) = cf a a false (y :: l)
  | [], y, _ => by rw [cf_one, cf_one]
  | z :: l, y, hy => by
    rw [cf_cons, cf_cons, if_neg (fun e => hy e.2.1), if_neg (fun e => hy e.2.1)]
    by_cases e : y = z
    · have h1 := cf_t3 l z (by rw [← e]; exact hy)
      simp [e, h1]
    · simp [e]
theorem cf_eq {a : Int} : ∀ (l : List Int), cf a a false l = (jcnt a a l : Int)
  | [] => by rw [cf_nil]; rfl
  | [x] => by rw [cf_one]; rfl
  | x :: y :: l => by
    rw [cf_cons, jcnt]
    by_cases q : x = a ∧ y = a
    · rw [if_pos ⟨by simp, q.1, q.2⟩, if_pos q, q.1, q.2]
      have h1 := cf_eq (a := a) l
      have h2 := cf_t2 a l
      simp only [decide_true, Bool.not_false, Bool.and_true]
      rw [h2, h1]
      omega
    · rw [if_neg (fun z => q z.2), if_neg q, ← cf_eq (a := a) (y :: l)]
      by_cases e : x = y
      · have hy : y ≠ a := fun z => q ⟨by rw [e, z], z⟩
        have h3 := cf_t3 l y hy
        simp [e, h3]
      · simp [e]
theorem cf_jcnt (a b : Int) (l : List Int) : cf a b false l = (jcnt a b l : Int) := by
  by_cases h : a = b
  · subst h; exact cf_eq l
  · exact cf_ne h l false
def tkk (l : List Int) : Nat → Bool
  | 0 => false
  | k + 1 => decide (l.getD k (-1) = l.getD (k + 1) (-1)) && nt l k
theorem nt_tkk (l : List Int) (k : Nat) : nt l k = !(decide (l.getD k (-1) = l.getD (k + 1) (-1)) && tkk l k) := by
  cases k with
  | zero => simp [nt, tkk]
  | succ k => rfl
theorem cf_sum (a b : Int) (l : List Int) : ∀ k : Nat, k ≤ l.length - 1 → sT (fun j => bI (nt l j = true ∧ l.getD j (-1) = a ∧ l.getD (j + 1) (-1) = b)) k + cf a b (tkk l k) (l.drop k) = cf a b false l
  | 0, _ => by simp [sT, tkk]
  | k + 1, h => by
    have ih := cf_sum a b l k (by omega)
    rw [← ih, drop_at (d := -1) (show k < l.length by omega), drop_at (d := -1) (show k + 1 < l.length by omega), cf_cons]
    show sT _ k + bI _ + _ = _
    have e1 : tkk l (k + 1) = (decide (l.getD k (-1) = l.getD (k + 1) (-1)) && !tkk l k) := by
      show (decide (l.getD k (-1) = l.getD (k + 1) (-1)) && nt l k) = _
      rw [nt_tkk]
      cases decide (l.getD k (-1) = l.getD (k + 1) (-1)) <;> simp
    have e2 : bI (nt l k = true ∧ l.getD k (-1) = a ∧ l.getD (k + 1) (-1) = b) = if ¬ (l.getD k (-1) = l.getD (k + 1) (-1) ∧ tkk l k = true) ∧ l.getD k (-1) = a ∧ l.getD (k + 1) (-1) = b then 1 else 0 := by
      have e3 : nt l k = true ↔ ¬ (l.getD k (-1) = l.getD (k + 1) (-1) ∧ tkk l k = true) := by
        rw [nt_tkk]
        simp only [Bool.not_eq_true', Bool.and_eq_false_iff, decide_eq_false_iff_not, not_and, Bool.not_eq_true]
        constructor
        · rintro (z | z) e
          · exact absurd e z
          · exact z
        · intro z
          by_cases e : l.getD k (-1) = l.getD (k + 1) (-1)
          · exact Or.inr (z e)
          · exact Or.inl e
      unfold bI
      by_cases q : nt l k = true ∧ l.getD k (-1) = a ∧ l.getD (k + 1) (-1) = b
      · rw [if_pos q, if_pos ⟨e3.mp q.1, q.2⟩]
      · rw [if_neg q, if_neg (fun z => q ⟨e3.mpr z.1, z.2⟩)]
    rw [e1, e2]
    omega
theorem nt_jcnt (a b : Int) (l : List Int) : sT (fun j => bI (nt l j = true ∧ l.getD j (-1) = a ∧ l.getD (j + 1) (-1) = b)) (l.length - 1) = (jcnt a b l : Int) := by
  have h := cf_sum a b l (l.length - 1) (Nat.le_refl _)
  rw [cf_jcnt] at h
  have : cf a b (tkk l (l.length - 1)) (l.drop (l.length - 1)) = 0 := by
    match l with
    | [] => exact cf_nil ..
    | x :: l =>
      have : ((x :: l).drop ((x :: l).length - 1)).length = 1 := by rw [List.length_drop]; simp
      match hq : (x :: l).drop ((x :: l).length - 1), this with
      | [z], _ => exact cf_one ..
  omega
theorem sT_split (f : Nat → Int) (c : Nat) : ∀ k : Nat, sT f (c + k) = sT f c + sT (fun j => f (c + j)) k
  | 0 => by simp [sT]
  | k + 1 => by
    show sT f (c + k) + f (c + k) = sT f c + (sT (fun j => f (c + j)) k + f (c + k))
    rw [sT_split f c k]
    omega
theorem sT_zero {f : Nat → Int} : ∀ {n : Nat}, (∀ k : Nat, k < n → f k = 0) → sT f n = 0
  | 0, _ => rfl
  | n + 1, h => by
    show sT f n + f n = 0
    rw [sT_zero (fun k hk => h k (by omega)), h n (by omega)]
    rfl
theorem cz_row {g : GS} (w : ∀ i : Nat, i < 41 → SY (gR g i)) (hl : ∀ i : Nat, i < 41 → (gR g i).length ≤ 400) {p i : Nat} (hp : p < 4356) (hi : i < 41) : cz g p (400 * (i + 1)) = cz g p (400 * i) + gPl g ((p / 66 : Nat) : Int) ((p % 66 : Nat) : Int) i := by
  have hli := hl i hi
  have hs := w i hi
  unfold cz
  rw [show 400 * (i + 1) = 400 * i + 400 by omega, sT_split]
  suffices key : sT (fun j => bI (nz g (400 * i + j) = true ∧ pz g (400 * i + j) = (p : Int))) 400 = gPl g ((p / 66 : Nat) : Int) ((p % 66 : Nat) : Int) i by rw [key]
  by_cases al : gAl g i = true
  · rw [sT_zero (fun k hk => by
      rw [nz_at hk, al]
      exact bI_neg (fun z => by simp at z))]
    unfold gAl at al
    have al := of_decide_eq_true al
    unfold gPl
    by_cases e : i ≠ 0 ∧ gR g i = [((p / 66 : Nat) : Int), ((p % 66 : Nat) : Int)]
    · rw [if_pos e]
    · rw [if_neg e]
      match h2 : gR g i, al.2 with
      | [x, y], _ =>
        have : ¬ (x = ((p / 66 : Nat) : Int) ∧ y = ((p % 66 : Nat) : Int)) := fun z => e ⟨al.1, by rw [h2, z.1, z.2]⟩
        rw [jcnt, if_neg this]; rfl
  · have alf : gAl g i = false := eq_false_of_ne_true al
    have e1 : gPl g ((p / 66 : Nat) : Int) ((p % 66 : Nat) : Int) i = (jcnt ((p / 66 : Nat) : Int) ((p % 66 : Nat) : Int) (gR g i) : Int) := by
      unfold gPl
      rw [if_neg]
      rintro ⟨z1, z2⟩
      apply al
      unfold gAl
      simp [z1, z2]
    have sp := sT_split (fun j => bI (nz g (400 * i + j) = true ∧ pz g (400 * i + j) = (p : Int))) ((gR g i).length - 1) (400 - ((gR g i).length - 1))
    rw [show (gR g i).length - 1 + (400 - ((gR g i).length - 1)) = 400 by omega] at sp
    rw [e1, ← nt_jcnt, sp, sT_zero (f := fun j => bI (nz g (400 * i + ((gR g i).length - 1 + j)) = true ∧ pz g (400 * i + ((gR g i).length - 1 + j)) = (p : Int))) (n := 400 - ((gR g i).length - 1)) (fun k hk => by
      rw [nz_at (by omega)]
      exact bI_neg (fun z => by simp at z; omega)), Int.add_zero]
    refine sT_congr (fun k hk => bI_congr ?_)
    have q0 := hs.at (j := k) (by omega)
    have q1 := hs.at (j := k + 1) (by omega)
    rw [nz_at (by omega), pz_at (by omega), alf]
    have : k + 1 < (gR g i).length := by omega
    simp only [this, decide_true, Bool.true_and, Bool.not_false]
    constructor
    · rintro ⟨z1, z2⟩; exact ⟨z1, by omega, by omega⟩
    · rintro ⟨z1, z2, z3⟩; exact ⟨z1, by omega⟩
theorem cz_places {g : GS} (w : ∀ i : Nat, i < 41 → SY (gR g i)) (hl : ∀ i : Nat, i < 41 → (gR g i).length ≤ 400) {p : Nat} (hp : p < 4356) : cz g p zE = gPlaces g ((p / 66 : Nat) : Int) ((p % 66 : Nat) : Int) := by
  have key : ∀ i : Nat, i ≤ 41 → cz g p (400 * i) = sT (gPl g ((p / 66 : Nat) : Int) ((p % 66 : Nat) : Int)) i := by
    intro i
    induction i with
    | zero => intro _; rfl
    | succ i ih =>
      intro hi
      rw [cz_row w hl hp (by omega), ih (by omega)]
      rfl
  rw [zE_eq]
  exact key 41 (Nat.le_refl _)
theorem WF.len400 {g : GS} (w : WF g) : ∀ i : Nat, i < 41 → (gR g i).length ≤ 400 := fun i hi => by
  have := w.lle hi
  omega
/-- a step -/
noncomputable def bA (g : GS) : Int := (((bestP g).toNat / 66 : Nat) : Int)
noncomputable def bB (g : GS) : Int := (((bestP g).toNat % 66 : Nat) : Int)
noncomputable def gSt (g : GS) : GS := gsA (gJoin g (bA g) (bB g)) 0 (gA (gJoin g (bA g) (bB g)) 0 + 1)
noncomputable def stG (g : GS) : GS := if gN g 2 = 1 then (inlG 40 (gSt g)).2 else gSt g
noncomputable def stepsG : Nat → GS → Nat × GS
  | 0, g => (0, g)
  | n + 1, g => if bestP g = -1 then (0, g) else ((stepsG n (stG g)).1 + 1, (stepsG n (stG g)).2)
def mu (g : GS) : Int := 2 * gSize g + 40 - nRules g
theorem mu_nn (g : GS) : 0 ≤ mu g := by
  have h1 := nRules_rng g
  have h2 := sT_le (f := fun _ => 0) (h := fun i => ((gR g i).length : Int)) (n := 41) (fun j _ => by omega)
  have h3 : sT (fun _ => 0) 41 = 0 := sT_zero (fun _ _ => rfl)
  unfold mu gSize
  omega
theorem gN_join (g : GS) (a b : Int) : gN (gJoin g a b) = gN g := by
  unfold gJoin
  split
  · rfl
  · split <;> rfl
theorem WF.acc {g : GS} (w : WF g) (i : Nat) (v : Int) : WF (gsA g i v) := w
theorem best_ok {g : GS} (w : WF g) (h : bestP g ≠ -1) : ∃ p : Nat, bestP g = (p : Int) ∧ p < 4356 ∧ isB g p ∧ bA g = ((p / 66 : Nat) : Int) ∧ bB g = ((p % 66 : Nat) : Int) ∧ gPlaces g (bA g) (bB g) = cz g p zE ∧ cz g p zE ≠ 0 ∧ gKept g (bA g) (bB g) = kz g p 40 ∧ (0 ≤ bA g ∧ bA g < 66) ∧ (0 ≤ bB g ∧ bB g < 66) ∧ gRule g (bA g) (bB g) ≠ -1 := by
  rcases bestP_cases g with z | ⟨p, hp, e⟩
  · exact absurd z h
  · have ea : bA g = ((p / 66 : Nat) : Int) := by unfold bA; rw [e, Int.toNat_natCast]
    have eb : bB g = ((p % 66 : Nat) : Int) := by unfold bB; rw [e, Int.toNat_natCast]
    have h4 := hp.1
    refine ⟨p, e, hp.1, hp, ea, eb, ?_, wz_cz w hp.2.1, ?_, by rw [ea]; omega, by rw [eb]; omega, ?_⟩
    · rw [ea, eb]; exact (cz_places (fun i hi => w.sy hi) w.len400 hp.1).symm
    · rw [ea, eb]; rfl
    · have hk : gKept g (bA g) (bB g) = kz g p 40 := by rw [ea, eb]; rfl
      have hw := hp.2.1
      unfold wz at hw
      have hw := of_decide_eq_true hw
      unfold gRule
      rw [hk]
      rcases hw with z | z
      · rw [if_neg z.1]; exact z.1
      · rw [if_pos z.1]; exact z.2.1
theorem WF.st {g : GS} (w : WF g) (h : bestP g ≠ -1) : WF (gSt g) ∧ mu (gSt g) < mu g := by
  obtain ⟨p, e, h4, hp, ea, eb, hpl, hc, hk, -, -, hr⟩ := best_ok w h
  refine ⟨(w.join (by rw [hpl]; exact hc)).acc _ _, ?_⟩
  rcases gRule_rng g (bA g) (bB g) with z | ⟨r, hr', hk'⟩
  · exact absurd z hr
  · obtain ⟨s1, s2⟩ := size_join hr' hk'
    have e1 : gSize (gSt g) = gSize (gJoin g (bA g) (bB g)) := rfl
    have e2 : nRules (gSt g) = nRules (gJoin g (bA g) (bB g)) := rfl
    have hcr := cz_rng g p zE
    have hw := hp.2.1
    unfold wz at hw
    have hw := of_decide_eq_true hw
    have hn := w.2.2.2.2.2.1
    unfold mu
    rw [e1, e2, s1, s2, hpl, hk]
    by_cases q : kz g p 40 = -1
    · rw [if_pos q, if_pos q]; omega
    · rw [if_neg q, if_neg q]; omega
theorem mu_dis {g : GS} (w : WF g) {r : Nat} (hr : r < 40) (hn : gR g (r + 1) ≠ []) (h2 : gUses g r < 2) (h0 : 0 ≤ gUses g r) (c : Nat) : mu (gDis g r c) < mu g := by
  obtain ⟨s1, s2⟩ := size_dis w hr hn c
  have hl := (w.2.1 r hr hn).1
  unfold mu
  rw [s1, s2]
  have : gUses g r = 0 ∨ gUses g r = 1 := by omega
  rcases this with z | z <;> rw [z] <;> omega
theorem gUses_nn (g : GS) (r : Nat) : 0 ≤ gUses g r := by
  have h2 := sT_le (f := fun _ => 0) (h := fun i => ((gR g i).count (26 + (r : Int)) : Int)) (n := 41) (fun j _ => by omega)
  have h3 : sT (fun _ => 0) 41 = 0 := sT_zero (fun _ _ => rfl)
  unfold gUses
  omega
theorem mu_inl : ∀ (n : Nat) {g : GS}, WF g → mu (inlG n g).2 ≤ mu g ∧ WF (inlG n g).2
  | 0, g, w => ⟨Int.le_refl _, w⟩
  | n + 1, g, w => by
    by_cases q : gLonely g = -1
    · rw [inlG_none q]; exact ⟨Int.le_refl _, w⟩
    · obtain ⟨h1, -, h3, h4⟩ := gLonely_spec q
      rw [inlG_some q]
      obtain ⟨i1, i2⟩ := mu_inl n (w.dis h1 h3 (if 0 < gUses g (gLonely g).toNat then 2 else 3))
      have := mu_dis w h1 h3 h4 (gUses_nn _ _) (if 0 < gUses g (gLonely g).toNat then 2 else 3)
      exact ⟨Int.le_trans i1 (Int.le_of_lt this), i2⟩
theorem WF.stp {g : GS} (w : WF g) (h : bestP g ≠ -1) : WF (stG g) ∧ mu (stG g) < mu g := by
  obtain ⟨h1, h2⟩ := w.st h
  unfold stG
  by_cases q : gN g 2 = 1
  · rw [if_pos q]
    obtain ⟨i1, i2⟩ := mu_inl 40 h1
    exact ⟨i2, by omega⟩
  · rw [if_neg q]; exact ⟨h1, h2⟩
theorem stepsG_none {n : Nat} {g : GS} (h : bestP g = -1) : stepsG n g = (0, g) := by
  cases n with
  | zero => rfl
  | succ n => rw [stepsG, if_pos h]
theorem stepsG_some {n : Nat} {g : GS} (h : bestP g ≠ -1) : stepsG (n + 1) g = ((stepsG n (stG g)).1 + 1, (stepsG n (stG g)).2) := by
  rw [stepsG, if_neg h]
theorem stepsG_wf : ∀ (n : Nat) {g : GS}, WF g → WF (stepsG n g).2
  | 0, g, w => w
  | n + 1, g, w => by
    by_cases q : bestP g = -1
    · rw [stepsG_none q]; exact w
    · rw [stepsG_some q]; exact stepsG_wf n (w.stp q).1
/-- enough steps are enough -/
theorem stepsG_far : ∀ (n m : Nat) {g : GS}, WF g → mu g ≤ n → mu g ≤ m → stepsG n g = stepsG m g ∧ bestP (stepsG n g).2 = -1
  | 0, m, g, w, h, h' => by
    have q : bestP g = -1 := Classical.byContradiction fun q => by
      have h1 := (w.stp q).2
      have h2 := mu_nn (stG g)
      omega
    rw [stepsG_none q, stepsG_none q]
    exact ⟨rfl, q⟩
  | n + 1, m, g, w, h, h' => by
    by_cases q : bestP g = -1
    · rw [stepsG_none q, stepsG_none q]; exact ⟨rfl, q⟩
    · have h1 := (w.stp q).2
      have h2 := mu_nn (stG g)
      obtain ⟨m, rfl⟩ : ∃ k : Nat, m = k + 1 := ⟨m - 1, by omega⟩
      rw [stepsG_some q, stepsG_some q]
      obtain ⟨i1, i2⟩ := stepsG_far n m (w.stp q).1 (by omega) (by omega)
      rw [i1] at i2 ⊢
      exact ⟨rfl, i2⟩
abbrev FST (t : Nat) : FP := fun k i s => FG t k i s ∨ k = 17 ∨ FPA k i s
theorem PTi.fgu {I J : Mem} {t : Nat} (h : PTi I) (f : Fm (FGU t) I J) : PTi J := by
  obtain ⟨c, kf, pl, hp⟩ := h
  exact ⟨c, kf, pl, hp.fm f (fun i s => by unfold FGU FG; omega)⟩
theorem t_makeSteps {I : Mem} {t : Nat} {g : GS} (h : GC I t g) (w : WF g) (hp : PTi I) {most : Nat} (hm : most < 100000000) : Tr (f_Stp_makeSteps t (most : Int) I) (fun x J => x = ((stepsG most g).1 : Int) ∧ GC J t (stepsG most g).2 ∧ WF (stepsG most g).2 ∧ PTi J ∧ Fm (FST t) I J) := by
  have ht := h.1
  unfold f_Stp_makeSteps
  rw [if_pos ht]
  refine tr_whl (fun n s J => ∃ (k : Nat) (g' : GS), n = most - k ∧ k ≤ most ∧ s = (k : Int) ∧ GC J t g' ∧ WF g' ∧ PTi J ∧ (stepsG most g).1 = k + (stepsG (most - k) g').1 ∧ (stepsG most g).2 = (stepsG (most - k) g').2 ∧ Fm (FST t) I J) ?_ most _ _ ⟨0, g, rfl, Nat.zero_le _, rfl, h, w, hp, by rw [Nat.zero_add]; rfl, rfl, Fm.refl _ _⟩
  rintro n s J ⟨k, g', rfl, hk, rfl, hG, hW, hP, e1, e2, hF⟩
  unfold f_Stp_makeSteps_w2
  rw [w32_of (x := (k : Int)) (by omega) (by omega), w32_of (x := (most : Int)) (by omega) (by omega)]
  by_cases q : k < most
  · rw [if_pos (by omega)]
    refine tr_call (t_readFrom hG hW hP) ?_
    rintro _ J1 ⟨d1, d2, d3, d4⟩
    have hb : -1 ≤ bestP g' ∧ bestP g' < 4356 := by
      rcases bestP_cases g' with z | ⟨b, hb, e⟩
      · omega
      · have := hb.1; omega
    have F1 := hF.trans (d4.mono (fun a b c z => Or.inr (Or.inr z)))
    rw [d1.2.1, w32_of (x := bestP g') (by omega) (by omega)]
    by_cases qb : bestP g' = -1
    · rw [if_pos qb]
      rw [stepsG_none qb] at e1 e2
      have e2 : (stepsG most g).2 = g' := e2
      refine tr_ret ?_
      show (k : Int) = _ ∧ GC J1 t (stepsG most g).2 ∧ WF (stepsG most g).2 ∧ _
      rw [e1, e2]
      exact ⟨by omega, d3, hW, d2, F1⟩
    · obtain ⟨p, e, h4, hp, ea, eb, hpl, hc, hkk, ra, rb, hr⟩ := best_ok hW qb
      rw [if_neg qb, e, idv_nat p (by omega), irm_nat p (by omega), ← ea, ← eb]
      have e3 : stepsG (most - k) g' = ((stepsG (most - (k + 1)) (stG g')).1 + 1, (stepsG (most - (k + 1)) (stG g')).2) := by
        rw [show most - k = (most - (k + 1)) + 1 by omega, stepsG_some qb]
      rw [e3] at e1 e2
      refine tr_call (t_gjoin d3 (fun i hi => hW.sy hi) ra rb) ?_
      rintro _ J2 ⟨-, j1, j2⟩
      refine tr_call (t_addTo j1 (j := 0) (by decide) 1) ?_
      rintro _ J3 ⟨j3, j4⟩
      have F3 := F1.trans ((j2.trans j4).mono (fun a b c z => Or.inl z))
      have P3 : PTi J3 := d2.fgu ((j2.trans j4).mono (fun a b c z => Or.inl z))
      have j3 : GC J3 t (gSt g') := j3
      obtain ⟨w1, w2⟩ := hW.st qb
      have hn2 : gN (gSt g') 2 = gN g' 2 := by show gN (gJoin g' (bA g') (bB g')) 2 = _; rw [gN_join]
      have e6 := g_number j3 (j := 2) (by omega)
      rw [show (4 : Int) + ((2 : Nat) : Int) = 6 from rfl, hn2] at e6
      have hnr := hW.2.2.2.2.2.2.2
      rw [e6, bnd_some, w32_of (x := gN g' 2) (by omega) (by omega)]
      by_cases qi : gN g' 2 = 1
      · have es : stG g' = (inlG 40 (gSt g')).2 := by unfold stG; rw [if_pos qi]
        rw [if_pos qi]
        refine tr_call (t_inlineAll j3 w1) ?_
        rintro _ J4 ⟨-, i1, i2, i3⟩
        rw [← es] at i1 i2
        exact tr_ret ⟨most - (k + 1), by omega, k + 1, stG g', rfl, by omega, rfl, i1, i2, P3.fgu i3, by rw [e1]; omega, e2, F3.trans (i3.mono (fun a b c z => by rcases z with z | z; exact Or.inl z; exact Or.inr (Or.inl z)))⟩
      · have es : stG g' = gSt g' := by unfold stG; rw [if_neg qi]
        rw [if_neg qi]
        exact tr_ret ⟨most - (k + 1), by omega, k + 1, stG g', rfl, by omega, rfl, by rw [es]; exact j3, by rw [es]; exact w1, P3, by rw [e1]; omega, e2, F3⟩
  · rw [if_neg (by omega)]
    have hk : k = most := by omega
    subst hk
    rw [Nat.sub_self] at e1 e2
    have e1 : (stepsG k g).1 = k := e1
    have e2 : (stepsG k g).2 = g' := e2
    refine tr_ret ?_
    show (k : Int) = _ ∧ GC J t (stepsG k g).2 ∧ WF (stepsG k g).2 ∧ _
    rw [e1, e2]
    exact ⟨rfl, hG, hW, hP, hF⟩
