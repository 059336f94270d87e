/-! ===== pairs: the class reads a grammar ===== -/
theorem PTp.congr {I : Mem} {c kf pl c' kf' pl' : Nat → Int} (h : PTp I c kf pl) (h1 : ∀ p : Nat, p < 4356 → c' p = c p) (h2 : ∀ p : Nat, p < 4356 → kf' p = kf p) (h3 : ∀ p : Nat, p < 4356 → c p ≠ 0 → pl' p = pl p) : PTp I c' kf' pl' := by
  obtain ⟨a, b, d⟩ := h
  refine ⟨fun p hp => ?_, b.congr (fun p => ?_), fun p hp => by rw [h1 p hp, h2 p hp]; exact d p hp⟩
  · obtain ⟨a1, a2, a3⟩ := a p hp
    rw [h1 p hp, h2 p hp]
    exact ⟨a1, a2, fun z => by rw [h3 p hp z]; exact a3 z⟩
  · unfold PTs
    constructor
    · rintro ⟨hp, z⟩; rw [h1 p hp, h2 p hp]; exact ⟨hp, z⟩
    · rintro ⟨hp, z⟩; rw [h1 p hp, h2 p hp] at z; exact ⟨hp, z⟩
theorem GC.fpa {I J : Mem} {t : Nat} {g : GS} (h : GC I t g) (f : Fm FPA I J) : GC J t g := h.fm f (fun k i s hk q => by
  rcases q with q | q
  · rcases hk with hk | hk
    · rcases hk.1 with e | e <;> omega
    · rcases hk.1 with e | e | e <;> omega
  · rcases hk with hk | hk
    · rcases hk.1 with e | e <;> omega
    · rcases hk.1 with e | e | e <;> omega)
theorem GC.fpt {I J : Mem} {t : Nat} {g : GS} (h : GC I t g) (f : Fm FPT I J) : GC J t g := h.fpa (f.mono FPT_FPA)
section READ
variable {I : Mem} {t : Nat} {g : GS}
theorem t_noteRow (h : GC I t g) (w : ∀ i : Nat, i < 41 → SY (gR g i)) {i : Nat} (hi : i < 41) (hal : gAl g i = false) {kf : Nat → Int} (hp : PTp I (fun p => cz g p (400 * i)) kf (fun p => fz g p (400 * i))) {v : Int} (hv : v = 400 * (i : Int)) : Tr (f_PT_noteRow (rix t i) v I) (fun _ J => PTp J (fun p => cz g p (400 * (i + 1))) kf (fun p => fz g p (400 * (i + 1))) ∧ Fm FPT I J) := by
  have hr := h.2.1 i hi
  have hl := hr.len
  have hs := w i hi
  unfold f_PT_noteRow
  rw [if_pos hr.1]
  refine tr_call (P := fun _ J => PTp J (fun p => cz g p (400 * (i + 1))) kf (fun p => fz g p (400 * (i + 1))) ∧ Fm FPT I J) (tr_cnt (fun k => (tw (gR g i) k, (k : Int))) (fun k J => PTp J (fun p => cz g p (400 * i + k)) kf (fun p => fz g p (400 * i + k)) ∧ Fm FPT I J) ((gR g i).length - 1) rfl ⟨hp, Fm.refl _ _⟩ ?_ ?_) (fun _ _ q => tr_ret q)
  · rintro k J hk ⟨h1, h2⟩
    have hrJ := (h.fpt h2).2.1 i hi
    have q0 := hs.at (j := k) (by omega)
    have q1 := hs.at (j := k + 1) (by omega)
    have ht := tw_lt (gR g i) k
    have hti := tw_iff (gR g i) k
    have hnz := nz_at (g := g) (i := i) (k := k) (by omega)
    have hpz := pz_at (g := g) (i := i) (k := k) (by omega)
    rw [hal] at hnz
    unfold f_PT_noteRow_w6
    dsimp only
    have e1 : f_Row_at (rix t i) ((k : Int) + 1) J = some ((gR g i).getD (k + 1) (-1), J) := row_at hrJ (j := k + 1) (by omega)
    rw [w32_of (x := (k : Int) + 1) (by omega) (by omega), hrJ.2.1, w32_of (x := ((gR g i).length : Int)) (by omega) (by omega), if_pos (by omega), row_at hrJ (by omega), bnd_some, e1, bnd_some, w32_of (x := (gR g i).getD k (-1)) (by omega) (by omega), w32_of (x := (gR g i).getD (k + 1) (-1)) (by omega) (by omega), w32_of (x := tw (gR g i) k) (by omega) (by omega), w32_of (x := (k : Int) - 1) (by omega) (by omega)]
    have note : nt (gR g i) k = true → ∀ e0 : Int, e0 = tw (gR g i) (k + 1) → Tr (f_PT_noteRow_j66 (rix t i) v (k : Int) ((gR g i).getD k (-1)) ((gR g i).getD (k + 1) (-1)) e0 J) (LQ (fun s' J' => s' = (tw (gR g i) (k + 1), ((k + 1 : Nat) : Int)) ∧ PTp J' (fun p => cz g p (400 * i + (k + 1))) kf (fun p => fz g p (400 * i + (k + 1))) ∧ Fm FPT I J') (fun _ J => PTp J (fun p => cz g p (400 * (i + 1))) kf (fun p => fz g p (400 * (i + 1))) ∧ Fm FPT I J)) := by
      intro hn e0 he0
      have hnz : nz g (400 * i + k) = true := by rw [hnz, hn]; simp; omega
      obtain ⟨p, hpe⟩ : ∃ p : Nat, (p : Int) = (gR g i).getD k (-1) * 66 + (gR g i).getD (k + 1) (-1) := ⟨((gR g i).getD k (-1) * 66 + (gR g i).getD (k + 1) (-1)).toNat, by omega⟩
      have hp4 : p < 4356 := by omega
      have hcb := cz_rng g p (400 * i + k)
      unfold f_PT_noteRow_j66
      rw [p_pairOf q0 q1, bnd_some, ← hpe]
      refine tr_call (t_notePair h1 hp4 (by omega) (v + (k : Int))) ?_
      rintro _ K ⟨k1, k2⟩
      refine tr_ret ⟨by rw [he0]; rfl, k1.congr (fun q hq => ?_) (fun _ _ => rfl) (fun q hq hz => ?_), h2.trans k2⟩
      · rw [show 400 * i + (k + 1) = (400 * i + k) + 1 by omega, cz_succ]
        by_cases e : q = p
        · subst e; rw [up_self, bI_pos ⟨hnz, by rw [hpz]; exact hpe.symm⟩]
        · rw [up_ne e, bI_neg (fun z => e (by have := z.2; omega)), Int.add_zero]
      · rw [show 400 * i + (k + 1) = (400 * i + k) + 1 by omega, fz_succ]
        by_cases e : q = p
        · subst e
          by_cases c0 : cz g q (400 * i + k) = 0
          · rw [if_pos c0, if_pos c0, if_pos ⟨hnz, by rw [hpz]; exact hpe.symm⟩, up_self]; omega
          · rw [if_neg c0, if_neg c0]
        · rw [up_ne e] at hz
          rw [if_neg hz]
          by_cases c0 : cz g p (400 * i + k) = 0
          · rw [if_pos c0, up_ne e]
          · rw [if_neg c0]
    by_cases qe : (gR g i).getD k (-1) = (gR g i).getD (k + 1) (-1)
    · rw [if_pos qe]
      by_cases qt : tw (gR g i) k = (k : Int) - 1
      · rw [if_pos qt]
        have hn := hti.mp ⟨qe, qt⟩
        have hnz : nz g (400 * i + k) = false := by rw [hnz, hn]; simp
        refine tr_ret ⟨?_, h1.congr (fun p _ => ?_) (fun _ _ => rfl) (fun p _ hz => ?_), h2⟩
        · rw [tw_succ, hn, if_neg (by simp)]; rfl
        · exact (cz_ext (g := g) (p := p) (c := 400 * i + k) (c' := 400 * i + (k + 1)) (by omega) (fun x a b => by rw [show x = 400 * i + k by omega]; exact hnz)).1
        · exact (cz_ext (g := g) (p := p) (c := 400 * i + k) (c' := 400 * i + (k + 1)) (by omega) (fun x a b => by rw [show x = 400 * i + k by omega]; exact hnz)).2
      · rw [if_neg qt]
        have hn : nt (gR g i) k = true := by
          cases hb : nt (gR g i) k with
          | true => rfl
          | false => exact absurd (hti.mpr hb).2 qt
        unfold f_PT_noteRow_j53
        rw [w32_of (x := (gR g i).getD k (-1)) (by omega) (by omega), w32_of (x := (gR g i).getD (k + 1) (-1)) (by omega) (by omega), if_pos qe]
        exact note hn _ (by rw [tw_succ, if_pos ⟨qe, hn⟩])
    · rw [if_neg qe]
      have hn : nt (gR g i) k = true := by
        cases hb : nt (gR g i) k with
        | true => rfl
        | false => exact absurd (hti.mpr hb).1 qe
      unfold f_PT_noteRow_j53
      rw [w32_of (x := (gR g i).getD k (-1)) (by omega) (by omega), w32_of (x := (gR g i).getD (k + 1) (-1)) (by omega) (by omega), if_neg qe]
      exact note hn _ (by rw [tw_succ, if_neg (fun z => qe z.1)])
  · rintro J ⟨h1, h2⟩
    have hrJ := (h.fpt h2).2.1 i hi
    unfold f_PT_noteRow_w6
    dsimp only
    rw [w32_of (x := (((gR g i).length - 1 : Nat) : Int) + 1) (by omega) (by omega), hrJ.2.1, w32_of (x := ((gR g i).length : Int)) (by omega) (by omega), if_neg (by omega)]
    have ext := fun p : Nat => cz_ext (g := g) (p := p) (c := 400 * i + ((gR g i).length - 1)) (c' := 400 * (i + 1)) (by omega) (fun x a b => by
      obtain ⟨k, hk, rfl⟩ : ∃ k : Nat, k < 400 ∧ x = 400 * i + k := ⟨x - 400 * i, by omega, by omega⟩
      rw [nz_at hk]
      simp
      intro; omega)
    exact tr_ret ⟨h1.congr (fun p _ => (ext p).1) (fun _ _ => rfl) (fun p _ _ => (ext p).2), h2⟩
/-- how many places and pairs there are: words that are not counted down -/
theorem zE_ex : ∃ n : Nat, n = 16400 := ⟨_, rfl⟩
noncomputable def zE : Nat := Classical.choose zE_ex
theorem zE_eq : zE = 16400 := Classical.choose_spec zE_ex
theorem zP_ex : ∃ n : Nat, n = 4356 := ⟨_, rfl⟩
noncomputable def zP : Nat := Classical.choose zP_ex
theorem zP_eq : zP = 4356 := Classical.choose_spec zP_ex
/-- the table is read up to the choice -/
def PTr (J : Mem) (t : Nat) (g : GS) : Prop := PTp J (fun p => cz g p zE) (fun p => kz g p 40) (fun p => fz g p zE) ∧ J 4 0 5 = (t : Int) ∧ J 4 0 6 = bI (gFree g ≠ -1) ∧ GC J t g
theorem kz_len {g : GS} {p k : Nat} (h : (gR g (k + 1)).length ≠ 2) : kz g p (k + 1) = kz g p k := by
  unfold kz
  rw [fF_snoc]
  have : ¬ gR g (0 + k + 1) = [((p / 66 : Nat) : Int), ((p % 66 : Nat) : Int)] := fun e => h (by rw [Nat.zero_add] at e; rw [e]; rfl)
  by_cases q : fF (fun r => decide (gR g (r + 1) = [((p / 66 : Nat) : Int), ((p % 66 : Nat) : Int)])) k 0 = -1
  · rw [if_pos q, if_neg (by simpa using this), q]
  · rw [if_neg q]
theorem kz_two {g : GS} {p k : Nat} (h : (gR g (k + 1)).length = 2) (hs : SY (gR g (k + 1))) : kz g p (k + 1) = if kz g p k = -1 ∧ (p : Int) = (gR g (k + 1)).getD 0 (-1) * 66 + (gR g (k + 1)).getD 1 (-1) then (k : Int) else kz g p k := by
  have h0 := hs.at (j := 0) (by omega)
  have h1 := hs.at (j := 1) (by omega)
  have key : gR g (k + 1) = [((p / 66 : Nat) : Int), ((p % 66 : Nat) : Int)] ↔ (p : Int) = (gR g (k + 1)).getD 0 (-1) * 66 + (gR g (k + 1)).getD 1 (-1) := by
    generalize gR g (k + 1) = l at h h0 h1 ⊢
    match l, h with
    | [x, y], _ =>
      have h0 : 0 ≤ x ∧ x < 66 := h0
      have h1 : 0 ≤ y ∧ y < 66 := h1
      show [x, y] = _ ↔ (p : Int) = x * 66 + y
      constructor
      · intro e; injection e with e1 e2; injection e2 with e2 e3; omega
      · intro e
        have e1 : x = ((p / 66 : Nat) : Int) := by omega
        have e2 : y = ((p % 66 : Nat) : Int) := by omega
        rw [← e1, ← e2]
  unfold kz
  rw [fF_snoc]
  simp only [Nat.zero_add]
  by_cases q : fF (fun r => decide (gR g (r + 1) = [((p / 66 : Nat) : Int), ((p % 66 : Nat) : Int)])) k 0 = -1
  · rw [if_pos q]
    by_cases e : (p : Int) = (gR g (k + 1)).getD 0 (-1) * 66 + (gR g (k + 1)).getD 1 (-1)
    · rw [if_pos (by simpa using key.mpr e), if_pos ⟨q, e⟩]
    · rw [if_neg (by simpa using fun z => e (key.mp z)), if_neg (fun z => e z.2), q]
  · rw [if_neg q, if_neg (fun z => q z.1)]
theorem gFree_rng (g : GS) : -1 ≤ gFree g ∧ gFree g < 40 := by
  rcases fF_rng (p := fun r => decide (gR g (r + 1) = [])) 40 0 with y | y
  · have y : -1 ≤ gFree g ∧ gFree g < (0 : Nat) + (40 : Nat) := y; omega
  · have y : gFree g = -1 := y; omega
theorem kz_rng (g : GS) (p c : Nat) : -1 ≤ kz g p c ∧ kz g p c < c ∨ kz g p c = -1 := by
  rcases fF_rng (p := fun r => decide (gR g (r + 1) = [((p / 66 : Nat) : Int), ((p % 66 : Nat) : Int)])) c 0 with y | y
  · left
    have y : -1 ≤ kz g p c ∧ kz g p c < (0 : Nat) + (c : Nat) := y
    omega
  · exact Or.inr y
theorem t_readFrom0 (h : GC I t g) (w : ∀ i : Nat, i < 41 → SY (gR g i)) {c kf pl : Nat → Int} (hp : PTp I c kf pl) {Q : Unit → Mem → Prop} (k : ∀ K : Mem, PTr K t g → Fm FPA I K → Tr (f_PT_choose K) Q) : Tr (f_PT_readFrom t I) Q := by
  have ht := h.1
  unfold f_PT_readFrom
  rw [if_pos ht]
  refine tr_call (t_pclear hp) ?_
  rintro _ J1 ⟨p1, f1⟩
  have s1 : Fm (fun a b c => a = 4 ∧ c ≠ 4) J1 (sI J1 4 0 5 (t : Int)) := Fm.sI (by decide) (by omega) (by omega) ⟨rfl, by omega⟩
  have F2 : Fm FPA I (sI J1 4 0 5 (t : Int)) := (f1.mono FPT_FPA).trans (s1.mono (fun a b c z => Or.inl z.1))
  refine (show Tr (bnd (f_G_lowestFree t (sI J1 4 0 5 (t : Int))) _) Q from ?_)
  rw [g_lowestFree (h.fpa F2), bnd_some]
  have hfr := gFree_rng g
  have e6 : (if w32 (gFree g) = -1 then (0 : Int) else 1) = bI (gFree g ≠ -1) := by
    rw [w32_of (by omega) (by omega)]
    by_cases q : gFree g = -1
    · rw [if_pos q, bI_neg (fun z => z q)]
    · rw [if_neg q, bI_pos q]
  rw [e6]
  generalize hM : sI (sI J1 4 0 5 (t : Int)) 4 0 6 (bI (gFree g ≠ -1)) = M
  have s2 : Fm (fun a b c => a = 4 ∧ c ≠ 4) (sI J1 4 0 5 (t : Int)) M := by rw [← hM]; exact Fm.sI (by decide) (by omega) (by omega) ⟨rfl, by omega⟩
  have m5 : M 4 0 5 = (t : Int) := by rw [← hM, sI_ne (by omega), sI_self]
  have m6 : M 4 0 6 = bI (gFree g ≠ -1) := by rw [← hM, sI_self]
  have S := s1.trans s2
  have FM : Fm FPA I M := (f1.mono FPT_FPA).trans (S.mono (fun a b c z => Or.inl z.1))
  have pM : PTp M (fun _ => 0) (fun _ => -1) (fun _ => 0) := by
    obtain ⟨a, b, d⟩ := p1
    refine ⟨fun p hp => ?_, b.fm S (by omega) (fun j => by omega), d⟩
    rw [S.at (by decide) (by omega), S.at (by decide) (by omega), S.at (by decide) (by omega)]
    exact a p hp
  have hM0 := h.fpa FM
  refine tr_call (P := fun _ J => PTp J (fun _ => 0) (fun p => kz g p 40) (fun _ => 0) ∧ Fm FPT M J) (tr_cnt (fun k => (k : Int)) (fun k J => PTp J (fun _ => 0) (fun p => kz g p k) (fun _ => 0) ∧ Fm FPT M J) 40 rfl ⟨pM, Fm.refl _ _⟩ ?_ ?_) ?_
  · rintro k J hk ⟨q1, q2⟩
    have hJ := hM0.fpt q2
    have hr := hJ.2.1 (k + 1) (by omega)
    have hl := hr.len
    unfold f_PT_readFrom_w28
    rw [w32_of (by omega) (by omega), if_pos (by omega), g_body ht hk, bnd_some, if_pos hr.1, hr.2.1, w32_of (by omega) (by omega)]
    by_cases e : (gR g (k + 1)).length = 2
    · have h0 := (w (k + 1) (by omega)).at (j := 0) (by omega)
      have h1 := (w (k + 1) (by omega)).at (j := 1) (by omega)
      obtain ⟨p, hpe⟩ : ∃ p : Nat, (p : Int) = (gR g (k + 1)).getD 0 (-1) * 66 + (gR g (k + 1)).getD 1 (-1) := ⟨((gR g (k + 1)).getD 0 (-1) * 66 + (gR g (k + 1)).getD 1 (-1)).toNat, by omega⟩
      rw [if_pos (by omega), g_body ht hk, bnd_some, if_pos hr.1]
      refine tr_call (t_noteKept q1 hr (w (k + 1) (by omega)) e hk hpe) ?_
      rintro _ K ⟨k1, k2⟩
      refine tr_ret ⟨rfl, k1.congr (fun _ _ => rfl) (fun q _ => ?_) (fun _ _ _ => rfl), q2.trans k2⟩
      show kz g q (k + 1) = (if kz g p k = -1 then up (fun p => kz g p k) p (k : Int) else fun p => kz g p k) q
      rw [kz_two e (w (k + 1) (by omega))]
      by_cases qp : q = p
      · subst qp
        by_cases kk : kz g q k = -1
        · rw [if_pos ⟨kk, hpe⟩, if_pos kk, up_self]
        · rw [if_neg (fun z => kk z.1), if_neg kk]
      · rw [if_neg (fun z => qp (by have := z.2; omega))]
        by_cases kk : kz g p k = -1
        · rw [if_pos kk, up_ne qp]
        · rw [if_neg kk]
    · rw [if_neg (by omega)]
      exact tr_ret ⟨rfl, q1.congr (fun _ _ => rfl) (fun q _ => kz_len e) (fun _ _ _ => rfl), q2⟩
  · rintro J ⟨q1, q2⟩
    unfold f_PT_readFrom_w28
    rw [if_neg (by decide)]
    exact tr_ret ⟨q1, q2⟩
  rintro _ J2 ⟨q1, q2⟩
  have hJ2 := hM0.fpt q2
  have h0l := (w 0 (by omega))
  rw [← rix_0]
  refine tr_call (t_noteRow hJ2 w (i := 0) (by omega) rfl (q1.congr (fun _ _ => rfl) (fun _ _ => rfl) (fun _ _ z => absurd rfl z)) rfl) ?_
  rintro _ J3 ⟨q3, q4⟩
  have F3 := q2.trans q4
  refine tr_call (P := fun _ J => PTp J (fun p => cz g p 16400) (fun p => kz g p 40) (fun p => fz g p 16400) ∧ Fm FPT M J) (tr_cnt (fun k => (k : Int)) (fun k J => PTp J (fun p => cz g p (400 * (k + 1))) (fun p => kz g p 40) (fun p => fz g p (400 * (k + 1))) ∧ Fm FPT M J) 40 rfl ⟨q3, F3⟩ ?_ ?_) ?_
  · rintro k J hk ⟨k1, k2⟩
    have hJ := hM0.fpt k2
    have hr := hJ.2.1 (k + 1) (by omega)
    have hl := hr.len
    unfold f_PT_readFrom_w73
    rw [w32_of (by omega) (by omega), if_pos (by omega), g_body ht hk, bnd_some, if_pos hr.1, hr.2.1, w32_of (by omega) (by omega)]
    by_cases e : 2 < (gR g (k + 1)).length
    · rw [if_pos (by omega), g_body ht hk, bnd_some, if_pos hr.1]
      refine tr_call (t_noteRow hJ w (i := k + 1) (by omega) (by unfold gAl; simp; omega) k1 (by omega)) ?_
      rintro _ K ⟨m1, m2⟩
      exact tr_ret ⟨rfl, m1, k2.trans m2⟩
    · rw [if_neg (by omega)]
      have ext := fun p : Nat => cz_ext (g := g) (p := p) (c := 400 * (k + 1)) (c' := 400 * (k + 1 + 1)) (by omega) (fun x a b => by
        obtain ⟨j, hj, rfl⟩ : ∃ j : Nat, j < 400 ∧ x = 400 * (k + 1) + j := ⟨x - 400 * (k + 1), by omega, by omega⟩
        rw [nz_at hj]
        by_cases z : (gR g (k + 1)).length = 2
        · have : gAl g (k + 1) = true := by unfold gAl; simp [z]
          rw [this]; rfl
        · have : ¬ j + 1 < (gR g (k + 1)).length := by omega
          simp [this])
      exact tr_ret ⟨rfl, k1.congr (fun p _ => (ext p).1) (fun _ _ => rfl) (fun p _ _ => (ext p).2), k2⟩
  · rintro J ⟨k1, k2⟩
    unfold f_PT_readFrom_w73
    rw [if_neg (by decide)]
    exact tr_ret ⟨k1, k2⟩
  rintro _ J4 ⟨q5, q6⟩
  refine tr_bnd.mpr (tr_mono (k J4 ⟨by rw [zE_eq]; exact q5, ?_, ?_, hM0.fpt q6⟩ (FM.trans (q6.mono FPT_FPA))) (fun b K z => tr_ret z))
  · rw [q6.at (by decide) (by unfold FPT; omega)]; exact m5
  · rw [q6.at (by decide) (by unfold FPT; omega)]; exact m6
end READ
