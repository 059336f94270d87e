/-! ===== the reference: pairs, the best one ===== -/
def od (g : GS) (x : Nat) : Int := sT (fun y => bI (nz g y = true)) x
theorem od_rng (g : GS) (x : Nat) : 0 ≤ od g x ∧ od g x ≤ x := by
  have := sT_rng (f := fun y => bI (nz g y = true)) (c := 1) (n := x) (fun k _ => by have := bI_01 (nz g k = true); omega)
  unfold od
  omega
theorem od_le (g : GS) (x : Nat) : ∀ k : Nat, od g x ≤ od g (x + k)
  | 0 => Int.le_refl _
  | k + 1 => by
    have h1 := od_le g x k
    have h2 := bI_01 (nz g (x + k) = true)
    have h3 : od g (x + (k + 1)) = od g (x + k) + bI (nz g (x + k) = true) := rfl
    omega
theorem od_lt {g : GS} {x y : Nat} (h : x < y) (hn : nz g x = true) : od g x < od g y := by
  have h1 := od_le g (x + 1) (y - (x + 1))
  rw [show x + 1 + (y - (x + 1)) = y by omega] at h1
  have h2 : od g (x + 1) = od g x + bI (nz g x = true) := rfl
  rw [bI_pos hn] at h2
  omega
theorem od_ext {g : GS} {c c' : Nat} (hc : c ≤ c') (h : ∀ x : Nat, c ≤ x → x < c' → nz g x = false) : od g c' = od g c := by
  induction c' with
  | zero =>
    have : c = 0 := by omega
    subst this
    rfl
  | succ n ih =>
    by_cases e : c = n + 1
    · subst e; rfl
    · have h1 := ih (by omega) (fun x a b => h x a (by omega))
      have h2 : od g (n + 1) = od g n + bI (nz g n = true) := rfl
      rw [h2, h1, bI_neg (by rw [h n (by omega) (by omega)]; simp), Int.add_zero]
/-- found, order and keeper, so far -/
def MPp (J : Mem) (g : GS) (c kc : Nat) : Prop := (∀ p : Nat, p < 4356 → J 27 11 p = cz g p c ∧ J 27 13 p = kz g p kc ∧ (cz g p c ≠ 0 → ∃ x : Nat, fz g p c = (x : Int) ∧ J 27 12 p = od g x)) ∧ J 26 0 18 = od g c
def MP (J : Mem) (g : GS) : Prop := ∀ p : Nat, p < 4356 → J 27 11 p = cz g p zE ∧ J 27 13 p = kz g p 40 ∧ (cz g p zE ≠ 0 → ∃ x : Nat, fz g p zE = (x : Int) ∧ J 27 12 p = od g x)
abbrev FMP : FP := fun k i s => (k = 27 ∧ (i = 11 ∨ i = 12 ∨ i = 13)) ∨ (k = 26 ∧ s = 18)
section MPS
variable {I : Mem} {g : GS}
theorem GW.fmp {J : Mem} (h : GW I g) (f : Fm FMP I J) : GW J g := h.fm f (fun s hs z => by unfold FMP at z; omega)
theorem t_countsIn (h : GW I g) (w : ∀ i : Nat, i < 41 → SY (gR g i)) {i : Nat} (hi : i < 41) (hal : gAl g i = false) {kc : Nat} (hp : MPp I g (400 * i) kc) : Tr (f_M_countsIn (i : Int) I) (fun _ J => MPp J g (400 * (i + 1)) kc ∧ Fm FMP I J) := by
  have hl := (h.1 i hi).2.1
  have hs := w i hi
  let S : Nat → Int × Int := fun k => ((match k with
    | 0 => (0 : Int)
    | j + 1 => bI (nt (gR g i) j = true)), (k : Int))
  have hS2 : ∀ k : Nat, (S k).2 = (k : Int) := fun _ => rfl
  have hS1 : ∀ k : Nat, (S (k + 1)).1 = bI (nt (gR g i) k = true) := fun _ => rfl
  unfold f_M_countsIn
  refine tr_call (P := fun _ J => MPp J g (400 * (i + 1)) kc ∧ Fm FMP I J) (tr_cnt S (fun k J => MPp J g (400 * i + k) kc ∧ Fm FMP I J) ((gR g i).length - 1) rfl ⟨hp, Fm.refl _ _⟩ ?_ ?_) (fun _ _ q => tr_ret q)
  · rintro k J hk ⟨h1, h2⟩
    have hG := h.fmp h2
    have q0 := hs.at (j := k) (by omega)
    have q1 := hs.at (j := k + 1) (by omega)
    have hnz := nz_at (g := g) (i := i) (k := k) (by omega)
    have hpz := pz_at (g := g) (i := i) (k := k) (by omega)
    rw [hal] at hnz
    have a0 := m_at hG hi (j := k) (by omega)
    have a1 := m_at hG hi (j := k + 1) (by omega)
    rw [show ((k + 1 : Nat) : Int) = (k : Int) + 1 from rfl] at a1
    unfold f_M_countsIn_w4
    rw [hS2, m_many hG hi, bnd_some, w32_of (x := (k : Int) + 1) (by omega) (by omega), w32_of (x := ((gR g i).length : Int)) (by omega) (by omega), if_pos (by omega), a0, bnd_some, a1, bnd_some, w32_of (x := (gR g i).getD k (-1)) (by omega) (by omega), w32_of (x := (gR g i).getD (k + 1) (-1)) (by omega) (by omega)]
    -- it is found
    have note : nt (gR g i) k = true → Tr (f_M_countsIn_j57 (i : Int) (k : Int) ((gR g i).getD k (-1)) ((gR g i).getD (k + 1) (-1)) J) (LQ (fun s' J' => s' = S (k + 1) ∧ MPp J' g (400 * i + (k + 1)) kc ∧ Fm FMP I J') (fun (_ : Unit) J => MPp J g (400 * (i + 1)) kc ∧ Fm FMP I J)) := by
      intro hn
      have hnz : nz g (400 * i + k) = true := by rw [hnz, hn]; simp; omega
      obtain ⟨p, hpe⟩ : ∃ p : Nat, (p : Int) = 66 * (gR g i).getD k (-1) + (gR g i).getD (k + 1) (-1) := ⟨(66 * (gR g i).getD k (-1) + (gR g i).getD (k + 1) (-1)).toNat, by omega⟩
      have hp4 : p < 4356 := by omega
      have hcb := cz_rng g p (400 * i + k)
      obtain ⟨⟨m1, m2⟩⟩ : Nonempty (((∀ p : Nat, p < 4356 → J 27 11 p = cz g p (400 * i + k) ∧ J 27 13 p = kz g p kc ∧ (cz g p (400 * i + k) ≠ 0 → ∃ x : Nat, fz g p (400 * i + k) = (x : Int) ∧ J 27 12 p = od g x))) ∧ J 26 0 18 = od g (400 * i + k)) := ⟨h1⟩
      obtain ⟨n1, n2, n3⟩ := m1 p hp4
      have hpzp : pz g (400 * i + k) = (p : Int) := by rw [hpz]; omega
      have hS : S (k + 1) = (1, ((k + 1 : Nat) : Int)) := Prod.ext (by rw [hS1, bI_pos hn]) rfl
      have fin : ∀ K : Mem, (∀ q : Nat, K 27 11 q = J 27 11 q) → (∀ q : Nat, K 27 13 q = J 27 13 q) → (∀ q : Nat, q ≠ p → K 27 12 q = J 27 12 q) → (cz g p (400 * i + k) = 0 → K 27 12 p = od g (400 * i + k)) → (cz g p (400 * i + k) ≠ 0 → K 27 12 p = J 27 12 p) → K 26 0 18 = od g (400 * i + k) → Fm FMP I K → Tr (f_M_countsIn_j101 (i : Int) 1 (k : Int) ((gR g i).getD k (-1)) ((gR g i).getD (k + 1) (-1)) K) (LQ (fun s' J' => s' = S (k + 1) ∧ MPp J' g (400 * i + (k + 1)) kc ∧ Fm FMP I J') (fun (_ : Unit) J => MPp J g (400 * (i + 1)) kc ∧ Fm FMP I J)) := by
        intro K k11 k13 k12 k12a k12b k18 kF
        unfold f_M_countsIn_j101 f_M_pair
        show Tr (bnd (some (66 * (gR g i).getD k (-1) + (gR g i).getD (k + 1) (-1), sI K 26 0 18 (K 26 0 18 + 1))) _) _
        rw [bnd_some, ← hpe, w32_of (x := (p : Int)) (by omega) (by omega), if_pos (by omega), Int.toNat_natCast]
        refine tr_ret ⟨by rw [hS]; rfl, ⟨fun q hq => ⟨?_, ?_, fun hz => ?_⟩, ?_⟩, kF.trans ((Fm.sI (by decide) (by omega) (by omega) (Or.inr ⟨rfl, rfl⟩)).trans (Fm.sI (by decide) (by omega) (by omega) (Or.inl ⟨rfl, Or.inl rfl⟩)))⟩
        · rw [show 400 * i + (k + 1) = (400 * i + k) + 1 by omega, cz_succ]
          by_cases e : q = p
          · subst e; rw [sI_self, sI_ne (by omega), k11, n1, bI_pos ⟨hnz, hpzp⟩]
          · rw [sI_ne (by omega), sI_ne (by omega), k11, (m1 q hq).1, bI_neg (fun z => e (by have := z.2; omega)), Int.add_zero]
        · rw [sI_ne (by omega), sI_ne (by omega), k13]; exact (m1 q hq).2.1
        · rw [show 400 * i + (k + 1) = (400 * i + k) + 1 by omega, cz_succ] at hz
          rw [show 400 * i + (k + 1) = (400 * i + k) + 1 by omega, fz_succ, sI_ne (by omega), sI_ne (by omega)]
          by_cases e : q = p
          · subst e
            by_cases c0 : cz g q (400 * i + k) = 0
            · rw [if_pos c0, if_pos ⟨hnz, hpzp⟩]
              exact ⟨400 * i + k, rfl, k12a c0⟩
            · rw [if_neg c0]
              obtain ⟨x, x1, x2⟩ := n3 c0
              exact ⟨x, x1, by rw [k12b c0]; exact x2⟩
          · rw [bI_neg (fun z => e (by have := z.2; omega)), Int.add_zero] at hz
            rw [if_neg hz]
            obtain ⟨x, x1, x2⟩ := (m1 q hq).2.2 hz
            exact ⟨x, x1, by rw [k12 q e]; exact x2⟩
        · rw [sI_ne (by omega), sI_self, k18]
          show od g (400 * i + k) + 1 = od g (400 * i + k) + bI (nz g (400 * i + k) = true)
          rw [bI_pos hnz]
      unfold f_M_countsIn_j57 f_M_countsIn_j62 f_M_pair
      rw [if_neg (by decide), bnd_some, ← hpe, w32_of (x := (p : Int)) (by omega) (by omega), if_pos (by omega), Int.toNat_natCast, n1, w32_of (x := cz g p (400 * i + k)) (by omega) (by omega)]
      by_cases c0 : cz g p (400 * i + k) = 0
      · rw [if_pos c0, bnd_some, w32_of (x := (p : Int)) (by omega) (by omega), if_pos (by omega), Int.toNat_natCast]
        exact fin _ (fun q => sI_ne (by omega)) (fun q => sI_ne (by omega)) (fun q hq => sI_ne (by omega)) (fun _ => by rw [sI_self]; exact m2) (fun z => absurd c0 z) (by rw [sI_ne (by omega)]; exact m2) (h2.trans (Fm.sI (by decide) (by omega) (by omega) (Or.inl ⟨rfl, Or.inr (Or.inl rfl)⟩)))
      · rw [if_neg c0]
        exact fin _ (fun q => rfl) (fun q => rfl) (fun q hq => rfl) (fun z => absurd z c0) (fun _ => rfl) m2 h2
    by_cases qe : (gR g i).getD k (-1) = (gR g i).getD (k + 1) (-1)
    · rw [if_pos qe]
      cases k with
      | zero =>
        have : w32 (S 0).1 = 0 := by show w32 0 = 0; decide
        rw [if_pos this]
        exact note rfl
      | succ j =>
        rw [hS1]
        by_cases qn : nt (gR g i) j = true
        · have a2 := m_at hG hi (j := j) (by omega)
          have qj := hs.at (j := j) (by omega)
          rw [if_neg (wb_pos qn), show ((j + 1 : Nat) : Int) - 1 = (j : Int) by omega, a2, bnd_some, w32_of (x := (gR g i).getD j (-1)) (by omega) (by omega)]
          by_cases qj2 : (gR g i).getD j (-1) = (gR g i).getD (j + 1) (-1)
          · rw [if_pos qj2]
            have hn : nt (gR g i) (j + 1) = false := by rw [nt_succ]; simp only [qe, qj2, qn, decide_true, Bool.and_true, Bool.not_true]
            have hnz : nz g (400 * i + (j + 1)) = false := by rw [hnz, hn]; simp
            have ext := fun p : Nat => cz_ext (g := g) (p := p) (c := 400 * i + (j + 1)) (c' := 400 * i + (j + 1 + 1)) (by omega) (fun x a b => by rw [show x = 400 * i + (j + 1) by omega]; exact hnz)
            have ext2 := od_ext (g := g) (c := 400 * i + (j + 1)) (c' := 400 * i + (j + 1 + 1)) (by omega) (fun x a b => by rw [show x = 400 * i + (j + 1) by omega]; exact hnz)
            unfold f_M_countsIn_j62
            rw [if_pos (by decide)]
            refine tr_ret ⟨?_, ⟨fun p hp => ?_, by rw [ext2]; exact h1.2⟩, h2⟩
            · exact Prod.ext (by rw [hS1, bI_neg (by rw [hn]; simp)]) rfl
            · rw [(ext p).1, (ext p).2]; exact h1.1 p hp
          · rw [if_neg qj2]
            exact note (by rw [nt_succ]; simp only [qj2, decide_false, Bool.false_and, Bool.and_false, Bool.not_false])
        · rw [if_pos (wb_neg qn)]
          exact note (by rw [nt_succ]; simp only [eq_false_of_ne_true qn, Bool.and_false, Bool.not_false])
    · rw [if_neg qe]
      refine note ?_
      cases k with
      | zero => rfl
      | succ j => rw [nt_succ]; simp only [qe, decide_false, Bool.false_and, Bool.not_false]
  · rintro J ⟨h1, h2⟩
    have hG := h.fmp h2
    unfold f_M_countsIn_w4
    rw [hS2, m_many hG hi, bnd_some, w32_of (x := (((gR g i).length - 1 : Nat) : Int) + 1) (by omega) (by omega), w32_of (x := ((gR g i).length : Int)) (by omega) (by omega), if_neg (by omega)]
    have nzf : ∀ x : Nat, 400 * i + ((gR g i).length - 1) ≤ x → x < 400 * (i + 1) → nz g x = false := fun x a b => by
      obtain ⟨k, hk, rfl⟩ : ∃ k : Nat, k < 400 ∧ x = 400 * i + k := ⟨x - 400 * i, by omega, by omega⟩
      rw [nz_at hk]
      simp
      intro; omega
    have ext := fun p : Nat => cz_ext (g := g) (p := p) (c := 400 * i + ((gR g i).length - 1)) (c' := 400 * (i + 1)) (by omega) nzf
    have ext2 := od_ext (g := g) (c := 400 * i + ((gR g i).length - 1)) (c' := 400 * (i + 1)) (by omega) nzf
    exact tr_ret ⟨⟨fun p hp => by rw [(ext p).1, (ext p).2]; exact h1.1 p hp, by rw [ext2]; exact h1.2⟩, h2⟩
theorem t_laysPairs (h : GW I g) (w : ∀ i : Nat, i < 41 → SY (gR g i)) : Tr (f_M_laysPairs I) (fun _ J => MP J g ∧ GW J g ∧ Fm FMP I J) := by
  unfold f_M_laysPairs
  refine tr_call (P := fun _ J => (∀ p : Nat, p < 4356 → J 27 11 p = 0 ∧ J 27 13 p = -1) ∧ Fm FMP I J) (tr_cnt (fun k => (k : Int)) (fun k J => (∀ p : Nat, p < k → J 27 11 p = 0 ∧ J 27 13 p = -1) ∧ Fm FMP I J) 4356 rfl ⟨fun p hp => absurd hp (Nat.not_lt_zero p), Fm.refl _ _⟩ ?_ ?_) ?_
  · rintro k J hk ⟨k1, k2⟩
    unfold f_M_laysPairs_w2
    rw [w32_of (by omega) (by omega), if_pos (by omega), if_pos (by omega), Int.toNat_natCast]
    refine tr_ret ⟨rfl, fun p hp => ?_, k2.trans ((Fm.sI (by decide) (by omega) (by omega) (Or.inl ⟨rfl, Or.inl rfl⟩)).trans (Fm.sI (by decide) (by omega) (by omega) (Or.inl ⟨rfl, Or.inr (Or.inr rfl)⟩)))⟩
    by_cases e : p = k
    · subst e; exact ⟨by rw [sI_ne (by omega), sI_self], sI_self ..⟩
    · rw [sI_ne (by omega), sI_ne (by omega), sI_ne (by omega), sI_ne (by omega)]; exact k1 p (by omega)
  · rintro J ⟨k1, k2⟩
    unfold f_M_laysPairs_w2
    rw [if_neg (by decide)]
    exact tr_ret ⟨k1, k2⟩
  rintro _ J1 ⟨z1, f1⟩
  show Tr (bnd (whl f_M_laysPairs_w36 0 (sI J1 26 0 18 0)) (fun _ J83 => some ((), J83))) _
  have f2 : Fm FMP I (sI J1 26 0 18 0) := f1.trans (Fm.sI (by decide) (by omega) (by omega) (Or.inr ⟨rfl, rfl⟩))
  refine tr_call (P := fun _ J => MPp J g (400 * 41) 40 ∧ Fm FMP I J) (tr_cnt (fun k => (k : Int)) (fun k J => MPp J g (400 * k) (k - 1) ∧ Fm FMP I J) 41 rfl ⟨⟨fun p hp => ⟨by rw [sI_ne (by omega)]; exact (z1 p hp).1, by rw [sI_ne (by omega)]; exact (z1 p hp).2, fun z => absurd rfl z⟩, sI_self ..⟩, f2⟩ ?_ ?_) ?_
  · rintro k J hk ⟨k1, k2⟩
    have hG := h.fmp k2
    have hl := (hG.1 k hk).2.1
    unfold f_M_laysPairs_w36
    rw [w32_of (x := (k : Int)) (by omega) (by omega), if_pos (by omega), m_isAlone hG hk, bnd_some]
    by_cases al : k ≠ 0 ∧ (gR g k).length = 2
    · have hal : gAl g k = true := by unfold gAl; simp [al.1, al.2]
      have hk1 : (k : Int) - 1 = ((k - 1 : Nat) : Int) := by have := al.1; omega
      have q0 := (w k hk).at (j := 0) (by omega)
      have q1 := (w k hk).at (j := 1) (by omega)
      have a0 : f_M_at (k : Int) 0 J = some ((gR g k).getD 0 (-1), J) := m_at hG hk (j := 0) (by omega)
      have a1 : f_M_at (k : Int) 1 J = some ((gR g k).getD 1 (-1), J) := m_at hG hk (j := 1) (by omega)
      obtain ⟨p, hpe⟩ : ∃ p : Nat, (p : Int) = 66 * (gR g k).getD 0 (-1) + (gR g k).getD 1 (-1) := ⟨(66 * (gR g k).getD 0 (-1) + (gR g k).getD 1 (-1)).toNat, by omega⟩
      have hp4 : p < 4356 := by omega
      have kzr := kz_rng g p (k - 1)
      have ext := fun p : Nat => cz_ext (g := g) (p := p) (c := 400 * k) (c' := 400 * (k + 1)) (by omega) (fun x a b => by
        obtain ⟨j, hj, rfl⟩ : ∃ j : Nat, j < 400 ∧ x = 400 * k + j := ⟨x - 400 * k, by omega, by omega⟩
        rw [nz_at hj, hal]; rfl)
      have ext2 := od_ext (g := g) (c := 400 * k) (c' := 400 * (k + 1)) (by omega) (fun x a b => by
        obtain ⟨j, hj, rfl⟩ : ∃ j : Nat, j < 400 ∧ x = 400 * k + j := ⟨x - 400 * k, by omega, by omega⟩
        rw [nz_at hj, hal]; rfl)
      have hkz : ∀ q : Nat, kz g q (k + 1 - 1) = if kz g q (k - 1) = -1 ∧ q = p then ((k - 1 : Nat) : Int) else kz g q (k - 1) := fun q => by
        have h2 := kz_two (g := g) (p := q) (k := k - 1) (by rw [show k - 1 + 1 = k by omega]; exact al.2) (by rw [show k - 1 + 1 = k by omega]; exact w k hk)
        rw [show k - 1 + 1 = k by omega] at h2
        rw [show k + 1 - 1 = k by omega, h2]
        by_cases e : q = p
        · subst e
          by_cases e2 : kz g q (k - 1) = -1
          · rw [if_pos ⟨e2, by omega⟩, if_pos ⟨e2, rfl⟩]
          · rw [if_neg (fun z => e2 z.1), if_neg (fun z => e2 z.1)]
        · rw [if_neg (fun z => e (by have := z.2; omega)), if_neg (fun z => e z.2)]
      rw [if_neg (wb_pos al), a0, bnd_some, a1, bnd_some]
      unfold f_M_pair
      rw [bnd_some, ← hpe]
      unfold f_M_laysPairs_j69
      rw [w32_of (x := (p : Int)) (by omega) (by omega), if_neg (by omega), if_pos (by omega), Int.toNat_natCast, (k1.1 p hp4).2.1, w32_of (x := kz g p (k - 1)) (by omega) (by omega)]
      by_cases qk : kz g p (k - 1) = -1
      · rw [if_pos qk]
        refine tr_ret ⟨rfl, ⟨fun q hq => ?_, by rw [sI_ne (by omega), ext2]; exact k1.2⟩, k2.trans (Fm.sI (by decide) (by omega) (by omega) (Or.inl ⟨rfl, Or.inr (Or.inr rfl)⟩))⟩
        obtain ⟨n1, n2, n3⟩ := k1.1 q hq
        rw [(ext q).1, (ext q).2, hkz q]
        refine ⟨by rw [sI_ne (by omega)]; exact n1, ?_, fun z => by rw [sI_ne (by omega)]; exact n3 z⟩
        by_cases e : q = p
        · subst e; rw [sI_self, if_pos ⟨qk, rfl⟩]; exact hk1
        · rw [sI_ne (by omega), if_neg (fun z => e z.2)]; exact n2
      · rw [if_neg qk]
        refine tr_ret ⟨rfl, ⟨fun q hq => ?_, by rw [ext2]; exact k1.2⟩, k2⟩
        obtain ⟨n1, n2, n3⟩ := k1.1 q hq
        rw [(ext q).1, (ext q).2, hkz q, if_neg (fun z => qk (by rw [← z.2]; exact z.1))]
        exact ⟨n1, n2, n3⟩
    · have hal : gAl g k = false := by
        unfold gAl
        exact decide_eq_false al
      rw [if_pos (wb_neg al)]
      unfold f_M_laysPairs_j69
      rw [if_pos (by decide)]
      refine tr_call (t_countsIn hG w hk hal k1) ?_
      rintro _ K ⟨m1, m2⟩
      refine tr_ret ⟨rfl, ⟨fun q hq => ?_, m1.2⟩, k2.trans m2⟩
      obtain ⟨n1, n2, n3⟩ := m1.1 q hq
      refine ⟨n1, ?_, n3⟩
      rw [n2]
      cases k with
      | zero => rfl
      | succ j => exact (kz_len (g := g) (p := q) (k := j) (fun z => al ⟨by omega, z⟩)).symm
  · rintro J ⟨k1, k2⟩
    unfold f_M_laysPairs_w36
    rw [if_neg (by decide)]
    exact tr_ret ⟨k1, k2⟩
  rintro _ J2 ⟨z2, f3⟩
  refine tr_ret ⟨?_, h.fmp f3, f3⟩
  intro p hp
  rw [zE_eq]
  exact z2.1 p hp
theorem m_isWorth (h : GW I g) (hM : MP I g) (w : WF g) {p : Nat} (hp : p < 4356) : f_M_isWorth (p : Int) (gFree g) I = some (bI (wz g p = true), I) := by
  obtain ⟨n1, n2, -⟩ := hM p hp
  have hc := cz_rng g p zE
  have hz := zE_eq
  have hk := kz_rng g p 40
  have hf := gFree_rng g
  have hn := w.2.2.2.2.2.1
  have h0 : I 27 0 0 = gN g 0 := h.2.2.2.2.2.1
  unfold f_M_isWorth
  rw [w32_of (x := (p : Int)) (by omega) (by omega), if_pos (by omega), Int.toNat_natCast, n1, n2, h0, w32_of (x := kz g p 40) (by omega) (by omega), w32_of (x := cz g p zE) (by omega) (by omega), w32_of (x := gN g 0) (by omega) (by omega), w32_of (x := gFree g) (by omega) (by omega)]
  by_cases q : kz g p 40 = -1
  · rw [if_pos q]
    by_cases q3 : cz g p zE < gN g 0
    · rw [if_pos q3, bI_neg]
      unfold wz; simp [q]; intro; omega
    · rw [if_neg q3]
      by_cases q2 : gFree g = -1
      · rw [if_pos q2, bI_neg]
        unfold wz; simp [q, q2]
      · rw [if_neg q2, bI_pos]
        unfold wz; simp [q, q2]; omega
  · rw [if_neg q]
    by_cases q3 : 0 < cz g p zE
    · rw [if_pos q3, bI_pos]
      unfold wz; simp [q, q3]
    · rw [if_neg q3, bI_neg]
      unfold wz; simp [q]; omega
theorem m_isAhead (h : GW I g) (hM : MP I g) (hL : LN I g) (w : WF g) {p o : Nat} (hp : p < 4356) (ho : o < 4356) (c1 : cz g p zE ≠ 0) (c2 : cz g o zE ≠ 0) : f_M_isAhead (p : Int) (o : Int) I = some (bI (cz g o zE < cz g p zE ∨ (cz g p zE = cz g o zE ∧ ky g o < ky g p)), I) := by
  obtain ⟨n1, -, n3⟩ := hM p hp
  obtain ⟨o1, -, o3⟩ := hM o ho
  obtain ⟨x, x1, x2⟩ := n3 c1
  obtain ⟨y, y1, y2⟩ := o3 c2
  obtain ⟨x', f1, f2, f3, -⟩ := fz_spec c1
  obtain ⟨y', f4, f5, f6, -⟩ := fz_spec c2
  have hx : x' = x := by omega
  have hy : y' = y := by omega
  subst hx hy
  have hc := cz_rng g p zE
  have hc' := cz_rng g o zE
  have hz := zE_eq
  have ox := od_rng g x'
  have oy := od_rng g y'
  have hn := w.2.2.2.2.2.2.1
  have h0 : I 27 0 1 = gN g 1 := h.2.2.2.2.2.2.1
  have sp := cz_sym w hp c1
  have so := cz_sym w ho c2
  have l1 := w.sl1 sp.1
  have l2 := w.sl1 sp.2
  have l3 := w.sl1 so.1
  have l4 := w.sl1 so.2
  have e1 := (hL.sym sp.1).1
  have e2 := (hL.sym sp.2).1
  have e3 := (hL.sym so.1).1
  have e4 := (hL.sym so.2).1
  rw [Int.toNat_natCast] at e1 e2 e3 e4
  unfold f_M_isAhead
  rw [w32_of (x := (p : Int)) (by omega) (by omega), w32_of (x := (o : Int)) (by omega) (by omega), if_pos (by omega), if_pos (by omega), Int.toNat_natCast, Int.toNat_natCast, n1, o1, h0, w32_of (x := cz g p zE) (by omega) (by omega), w32_of (x := cz g o zE) (by omega) (by omega), w32_of (x := gN g 1) (by omega) (by omega)]
  by_cases qe : cz g p zE = cz g o zE
  · rw [if_pos qe]
    have plain : ∀ (e0 : Int) (P : Prop) [Decidable P], -1000000 ≤ e0 ∧ e0 ≤ 1000000 → (P ↔ (if e0 = 0 then p < o else 0 < e0)) → f_M_isAhead_j120 (p : Int) (o : Int) e0 I = some (bI P, I) := by
      intro e0 P _ hr hP
      unfold f_M_isAhead_j120
      rw [w32_of (x := e0) (by omega) (by omega), w32_of (x := (p : Int)) (by omega) (by omega), w32_of (x := (o : Int)) (by omega) (by omega)]
      by_cases z : e0 = 0
      · rw [if_pos z] at hP ⊢
        by_cases q : p < o
        · rw [if_pos (by omega), bI_pos (hP.mpr q)]
        · rw [if_neg (by omega), bI_neg (fun y => q (hP.mp y))]
      · rw [if_neg z] at hP ⊢
        by_cases q : 0 < e0
        · rw [if_pos q, bI_pos (hP.mpr q)]
        · rw [if_neg q, bI_neg (fun y => q (hP.mp y))]
    by_cases q1 : gN g 1 = 1
    · rw [if_pos q1, x2, y2, w32_of (x := od g x') (by omega) (by omega), w32_of (x := od g y') (by omega) (by omega)]
      have e : ky g o < ky g p ↔ x' < y' := by
        unfold ky
        rw [if_pos q1, if_pos q1, f1, f4]; omega
      have e' : od g x' < od g y' ↔ x' < y' := by
        constructor
        · intro z
          apply Classical.byContradiction
          intro q
          by_cases q2 : x' = y'
          · rw [q2] at z; omega
          · have := od_lt (g := g) (show y' < x' by omega) f6
            omega
        · intro z; exact od_lt z f3
      by_cases q : od g x' < od g y'
      · rw [if_pos q, bI_pos (Or.inr ⟨qe, e.mpr (e'.mp q)⟩)]
      · rw [if_neg q, bI_neg (fun z => by
          rcases z with z | z
          · omega
          · exact q (e'.mpr (e.mp z.2)))]
    · rw [if_neg q1]
      by_cases q2 : gN g 1 = 2
      · have e : ky g o < ky g p ↔ gLs g o * 4356 - o < gLs g p * 4356 - p := by
          unfold ky
          rw [if_neg q1, if_pos q2, if_neg q1, if_pos q2]
        unfold gLs at e
        rw [if_pos q2, idv_nat p (by omega), irm_nat p (by omega), idv_nat o (by omega), irm_nat o (by omega), w32_of (x := ((p / 66 : Nat) : Int)) (by omega) (by omega), w32_of (x := ((p % 66 : Nat) : Int)) (by omega) (by omega), w32_of (x := ((o / 66 : Nat) : Int)) (by omega) (by omega), w32_of (x := ((o % 66 : Nat) : Int)) (by omega) (by omega), if_pos (by omega), if_pos (by omega), if_pos (by omega), if_pos (by omega), Int.toNat_natCast, Int.toNat_natCast, Int.toNat_natCast, Int.toNat_natCast, e1, e2, e3, e4]
        refine plain _ _ (by omega) ?_
        constructor
        · rintro (z | z)
          · omega
          · have := e.mp z.2
            split <;> omega
        · intro z
          refine Or.inr ⟨qe, e.mpr ?_⟩
          split at z <;> omega
      · rw [if_neg q2]
        refine plain 0 _ (by omega) ?_
        rw [if_pos rfl]
        have e : ky g o < ky g p ↔ p < o := by
          unfold ky
          rw [if_neg q1, if_neg q2, if_neg q1, if_neg q2]; omega
        constructor
        · rintro (z | z)
          · omega
          · exact e.mp z.2
        · intro z; exact Or.inr ⟨qe, e.mpr z⟩
  · rw [if_neg qe]
    by_cases q : cz g o zE < cz g p zE
    · rw [if_pos q, bI_pos (Or.inl q)]
    · rw [if_neg q, bI_neg (fun z => by omega)]
abbrev FBP : FP := fun k i s => FMP k i s ∨ FL k i s
theorem MP.fl {J : Mem} (h : MP I g) (f : Fm FL I J) : MP J g := fun p hp => by
  rw [f.at (by decide) (by unfold FL; omega), f.at (by decide) (by unfold FL; omega), f.at (by decide) (by unfold FL; omega)]
  exact h p hp
theorem t_bestPair (h : GW I g) (w : WF g) : Tr (f_M_bestPair I) (fun x J => x = bestP g ∧ MP J g ∧ LN J g ∧ GW J g ∧ Fm FBP I J) := by
  unfold f_M_bestPair
  refine tr_call (t_laysPairs h (fun i hi => w.sy hi)) ?_
  rintro _ J1 ⟨m1, g1, f1⟩
  refine tr_call (t_laysLengths g1 w) ?_
  rintro _ J2 ⟨l2, g2, f2⟩
  have m2 := m1.fl f2
  rw [m_freeRule g2, bnd_some]
  have hw : whl (f_M_bestPair_w17 (gFree g)) (-1, 0) J2 = some (bestP g, J2) := by
    refine tr_ro (tr_whl (fun n s J => ∃ (k : Nat) (b wn al : Int), n = zP - k ∧ k ≤ zP ∧ s = (b, (k : Int)) ∧ CH g (List.range k) b wn al ∧ J = J2) ?_ zP _ _ ⟨0, -1, 0, 0, rfl, Nat.zero_le _, rfl, ⟨rfl, Or.inl ⟨rfl, rfl, fun q hq => by simp at hq⟩⟩, rfl⟩)
    rintro n s J ⟨k, b, wn, al, rfl, hk, rfl, hC, rfl⟩
    have hz := zP_eq
    unfold f_M_bestPair_w17
    dsimp only
    rw [w32_of (x := (k : Int)) (by omega) (by omega)]
    by_cases q : k < 4356
    · have hrs : List.range (k + 1) = List.range k ++ [k] := List.range_succ
      rw [if_pos (by omega), m_isWorth g2 m2 w q, bnd_some]
      have go : ∀ b' : Int, (∃ wn al : Int, CH g (List.range (k + 1)) b' wn al) → LQ (fun s' J' => ∃ m : Nat, m < zP - k ∧ ∃ (k : Nat) (b wn al : Int), m = zP - k ∧ k ≤ zP ∧ s' = (b, (k : Int)) ∧ CH g (List.range k) b wn al ∧ J' = J) (fun a K => a = bestP g ∧ K = J) (.inl (b', (k : Int) + 1)) J := by
        rintro b' ⟨wn, al, hC'⟩
        exact ⟨zP - (k + 1), by omega, k + 1, b', wn, al, rfl, by omega, rfl, hC', rfl⟩
      by_cases qw : wz g k = true
      · rw [if_neg (wb_pos qw)]
        have ck := wz_cz w qw
        rcases hC.2 with ⟨a1, -⟩ | ⟨m, a1, a2, a3, -⟩
        · subst a1
          rw [if_pos (by decide)]
          exact tr_ret (go _ ⟨_, _, by rw [hrs]; exact hC.first qw⟩)
        · subst a1
          have hm4 : m < k := List.mem_range.mp a2
          have cm := wz_cz w a3
          rw [w32_of (x := (m : Int)) (by omega) (by omega), if_neg (by omega), m_isAhead g2 m2 l2 w q (by omega) ck cm, bnd_some]
          by_cases g1' : cz g m zE < cz g k zE
          · rw [if_neg (wb_pos (Or.inl g1'))]
            exact tr_ret (go _ ⟨_, _, by rw [hrs]; exact hC.more qw g1'⟩)
          · by_cases g2' : cz g k zE = cz g m zE
            · have c3 := hC.same qw g2' (ky_ne w q (by omega) (by omega) ck cm)
              by_cases g3 : ky g m < ky g k
              · rw [if_neg (wb_pos (Or.inr ⟨g2', g3⟩))]
                rw [if_pos g3] at c3
                exact tr_ret (go _ ⟨_, _, by rw [hrs]; exact c3⟩)
              · rw [if_pos (wb_neg (fun z => by
                  rcases z with z | z
                  · exact g1' z
                  · exact g3 z.2))]
                rw [if_neg g3] at c3
                exact tr_ret (go _ ⟨_, _, by rw [hrs]; exact c3⟩)
            · rw [if_pos (wb_neg (fun z => by
                rcases z with z | z
                · exact g1' z
                · exact g2' z.1))]
              exact tr_ret (go _ ⟨_, _, by rw [hrs]; exact hC.less qw (by omega)⟩)
      · rw [if_pos (wb_neg qw)]
        exact tr_ret (go _ ⟨_, _, by rw [hrs]; exact hC.skip (eq_false_of_ne_true qw)⟩)
    · rw [if_neg (by omega)]
      have hk4 : k = zP := by omega
      subst hk4
      exact tr_ret ⟨(hC.end List.nodup_range (fun x hx => by have := List.mem_range.mp hx; omega) (fun p hp _ => List.mem_range.mpr (by omega))).1, rfl⟩
  rw [hw, bnd_some]
  exact tr_ret ⟨rfl, m2, l2, g2, (f1.mono (fun a b c z => Or.inl z)).trans (f2.mono (fun a b c z => Or.inr z))⟩
theorem m_worthy (h : GW I g) (hM : MP I g) (w : WF g) {c : Int} (hc : 0 ≤ c ∧ c ≤ 1000000) : f_M_worthy c I = some (if c = 0 then worthN g else alikeN g c, I) := by
  have hz := zP_eq
  have hze := zE_eq
  unfold f_M_worthy
  rw [m_freeRule h, bnd_some]
  rw [whl_ro (r := if c = 0 then worthN g else alikeN g c) (s0 := ((0 : Int), (0 : Int))) (fun k => (sT (fun p => bI (wz g p = true ∧ (c = 0 ∨ cz g p zE = c))) k, (k : Int))) zP rfl ?_ ?_, bnd_some]
  · intro k hk
    have hck := cz_rng g k zE
    unfold f_M_worthy_w10
    dsimp only
    rw [w32_of (x := (k : Int)) (by omega) (by omega), if_pos (by omega), m_isWorth h hM w (by omega), bnd_some, w32_of (x := c) (by omega) (by omega)]
    show _ = some (Sum.inl (sT (fun p => bI (wz g p = true ∧ (c = 0 ∨ cz g p zE = c))) k + bI (wz g k = true ∧ (c = 0 ∨ cz g k zE = c)), (k : Int) + 1), I)
    by_cases qw : wz g k = true
    · rw [if_neg (wb_pos qw)]
      by_cases q0 : c = 0
      · rw [if_pos q0]
        unfold f_M_worthy_j49
        rw [m_one1, bnd_some, bI_pos ⟨qw, Or.inl q0⟩]
      · rw [if_neg q0, if_pos (by omega), Int.toNat_natCast, (hM k (by omega)).1, w32_of (x := cz g k zE) (by omega) (by omega)]
        by_cases q1 : cz g k zE = c
        · rw [if_pos q1]
          unfold f_M_worthy_j49
          rw [m_one1, bnd_some, bI_pos ⟨qw, Or.inr q1⟩]
        · rw [if_neg q1]
          unfold f_M_worthy_j48 f_M_worthy_j49
          rw [m_one0, bnd_some, bI_neg (fun z => by rcases z.2 with y | y; exact q0 y; exact q1 y)]
    · rw [if_pos (wb_neg qw)]
      unfold f_M_worthy_j48 f_M_worthy_j49
      rw [m_one0, bnd_some, bI_neg (fun z => qw z.1)]
  · unfold f_M_worthy_w10
    dsimp only
    rw [w32_of (x := (zP : Int)) (by omega) (by omega), if_neg (by omega)]
    by_cases q0 : c = 0
    · rw [if_pos q0]
      unfold worthN
      rw [sT_congr (fun k _ => bI_congr ⟨fun z => z.1, fun z => ⟨z, Or.inl q0⟩⟩)]
    · rw [if_neg q0]
      unfold alikeN
      rw [sT_congr (fun k _ => bI_congr (q := (wz g k && decide (cz g k zE = c)) = true) ⟨fun z => by
        rcases z.2 with y | y
        · exact absurd y q0
        · simp [z.1, y], fun z => by simp at z; exact ⟨z.1, Or.inr z.2⟩⟩)]
end MPS
