/-! ===== the reference: texts, comings ===== -/
theorem ll_mono {g : GS} (w : WF g) {l : List Int} (hs : ∀ x ∈ l, SYr (gR g) x) {a b : Nat} (h : a ≤ b) : ll (gL g) (l.take a) ≤ ll (gL g) (l.take b) := by
  have e : l.take b = l.take a ++ (l.take b).drop a := by
    have := (List.take_append_drop a (l.take b)).symm
    rw [List.take_take, show min a b = a by omega] at this
    exact this
  have h1 := ll_ge (L := gL g) (l := (l.take b).drop a) (fun x hx => (w.sl1 (hs x (List.take_subset _ _ (List.drop_subset _ _ hx)))).1)
  rw [e, ll_app]
  omega
theorem pO_uniq {g : GS} (w : WF g) {l : List Int} (hs : ∀ x ∈ l, SYr (gR g) x) {p : Int} {k : Nat} (hk : k < l.length) (h1 : ll (gL g) (l.take k) ≤ p) (h2 : p < ll (gL g) (l.take (k + 1))) : pO (gL g) l p = (k : Int) := by
  have h0 : 0 ≤ ll (gL g) (l.take k) := by
    have := ll_ge (L := gL g) (l := l.take k) (fun x hx => (w.sl1 (hs x (List.take_subset _ _ hx))).1)
    omega
  have h3 : ll (gL g) (l.take (k + 1)) ≤ ll (gL g) l := by
    have := ll_mono w hs (a := k + 1) (b := l.length) (by omega)
    rwa [List.take_length] at this
  obtain ⟨j, e, j1, j2, j3⟩ := pO_spec w hs (p := p) (by omega) (by omega)
  rw [e]
  by_cases q : j < k
  · have := ll_mono w hs (a := j + 1) (b := k) (by omega); omega
  · by_cases q2 : k < j
    · have := ll_mono w hs (a := k + 1) (b := j) (by omega); omega
    · omega
/-- bits of a number -/
def pcN : Nat → Nat → Nat
  | 0, _ => 0
  | n + 1, m => m % 2 + pcN n (m / 2)
theorem pcN_0 : ∀ n : Nat, pcN n 0 = 0
  | 0 => rfl
  | n + 1 => by rw [pcN, Nat.zero_div, pcN_0 n]
theorem and_mod2 (a b : Nat) : (a &&& b) % 2 = if a % 2 = 1 ∧ b % 2 = 1 then 1 else 0 := by
  by_cases h : a % 2 = 1 ∧ b % 2 = 1
  · rw [if_pos h]; exact Nat.and_mod_two_eq_one.mpr h
  · rw [if_neg h]
    have : ¬ (a &&& b) % 2 = 1 := fun z => h (Nat.and_mod_two_eq_one.mp z)
    omega
theorem pcN_step : ∀ (n m : Nat), 0 < m → m < 2 ^ n → pcN n (m &&& (m - 1)) + 1 = pcN n m
  | 0, m, h1, h2 => by simp at h2; omega
  | n + 1, m, h1, h2 => by
    rw [pcN, pcN, and_mod2, Nat.and_div_two]
    rw [Nat.pow_succ] at h2
    by_cases q : m % 2 = 1
    · rw [if_neg (by omega), show (m - 1) / 2 = m / 2 by omega, Nat.and_self]
      omega
    · rw [if_neg (by omega), show (m - 1) / 2 = m / 2 - 1 by omega]
      have := pcN_step n (m / 2) (by omega) (by omega)
      omega
theorem pcN_sum : ∀ (n m : Nat), (pcN n m : Int) = sT (fun a => bI (m.testBit a = true)) n
  | 0, m => rfl
  | n + 1, m => by
    rw [pcN, sT_shift, Int.natCast_add, pcN_sum n (m / 2)]
    have e1 : ((m % 2 : Nat) : Int) = bI (m.testBit 0 = true) := by
      rw [Nat.testBit_zero]
      by_cases q : m % 2 = 1
      · rw [bI_pos (by simpa using q), q]; rfl
      · rw [bI_neg (by simpa using q)]; omega
    rw [e1]
    congr 1
    exact sT_congr (fun a _ => bI_congr (by rw [Nat.testBit_succ]))
theorem i32_nat {m : Nat} (h : m < 2147483648) : Int32.ofInt (m : Int) = Int32.ofNat m := rfl
theorem i32_toInt {m : Nat} (h : m < 2147483648) : (Int32.ofNat m).toInt = (m : Int) := by
  have := w_toInt (m : Int)
  rw [w32_of (by omega) (by omega)] at this
  exact this
theorem bv_nat {m : Nat} (h : m < 2147483648) : (Int32.ofNat m).toBitVec.toNat = m := by
  show (BitVec.ofNat 32 m).toNat = m
  rw [BitVec.toNat_ofNat]
  omega
theorem bv_int {x : Int32} (h : x.toBitVec.toNat < 2147483648) : x.toInt = (x.toBitVec.toNat : Int) := by
  show x.toBitVec.toInt = _
  rw [BitVec.toInt_eq_toNat_cond, if_pos (by omega)]
theorem ian_nat {a b : Nat} (ha : a < 2147483648) (hb : b < 2147483648) : ian (a : Int) (b : Int) = ((a &&& b : Nat) : Int) := by
  have e : (Int32.ofInt (a : Int) &&& Int32.ofInt (b : Int)).toBitVec.toNat = a &&& b := by
    rw [i32_nat ha, i32_nat hb, Int32.toBitVec_and, BitVec.toNat_and, bv_nat ha, bv_nat hb]
  have hl : a &&& b ≤ a := Nat.and_le_left
  unfold ian
  rw [bv_int (by rw [e]; omega), e]
theorem ior_nat {a b n : Nat} (hn : 2 ^ n ≤ 2147483648) (ha : a < 2 ^ n) (hb : b < 2 ^ n) : ior (a : Int) (b : Int) = ((a ||| b : Nat) : Int) := by
  have ha' : a < 2147483648 := by omega
  have hb' : b < 2147483648 := by omega
  have e : (Int32.ofInt (a : Int) ||| Int32.ofInt (b : Int)).toBitVec.toNat = a ||| b := by
    rw [i32_nat ha', i32_nat hb', Int32.toBitVec_or, BitVec.toNat_or, bv_nat ha', bv_nat hb']
  have hl : a ||| b < 2 ^ n := Nat.or_lt_two_pow ha hb
  unfold ior
  rw [bv_int (by rw [e]; omega), e]
theorem ish_1 : ∀ x : Nat, x < 26 → ish 1 (x : Int) = ((2 ^ x : Nat) : Int) := by decide +kernel
section MTEXT
variable {I : Mem} {g : GS}
theorem t_mlettersOf (h : GW I g) (w : WF g) {a : Int} (ha : 0 ≤ a ∧ a < 26) : Tr (f_M_lettersOf a I) (fun x J => x = ((gTx g).count a : Int) ∧ GW J g ∧ Fm FUN I J) := by
  have hl4 := gTx_len w
  have hT4 := w.2.2.2.2.1
  have hlet := exL_let w (w.1 0 (by omega))
  unfold f_M_lettersOf
  refine tr_call (t_munfolds h w) ?_
  rintro x J ⟨rfl, hU, hF⟩
  rw [whl_ro (r := ((gTx g).count a : Int)) (s0 := ((0 : Int), (0 : Int))) (fun k => ((((gTx g).take k).count a : Int), (k : Int))) (gTx g).length (by simp) ?_ ?_, bnd_some]
  · exact tr_ret ⟨rfl, h.fun_ hF, hF⟩
  · intro k hk
    have q := hlet _ (getD_mem (d := -1) hk)
    have e7 := (hU k hk).1
    unfold f_M_lettersOf_w10
    dsimp only
    rw [w32_of (x := (k : Int)) (by omega) (by omega), w32_of (x := ((gTx g).length : Int)) (by omega) (by omega), if_pos (by omega), if_pos (by omega), Int.toNat_natCast, e7]
    have q : 0 ≤ (gTx g).getD k (-1) ∧ (gTx g).getD k (-1) < 26 := q
    rw [w32_of (x := (gTx g).getD k (-1)) (by omega) (by omega), w32_of (x := a) (by omega) (by omega), m_oneI, bnd_some, take_at (d := -1) hk, List.count_append, List.count_singleton]
    by_cases e : (gTx g).getD k (-1) = a
    · rw [bI_pos e, if_pos (by simpa using e)]; rfl
    · rw [bI_neg e, if_neg (by simpa using e)]; rfl
  · unfold f_M_lettersOf_w10
    dsimp only
    rw [w32_of (x := ((gTx g).length : Int)) (by omega) (by omega), if_neg (by omega), List.take_length]
theorem t_munlike (h : GW I g) (w : WF g) : Tr (f_M_unlike I) (fun x J => x = unlN (gTx g) ∧ GW J g ∧ Fm FUN I J) := by
  have hl4 := gTx_len w
  have hT4 := w.2.2.2.2.1
  have hlet : ∀ y ∈ gTx g, 0 ≤ y ∧ y < 26 := exL_let w (w.1 0 (by omega))
  unfold f_M_unlike
  refine tr_call (t_munfolds h w) ?_
  rintro x J ⟨rfl, hU, hF⟩
  -- the set of letters as a number
  obtain ⟨SB, SB0, SBs⟩ : ∃ SB : Nat → Nat, SB 0 = 0 ∧ ∀ k : Nat, SB (k + 1) = SB k ||| 2 ^ ((gTx g).getD k (-1)).toNat :=
    ⟨fun k => Nat.rec (motive := fun _ => Nat) 0 (fun j m => m ||| 2 ^ ((gTx g).getD j (-1)).toNat) k, rfl, fun _ => rfl⟩
  have SBlt : ∀ k : Nat, k ≤ (gTx g).length → SB k < 2 ^ 26 := by
    intro k
    induction k with
    | zero => intro _; rw [SB0]; decide
    | succ k ih =>
      intro hk
      rw [SBs]
      have hx := hlet _ (getD_mem (d := -1) (show k < (gTx g).length by omega))
      exact Nat.or_lt_two_pow (ih (by omega)) (Nat.pow_lt_pow_right (by decide) (by omega))
  have SBbit : ∀ k : Nat, k ≤ (gTx g).length → ∀ a : Nat, (SB k).testBit a = true ↔ (a : Int) ∈ (gTx g).take k := by
    intro k
    induction k with
    | zero => intro _ a; rw [SB0]; simp
    | succ k ih =>
      intro hk a
      have hx := hlet _ (getD_mem (d := -1) (show k < (gTx g).length by omega))
      rw [SBs, Nat.testBit_or, Bool.or_eq_true, ih (by omega) a, take_at (d := -1) (show k < (gTx g).length by omega), List.mem_append, List.mem_singleton, Nat.testBit_two_pow, decide_eq_true_iff]
      constructor
      · rintro (z | z)
        · exact Or.inl z
        · exact Or.inr (by omega)
      · rintro (z | z)
        · exact Or.inl z
        · exact Or.inr (by omega)
  have w1 : whl (f_M_unlike_w9 ((gTx g).length : Int)) (0, 0) J = some (((SB (gTx g).length : Nat) : Int), J) := by
    refine whl_ro (fun k => (((SB k : Nat) : Int), (k : Int))) (gTx g).length (by rw [SB0]; rfl) (fun k hk => ?_) ?_
    · have hx := hlet _ (getD_mem (d := -1) hk)
      have e7 := (hU k hk).1
      unfold f_M_unlike_w9
      dsimp only
      rw [w32_of (x := (k : Int)) (by omega) (by omega), w32_of (x := ((gTx g).length : Int)) (by omega) (by omega), if_pos (by omega), if_pos (by omega), Int.toNat_natCast, e7, show (gTx g).getD k (-1) = ((((gTx g).getD k (-1)).toNat : Nat) : Int) by omega, ish_1 _ (by omega), ior_nat (n := 26) (by decide) (SBlt k (by omega)) (Nat.pow_lt_pow_right (by decide) (by omega)), SBs]
      rfl
    · unfold f_M_unlike_w9
      dsimp only
      rw [w32_of (x := ((gTx g).length : Int)) (by omega) (by omega), if_neg (by omega)]
  have w2 : whl f_M_unlike_w36 (0, ((SB (gTx g).length : Nat) : Int)) J = some (unlN (gTx g), J) := by
    have hfin : ((pcN 26 (SB (gTx g).length) : Nat) : Int) = unlN (gTx g) := by
      rw [pcN_sum]
      unfold unlN
      refine sT_congr (fun a _ => bI_congr ?_)
      rw [SBbit _ (Nat.le_refl _) a, List.take_length]
      constructor
      · intro z
        have := List.count_pos_iff.mpr z
        omega
      · intro z
        exact List.count_pos_iff.mp (by omega)
    refine tr_ro (tr_whl (fun n s K => ∃ (m c : Nat), pcN 26 m = n ∧ m < 2 ^ 26 ∧ s = ((c : Int), (m : Int)) ∧ c + pcN 26 m = pcN 26 (SB (gTx g).length) ∧ K = J) ?_ (pcN 26 (SB (gTx g).length)) _ _ ⟨SB (gTx g).length, 0, rfl, SBlt _ (Nat.le_refl _), rfl, by omega, rfl⟩)
    rintro n s K ⟨m, c, rfl, hm, rfl, hc, rfl⟩
    have hm' : m < 67108864 := hm
    unfold f_M_unlike_w36
    dsimp only
    rw [w32_of (x := (m : Int)) (by omega) (by omega)]
    by_cases q : m = 0
    · subst q
      rw [if_pos (show ((0 : Nat) : Int) = 0 from rfl)]
      rw [pcN_0] at hc
      exact tr_ret ⟨by rw [← hfin]; omega, rfl⟩
    · rw [if_neg (by omega), show (m : Int) - 1 = ((m - 1 : Nat) : Int) by omega, ian_nat (by omega) (by omega)]
      have h1 := pcN_step 26 m (by omega) hm
      have h2 : m &&& (m - 1) ≤ m := Nat.and_le_left
      exact tr_ret ⟨pcN 26 (m &&& (m - 1)), by omega, m &&& (m - 1), c + 1, rfl, by omega, rfl, by omega, rfl⟩
  rw [w1, bnd_some, w2, bnd_some]
  exact tr_ret ⟨rfl, h.fun_ hF, hF⟩
theorem t_mgap (h : GW I g) (w : WF g) : Tr (f_M_gap I) (fun x J => x = gapN (gTx g) (gT g) ∧ GW J g ∧ Fm (fun k i s => FUN k i s ∨ (k = 26 ∧ i = 0 ∧ s = 7)) I J ∧ J 26 0 7 = 0) := by
  have hl4 := gTx_len w
  have hT4 := w.2.2.2.2.1
  unfold f_M_gap
  show Tr (bnd (f_M_unfolds (sI I 26 0 7 0)) _) _
  have f0 : Fm (fun k i s => k = 26 ∧ i = 0 ∧ s = 7) I (sI I 26 0 7 0) := Fm.sI (by decide) (by omega) (by omega) ⟨rfl, rfl, rfl⟩
  have h0 := h.fm f0 (fun s hs z => by omega)
  refine tr_call (t_munfolds h0 w) ?_
  rintro x J ⟨rfl, hU, hF⟩
  have hJ := h0.fun_ hF
  have h3 : J 27 0 3 = ((gT g).length : Int) := hJ.2.1
  rw [h3]
  have ei : iab (((gTx g).length : Int) - ((gT g).length : Int)) = (if ((gTx g).length : Int) < (gT g).length then ((gT g).length : Int) - (gTx g).length else ((gTx g).length : Int) - (gT g).length) := by
    unfold iab
    rw [w32_of (by omega) (by omega)]
    split <;> split <;> omega
  rw [ei]
  rw [whl_ro (r := gapN (gTx g) (gT g)) (fun k => ((if ((gTx g).length : Int) < (gT g).length then ((gT g).length : Int) - (gTx g).length else ((gTx g).length : Int) - (gT g).length) + sT (fun j => if w32 ((gTx g).getD j (-1)) = w32 ((gT g).getD j (-1)) then 0 else 1) k, (k : Int))) (min (gTx g).length (gT g).length) ?_ ?_ ?_, bnd_some]
  · exact tr_ret ⟨rfl, hJ, (f0.mono (fun a b c z => Or.inr z)).trans (hF.mono (fun a b c z => Or.inl z)), by rw [hF.at (by decide) (by unfold FUN; omega), sI_self]⟩
  · exact Prod.ext (by show _ = _ + (0 : Int); omega) rfl
  · intro k hk
    have e7 := (hU k (by omega)).1
    unfold f_M_gap_w24
    dsimp only
    rw [h3, w32_of (x := (k : Int)) (by omega) (by omega), w32_of (x := ((gTx g).length : Int)) (by omega) (by omega), w32_of (x := ((gT g).length : Int)) (by omega) (by omega), if_pos (by omega), if_pos (by omega), if_pos (by omega), w32_of (x := 16460 + (k : Int)) (by omega) (by omega), if_pos (by omega), Int.toNat_natCast, show ((16460 : Int) + (k : Int)).toNat = 16460 + k by omega, e7, hJ.2.2.2.1 k (by omega)]
    show bnd (f_M_one (if w32 ((gTx g).getD k (-1)) = w32 ((gT g).getD k (-1)) then 0 else 1) J) _ = _
    by_cases e : w32 ((gTx g).getD k (-1)) = w32 ((gT g).getD k (-1))
    · rw [if_pos e, m_one0, bnd_some]
      show some (Sum.inl (_ + 0, (k : Int) + 1), J) = some (Sum.inl (_ + (sT _ k + if w32 ((gTx g).getD k (-1)) = w32 ((gT g).getD k (-1)) then 0 else 1), ((k + 1 : Nat) : Int)), J)
      rw [if_pos e, Int.add_zero, Int.add_zero]; rfl
    · rw [if_neg e, m_one1, bnd_some]
      show some (Sum.inl (_ + 1, (k : Int) + 1), J) = some (Sum.inl (_ + (sT _ k + if w32 ((gTx g).getD k (-1)) = w32 ((gT g).getD k (-1)) then 0 else 1), ((k + 1 : Nat) : Int)), J)
      rw [if_neg e, Int.add_assoc]; rfl
  · unfold f_M_gap_w24
    dsimp only
    rw [h3, w32_of (x := ((min (gTx g).length (gT g).length : Nat) : Int)) (by omega) (by omega), w32_of (x := ((gTx g).length : Int)) (by omega) (by omega), w32_of (x := ((gT g).length : Int)) (by omega) (by omega)]
    by_cases q : ((min (gTx g).length (gT g).length : Nat) : Int) < ((gTx g).length : Int)
    · rw [if_pos q, if_neg (by omega)]; rfl
    · rw [if_neg q]; rfl
theorem t_mdigest (h : GW I g) (w : WF g) : Tr (f_M_digest I) (fun x J => x = dgN (gTx g) (gTx g).length ∧ GW J g ∧ Fm (fun k i s => FUN k i s ∨ (k = 26 ∧ i = 0 ∧ s = 7)) I J ∧ J 26 0 7 = 0) := by
  have hl4 := gTx_len w
  have hT4 := w.2.2.2.2.1
  unfold f_M_digest
  show Tr (bnd (f_M_unfolds (sI I 26 0 7 0)) _) _
  have f0 : Fm (fun k i s => k = 26 ∧ i = 0 ∧ s = 7) I (sI I 26 0 7 0) := Fm.sI (by decide) (by omega) (by omega) ⟨rfl, rfl, rfl⟩
  have h0 := h.fm f0 (fun s hs z => by omega)
  refine tr_call (t_munfolds h0 w) ?_
  rintro x J ⟨rfl, hU, hF⟩
  rw [whl_ro (r := dgN (gTx g) (gTx g).length) (s0 := ((1 : Int), (0 : Int))) (fun k => (dgN (gTx g) k, (k : Int))) (gTx g).length rfl ?_ ?_, bnd_some]
  · exact tr_ret ⟨rfl, h0.fun_ hF, (f0.mono (fun a b c z => Or.inr z)).trans (hF.mono (fun a b c z => Or.inl z)), by rw [hF.at (by decide) (by unfold FUN; omega), sI_self]⟩
  · intro k hk
    have e7 := (hU k hk).1
    unfold f_M_digest_w15
    dsimp only
    rw [w32_of (x := (k : Int)) (by omega) (by omega), w32_of (x := ((gTx g).length : Int)) (by omega) (by omega), if_pos (by omega), if_pos (by omega), Int.toNat_natCast, e7]
    rfl
  · unfold f_M_digest_w15
    dsimp only
    rw [w32_of (x := ((gTx g).length : Int)) (by omega) (by omega), if_neg (by omega)]
theorem tot_congr {c c' : Nat → Int} {D D' : Nat → Bool} (h1 : ∀ r : Nat, r < 40 → c r = c' r) (h2 : ∀ r : Nat, r < 40 → D r = D' r) (y : Nat) : tot g c D y = tot g c' D' y := by
  unfold tot
  exact sT_congr (fun r hr => by rw [h1 r hr, h2 r hr])
abbrev FCM : FP := fun k i _ => k = 27 ∧ i = 21
theorem t_comesBy (h : GW I g) (w : ∀ i : Nat, i < 41 → SY (gR g i)) {i : Nat} (hi : i < 41) (v : Int) : Tr (f_M_comesBy (i : Int) v I) (fun _ J => (∀ r : Nat, r < 40 → J 27 21 (26 + r) = I 27 21 (26 + r) + v * ((gR g i).count (26 + (r : Int)) : Int)) ∧ Fm FCM I J) := by
  have hl := (h.1 i hi).2.1
  unfold f_M_comesBy
  refine tr_call (P := fun _ J => (∀ r : Nat, r < 40 → J 27 21 (26 + r) = I 27 21 (26 + r) + v * ((gR g i).count (26 + (r : Int)) : Int)) ∧ Fm FCM I J) (tr_cnt (fun k => (k : Int)) (fun k J => (∀ r : Nat, r < 40 → J 27 21 (26 + r) = I 27 21 (26 + r) + v * (((gR g i).take k).count (26 + (r : Int)) : Int)) ∧ Fm FCM I J) (gR g i).length rfl ⟨fun r _ => by simp, Fm.refl _ _⟩ ?_ ?_) (fun _ _ q => tr_ret q)
  · rintro k J hk ⟨k1, k2⟩
    have hG := h.fm k2 (fun s hs z => by unfold FCM at z; omega)
    have q := (w i hi).at hk
    unfold f_M_comesBy_w2
    rw [m_many hG hi, bnd_some, w32_of (x := (k : Int)) (by omega) (by omega), w32_of (x := ((gR g i).length : Int)) (by omega) (by omega), if_pos (by omega), m_at hG hi hk, bnd_some, w32_of (x := (gR g i).getD k (-1)) (by omega) (by omega), if_pos (by omega)]
    refine tr_ret ⟨rfl, fun r hr => ?_, k2.trans (Fm.sI (by decide) (by omega) (by omega) ⟨rfl, rfl⟩)⟩
    rw [take_at (d := -1) hk, List.count_append, List.count_singleton]
    by_cases e : (gR g i).getD k (-1) = 26 + (r : Int)
    · rw [show ((gR g i).getD k (-1)).toNat = 26 + r by omega, sI_self, k1 r hr, if_pos (by simpa using e), Int.natCast_add, Int.mul_add]
      simp
      omega
    · rw [sI_ne (by omega), k1 r hr, if_neg (by simpa using e)]
      simp
  · rintro J ⟨k1, k2⟩
    have hG := h.fm k2 (fun s hs z => by unfold FCM at z; omega)
    unfold f_M_comesBy_w2
    rw [m_many hG hi, bnd_some, w32_of (x := ((gR g i).length : Int)) (by omega) (by omega), if_neg (by omega)]
    rw [List.take_length] at k1
    exact tr_ret ⟨k1, k2⟩
theorem t_comesOf (h : GW I g) (w : WF g) {r0 : Nat} (hr0 : r0 < 40) (hn0 : gR g (r0 + 1) ≠ []) : Tr (f_M_comesOf (26 + (r0 : Int)) I) (fun x J => x = cm g r0 ∧ GW J g ∧ Fm (fun k i s => FL k i s ∨ FCM k i s) I J) := by
  have hsr : ∀ r : Nat, r < 40 → gR g (r + 1) ≠ [] → SYr (gR g) (26 + (r : Int)) := fun r hr hn => ⟨by omega, by omega, fun _ => by rw [show (26 + (r : Int) - 26).toNat = r by omega]; exact hn⟩
  have hdp1 : ∀ r : Nat, r < 40 → gR g (r + 1) ≠ [] → 1 ≤ dp g (26 + (r : Int)) ∧ dp g (26 + (r : Int)) ≤ 40 := fun r hr hn => by
    have h1 := dp_rule w (hsr r hr hn) (by omega)
    have h2 := (dp_40 w (hsr r hr hn)).2
    rw [show (26 + (r : Int) - 26).toNat = r by omega] at h1
    have h3 := (mT_le (f := fun j => dp g ((gR g (r + 1)).getD j (-1))) (c := 40) (by decide) (n := (gR g (r + 1)).length) (fun j hj => (dp_40 w (w.1 (r + 1) (by omega) _ (getD_mem hj))).2)).1
    unfold mxd at h1
    omega
  -- what stands in a body lies less deep
  have deeper : ∀ r : Nat, r < 40 → gR g (r + 1) ≠ [] → ∀ y ∈ gR g (r + 1), dp g y < dp g (26 + (r : Int)) := fun r hr hn y hy => by
    have h1 := dp_rule w (hsr r hr hn) (by omega)
    rw [show (26 + (r : Int) - 26).toNat = r by omega] at h1
    obtain ⟨j, hj, ej⟩ := List.mem_iff_getElem.mp hy
    have ej2 : (gR g (r + 1)).getD j (-1) = y := by simp [List.getD_eq_getElem?_getD, hj, ej]
    have key : ∀ n : Nat, j < n → dp g y ≤ mT (fun j => dp g ((gR g (r + 1)).getD j (-1))) n := by
      intro n
      induction n with
      | zero => intro h; omega
      | succ n ih =>
        intro hjn
        unfold mT
        by_cases e : j = n
        · subst e; rw [ej2]; split <;> omega
        · have := ih (by omega); split <;> omega
    have := key _ hj
    unfold mxd at h1
    omega
  have absent : ∀ r : Nat, gR g (r + 1) = [] → ∀ i : Nat, i < 41 → (gR g i).count (26 + (r : Int)) = 0 := by
    intro r hn i hi
    rw [List.count_eq_zero]
    intro hm
    exact (w.1 i hi _ hm).2.2 (by omega) (by rw [show (26 + (r : Int) - 26).toNat = r by omega]; exact hn)
  unfold f_M_comesOf
  refine tr_call (t_laysLengths h w) ?_
  rintro _ J1 ⟨l1, g1, f1⟩
  refine tr_call (P := fun _ J => (∀ x : Nat, x < 66 → J 27 21 x = 0) ∧ Fm FCM J1 J) (tr_cnt (fun k => (k : Int)) (fun k J => (∀ x : Nat, x < k → J 27 21 x = 0) ∧ Fm FCM J1 J) 66 rfl ⟨fun x hx => absurd hx (Nat.not_lt_zero x), Fm.refl _ _⟩ ?_ ?_) ?_
  · rintro k J hk ⟨k1, k2⟩
    unfold f_M_comesOf_w6
    rw [w32_of (by omega) (by omega), if_pos (by omega), if_pos (by omega), Int.toNat_natCast]
    refine tr_ret ⟨rfl, fun x hx => ?_, k2.trans (Fm.sI (by decide) (by omega) (by omega) ⟨rfl, rfl⟩)⟩
    by_cases e : x = k
    · subst e; exact sI_self ..
    · rw [sI_ne (by omega)]; exact k1 x (by omega)
  · rintro J ⟨k1, k2⟩
    unfold f_M_comesOf_w6
    rw [if_neg (by decide)]
    exact tr_ret ⟨k1, k2⟩
  rintro _ J2 ⟨z2, f2⟩
  have gcm : ∀ {J : Mem}, Fm FCM J1 J → GW J g := fun f => g1.fm f (fun s hs z => by unfold FCM at z; omega)
  rw [show (0 : Int) = ((0 : Nat) : Int) from rfl]
  refine tr_call (t_comesBy (gcm f2) (fun i hi => w.sy hi) (by omega) 1) ?_
  rintro _ J3 ⟨z3, f3⟩
  have F3 := f2.trans f3
  have c3 : ∀ r : Nat, r < 40 → J3 27 21 (26 + r) = ((gR g 0).count (26 + (r : Int)) : Int) := fun r hr => by rw [z3 r hr, z2 (26 + r) (by omega)]; omega
  refine tr_call (P := fun _ J => (∀ r : Nat, r < 40 → gR g (r + 1) ≠ [] → J 27 21 (26 + r) = cm g r) ∧ Fm FCM J1 J) (tr_whl (fun n s J => ∃ d : Nat, d = n ∧ d ≤ 40 ∧ s = (d : Int) ∧ (∀ y : Nat, y < 40 → tot g (fun r => J 27 21 (26 + r)) (fun r => decide (gR g (r + 1) ≠ [] ∧ (d : Int) < dp g (26 + (r : Int)))) y = cm g y) ∧ (∀ r : Nat, r < 40 → gR g (r + 1) = [] → J 27 21 (26 + r) = 0) ∧ Fm FCM J1 J) ?_ 40 _ _ ⟨40, rfl, by omega, rfl, fun y hy => ?_, fun r hr hn => by rw [c3 r hr, absent r hn 0 (by omega)]; rfl, F3⟩) ?_
  · rintro n s J ⟨d, rfl, hd, rfl, t1, t2, t3⟩
    unfold f_M_comesOf_w34
    rw [w32_of (x := (d : Int)) (by omega) (by omega)]
    by_cases q : d = 0
    · subst q
      rw [if_neg (by omega)]
      refine tr_ret ⟨fun r hr hn => ?_, t3⟩
      have h1 := tot_end (g := g) (c := fun r => J 27 21 (26 + r)) (D := fun r => decide (gR g (r + 1) ≠ [] ∧ ((0 : Nat) : Int) < dp g (26 + (r : Int)))) (fun r hr hD => by
        by_cases e : gR g (r + 1) = []
        · exact t2 r hr e
        · have h2 := (hdp1 r hr e).1
          have h3 := of_decide_eq_false hD
          exact absurd ⟨e, by omega⟩ h3) hr
      rw [t1 r hr] at h1
      exact h1.symm
    · rw [if_pos (by omega)]
      refine tr_call (P := fun _ K => (∀ y : Nat, y < 40 → tot g (fun r => K 27 21 (26 + r)) (fun r => decide (gR g (r + 1) ≠ [] ∧ ((d : Int) < dp g (26 + (r : Int)) ∨ (dp g (26 + (r : Int)) = d ∧ r < 40)))) y = cm g y) ∧ (∀ r : Nat, r < 40 → gR g (r + 1) = [] → K 27 21 (26 + r) = 0) ∧ Fm FCM J1 K) (tr_cnt (fun k => (k : Int)) (fun k K => (∀ y : Nat, y < 40 → tot g (fun r => K 27 21 (26 + r)) (fun r => decide (gR g (r + 1) ≠ [] ∧ ((d : Int) < dp g (26 + (r : Int)) ∨ (dp g (26 + (r : Int)) = d ∧ r < k)))) y = cm g y) ∧ (∀ r : Nat, r < 40 → gR g (r + 1) = [] → K 27 21 (26 + r) = 0) ∧ Fm FCM J1 K) 40 rfl ⟨fun y hy => ?_, t2, t3⟩ ?_ ?_) ?_
      · rw [← t1 y hy]
        exact tot_congr (fun _ _ => rfl) (fun r hr => by congr 1; simp) y
      · rintro k K hk ⟨u1, u2, u3⟩
        have hG := gcm u3
        have l27 : ∀ x : Nat, K 27 6 x = J1 27 6 x := fun x => u3.at (by decide) (by unfold FCM; omega)
        unfold f_M_comesOf_w40
        rw [w32_of (x := (k : Int)) (by omega) (by omega), if_pos (by omega), m_isHere hG hk, bnd_some]
        have noch : (gR g (k + 1) = [] ∨ dp g (26 + (k : Int)) ≠ d) → (∀ y : Nat, y < 40 → tot g (fun r => K 27 21 (26 + r)) (fun r => decide (gR g (r + 1) ≠ [] ∧ ((d : Int) < dp g (26 + (r : Int)) ∨ (dp g (26 + (r : Int)) = d ∧ r < k + 1)))) y = cm g y) := by
          intro hq y hy
          rw [← u1 y hy]
          refine tot_congr (fun _ _ => rfl) (fun r hr => ?_) y
          by_cases e : r = k
          · subst e
            rcases hq with z | z
            · simp [z]
            · simp [z]
          · have : r < k + 1 ↔ r < k := by omega
            simp only [this]
        by_cases e : gR g (k + 1) = []
        · rw [if_pos (wb_neg (fun z => z e))]
          exact tr_ret ⟨rfl, noch (Or.inl e), u2, u3⟩
        · have hd6 := (l1.2 k hk e).2
          have hdr := hdp1 k hk e
          rw [if_neg (wb_pos e), w32_of (x := 26 + (k : Int)) (by omega) (by omega), if_pos (by omega), show ((26 : Int) + (k : Int)).toNat = 26 + k by omega, l27, hd6, w32_of (x := dp g (26 + (k : Int))) (by omega) (by omega), w32_of (x := (d : Int)) (by omega) (by omega)]
          by_cases ed : dp g (26 + (k : Int)) = (d : Int)
          · rw [if_pos ed, show (k : Int) + 1 = ((k + 1 : Nat) : Int) from rfl]
            refine tr_call (t_comesBy hG (fun i hi => w.sy hi) (by omega) _) ?_
            rintro _ L ⟨v1, v2⟩
            refine tr_ret ⟨rfl, fun y hy => ?_, fun r hr hn => ?_, u3.trans v2⟩
            · rw [← u1 y hy, ← tot_step w (c := fun r => K 27 21 (26 + r)) (c' := fun r => L 27 21 (26 + r)) (D := fun r => decide (gR g (r + 1) ≠ [] ∧ ((d : Int) < dp g (26 + (r : Int)) ∨ (dp g (26 + (r : Int)) = d ∧ r < k)))) hk e (decide_eq_false (fun z => by have := z.2; omega)) (fun r hr => v1 r hr) (fun r hr hD => ?_) y]
              · refine tot_congr (fun _ _ => rfl) (fun r hr => ?_) y
                by_cases e2 : r = k
                · subst e2; simp [e, ed]
                · have : r < k + 1 ↔ r < k := by omega
                  simp only [this, e2, decide_false, Bool.or_false]
              · rw [List.count_eq_zero]
                intro hm
                have h1 := deeper k hk e _ hm
                have h2 := (of_decide_eq_true hD).2
                omega
            · rw [v1 r hr, u2 r hr hn, absent r hn _ (by omega)]; simp
          · rw [if_neg ed]
            exact tr_ret ⟨rfl, noch (Or.inr ed), u2, u3⟩
      · rintro K ⟨u1, u2, u3⟩
        unfold f_M_comesOf_w40
        rw [if_neg (by decide)]
        exact tr_ret ⟨u1, u2, u3⟩
      rintro _ K ⟨u1, u2, u3⟩
      refine tr_ret ⟨d - 1, by omega, d - 1, rfl, by omega, by show (d : Int) + -1 = _; omega, fun y hy => ?_, u2, u3⟩
      rw [← u1 y hy]
      refine tot_congr (fun _ _ => rfl) (fun r hr => ?_) y
      congr 1
      apply propext
      constructor
      · rintro ⟨z1, z2⟩
        refine ⟨z1, ?_⟩
        by_cases e : dp g (26 + (r : Int)) = (d : Int)
        · exact Or.inr ⟨e, hr⟩
        · left; omega
      · rintro ⟨z1, z2⟩
        refine ⟨z1, ?_⟩
        rcases z2 with z | z <;> omega
  · rw [cm_0 w y]
    refine tot_congr (fun r hr => (c3 r hr)) (fun r hr => ?_) y
    refine decide_eq_false (fun z => ?_)
    have := (hdp1 r hr z.1).2
    have := z.2
    omega
  rintro _ J4 ⟨z4, f4⟩
  rw [w32_of (by omega) (by omega), if_pos (by omega), show ((26 : Int) + (r0 : Int)).toNat = 26 + r0 by omega, z4 r0 hr0 hn0]
  exact tr_ret ⟨rfl, gcm f4, (f1.mono (fun a b c z => Or.inl z)).trans (f4.mono (fun a b c z => Or.inr z))⟩
theorem t_textLong (h : GW I g) (w : WF g) : Tr (f_M_textLong I) (fun x J => x = ((gT g).length : Int) ∧ J 26 0 10 = mxd (dp g) (gR g 0) ∧ GW J g ∧ Fm FL I J) := by
  unfold f_M_textLong
  refine tr_call (t_laysLengths h w) ?_
  rintro _ J1 ⟨l1, g1, f1⟩
  have hP : PLN J1 g ∨ True := Or.inr trivial
  -- lengths of rules that there are not aren't looked at
  have e : Tr (f_M_lengthOf ((0 : Nat) : Int) J1) (fun x J => x = ll (gL g) (gR g 0) ∧ J 26 0 10 = mxd (dp g) (gR g 0) ∧ Fm (fun k i s => k = 26 ∧ i = 0 ∧ s = 10) J1 J) := by
    have hl4 := w.len400 0 (by omega)
    have hs := w.1 0 (by omega)
    have hsy := w.sy (i := 0) (by omega)
    unfold f_M_lengthOf
    show Tr (whl (f_M_lengthOf_w9 ((0 : Nat) : Int)) (0, 0) (sI J1 26 0 10 0)) _
    refine tr_cnt (fun k => (ll (gL g) ((gR g 0).take k), (k : Int))) (fun k J => J 26 0 10 = mT (fun j => dp g ((gR g 0).getD j (-1))) k ∧ Fm (fun k i s => k = 26 ∧ i = 0 ∧ s = 10) J1 J) (gR g 0).length (by simp [ll]) ⟨sI_self .., Fm.sI (by decide) (by omega) (by omega) ⟨rfl, rfl, rfl⟩⟩ ?_ ?_
    · rintro k J hk ⟨k1, k3⟩
      have hG := g1.fm k3 (fun s hs => by omega)
      have q := hsy.at hk
      have hx := hs _ (getD_mem (d := -1) hk)
      have hdr := dp_40 w hx
      have hmt := mT_le (f := fun j => dp g ((gR g 0).getD j (-1))) (c := 40) (by decide) (n := k) (fun j hj => (dp_40 w (hs _ (getD_mem (by omega)))).2)
      have hsl := w.sl1 hx
      unfold f_M_lengthOf_w9
      dsimp only
      rw [m_many hG (by omega), bnd_some, w32_of (x := (k : Int)) (by omega) (by omega), w32_of (x := ((gR g 0).length : Int)) (by omega) (by omega), if_pos (by omega), m_at hG (by omega) hk, bnd_some, w32_of (x := (gR g 0).getD k (-1)) (by omega) (by omega), if_pos (by omega)]
      have e5 : J 27 5 ((gR g 0).getD k (-1)).toNat = J1 27 5 ((gR g 0).getD k (-1)).toNat := k3.at (by decide) (by omega)
      have e6 : J 27 6 ((gR g 0).getD k (-1)).toNat = J1 27 6 ((gR g 0).getD k (-1)).toNat := k3.at (by decide) (by omega)
      obtain ⟨z1, z2⟩ := l1.sym hx
      rw [e5, e6, z1, z2, w32_of (x := sl (gL g) _) (by omega) (by omega), if_neg (by omega)]
      refine tr_ret ⟨?_, ?_, k3.trans (Fm.sI (by decide) (by omega) (by omega) ⟨rfl, rfl, rfl⟩)⟩
      · rw [take_at (d := -1) hk, ll_app, ll_cons, ll_nil, Int.add_zero]; rfl
      · rw [sI_self, k1]
        unfold imx
        rw [w32_of (x := mT _ k) (by omega) (by omega), w32_of (x := dp g _) (by omega) (by omega)]
        rfl
    · rintro J ⟨k1, k3⟩
      have hG := g1.fm k3 (fun s hs => by omega)
      unfold f_M_lengthOf_w9
      dsimp only
      rw [m_many hG (by omega), bnd_some, w32_of (x := ((gR g 0).length : Int)) (by omega) (by omega), if_neg (by omega)]
      exact tr_ret ⟨by rw [List.take_length], k1, k3⟩
  rw [show (0 : Int) = ((0 : Nat) : Int) from rfl]
  refine tr_call e ?_
  rintro x J2 ⟨rfl, e10, f2⟩
  have f2' : Fm FL J1 J2 := f2.mono (fun a b c z => Or.inr ⟨z.1, z.2.2⟩)
  exact tr_ret ⟨w.2.2.1, e10, g1.fm f2' (fun s hs z => by unfold FL at z; omega), f1.trans f2'⟩
end MTEXT
