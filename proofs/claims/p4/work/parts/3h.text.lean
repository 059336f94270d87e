/-! ===== the class's text: letters, gap, places ===== -/
def LET (l : List Int) : Prop := ∀ x ∈ l, 0 ≤ x ∧ x < 26
def unlN (l : List Int) : Int := sT (fun a => bI (0 < (l.count (a : Int) : Int))) 26
def gapN (l T : List Int) : Int := (if (l.length : Int) < T.length then (T.length : Int) - l.length else (l.length : Int) - T.length) + sT (fun j => if w32 (l.getD j (-1)) = w32 (T.getD j (-1)) then 0 else 1) (min l.length T.length)
def dgN (l : List Int) : Nat → Int
  | 0 => 1
  | k + 1 => dgN l k * 31 + w32 (l.getD k (-1)) + 1
/-- the place in a row that is over a letter's place -/
def pO (L : Nat → Int) (l : List Int) (p : Int) : Int := if fF (fun i => decide (p < ll L (l.take (i + 1)))) l.length 0 = -1 then (l.length : Int) - 1 else fF (fun i => decide (p < ll L (l.take (i + 1)))) l.length 0
section TEXT
variable {I : Mem} {t : Nat} {g : GS} {l : List Int}
theorem s_times (h : TXT I l) (hl : LET l) {a : Int} (ha : 0 ≤ a ∧ a < 26) : f_Sv_timesOfLetter a I = some ((l.count a : Int), I) := by
  obtain ⟨h7, h4, h3⟩ := h
  unfold f_Sv_timesOfLetter
  rw [whl_ro (r := (l.count a : Int)) (s0 := ((0 : Int), (0 : Int))) (fun k => (((l.take k).count a : Int), (k : Int))) l.length (by simp) ?_ ?_, bnd_some]
  · intro k hk
    have q := hl _ (getD_mem (d := -1) hk)
    unfold f_Sv_timesOfLetter_w4
    dsimp only
    rw [w32_of (x := (k : Int)) (by omega) (by omega), h7, w32_of (x := (l.length : Int)) (by omega) (by omega), if_pos (by omega), if_pos (by omega), Int.toNat_natCast, h3 k hk, w32_of (x := a) (by omega) (by omega), w32_of (x := l.getD k (-1)) (by omega) (by omega), take_at (d := -1) hk, List.count_append, List.count_singleton]
    by_cases e : l.getD k (-1) = a
    · rw [if_pos e, if_pos (by simpa using e)]; rfl
    · rw [if_neg e, if_neg (by simpa using e)]; rfl
  · unfold f_Sv_timesOfLetter_w4
    dsimp only
    rw [w32_of (x := (l.length : Int)) (by omega) (by omega), h7, w32_of (x := (l.length : Int)) (by omega) (by omega), if_neg (by omega), List.take_length]
theorem s_unlike (h : TXT I l) (hl : LET l) : f_Sv_unlikeLetters I = some (unlN l, I) := by
  unfold f_Sv_unlikeLetters
  rw [whl_ro (r := unlN l) (s0 := ((0 : Int), (0 : Int))) (fun k => (sT (fun a => bI (0 < (l.count (a : Int) : Int))) k, (k : Int))) 26 rfl ?_ ?_, bnd_some]
  · intro k hk
    have hc : l.count (k : Int) ≤ l.length := List.count_le_length
    have h4 := h.2.1
    unfold f_Sv_unlikeLetters_w4
    dsimp only
    rw [w32_of (x := (k : Int)) (by omega) (by omega), if_pos (by omega), s_times h hl (by omega), bnd_some, w32_of (x := (l.count (k : Int) : Int)) (by omega) (by omega)]
    rfl
  · unfold f_Sv_unlikeLetters_w4
    dsimp only
    rw [if_neg (by decide)]
    rfl
theorem imn_nat (a b : Nat) (ha : a < 1000000) (hb : b < 1000000) : imn (a : Int) (b : Int) = ((min a b : Nat) : Int) := by
  unfold imn
  rw [w32_of (by omega) (by omega), w32_of (by omega) (by omega)]
  split <;> omega
theorem imx_nat (a b : Nat) (ha : a < 1000000) (hb : b < 1000000) : imx (a : Int) (b : Int) = ((max a b : Nat) : Int) := by
  unfold imx
  rw [w32_of (by omega) (by omega), w32_of (by omega) (by omega)]
  split <;> omega
theorem s_gap (h : TXT I l) {r : Nat} {T : List Int} (hr : RW I r T) : f_Sv_unlike r I = some (gapN l T, I) := by
  have hT := hr.len
  obtain ⟨h7, h4, h3⟩ := h
  unfold f_Sv_unlike
  rw [if_pos hr.1, h7, hr.2.1, imn_nat _ _ (by omega) (by omega), imx_nat _ _ (by omega) (by omega)]
  rw [whl_ro (r := gapN l T) (fun k => ((if (l.length : Int) < T.length then (T.length : Int) - l.length else (l.length : Int) - T.length) + sT (fun j => if w32 (l.getD j (-1)) = w32 (T.getD j (-1)) then 0 else 1) k, (k : Int))) (min l.length T.length) ?_ ?_ ?_, bnd_some]
  · refine Prod.ext ?_ rfl
    show ((max l.length T.length : Nat) : Int) - ((min l.length T.length : Nat) : Int) = (if (l.length : Int) < T.length then (T.length : Int) - l.length else (l.length : Int) - T.length) + 0
    split <;> omega
  · intro k hk
    unfold f_Sv_unlike_w29
    dsimp only
    rw [w32_of (x := (k : Int)) (by omega) (by omega), w32_of (x := ((min l.length T.length : Nat) : Int)) (by omega) (by omega), if_pos (by omega), if_pos (by omega), row_at hr (by omega), bnd_some, Int.toNat_natCast, h3 k (by omega), Int.add_assoc]
    rfl
  · unfold f_Sv_unlike_w29
    dsimp only
    rw [w32_of (x := ((min l.length T.length : Nat) : Int)) (by omega) (by omega), if_neg (by omega)]
    rfl
theorem s_number (h : TXT I l) : f_Sv_numberOfText I = some (dgN l l.length, I) := by
  obtain ⟨h7, h4, h3⟩ := h
  unfold f_Sv_numberOfText
  rw [whl_ro (r := dgN l l.length) (s0 := ((1 : Int), (0 : Int))) (fun k => (dgN l k, (k : Int))) l.length rfl ?_ ?_, bnd_some]
  · intro k hk
    unfold f_Sv_numberOfText_w4
    dsimp only
    rw [w32_of (x := (k : Int)) (by omega) (by omega), h7, w32_of (x := (l.length : Int)) (by omega) (by omega), if_pos (by omega), if_pos (by omega), Int.toNat_natCast, h3 k hk]
    rfl
  · unfold f_Sv_numberOfText_w4
    dsimp only
    rw [w32_of (x := (l.length : Int)) (by omega) (by omega), h7, w32_of (x := (l.length : Int)) (by omega) (by omega), if_neg (by omega)]
theorem TXT.fr {J : Mem} {r : Nat} (h : TXT I l) (f : Fm (FR r) I J) : TXT J l := by
  obtain ⟨h7, h4, h3⟩ := h
  exact ⟨by rw [f.at (by decide) (by unfold FR; omega)]; exact h7, h4, fun j hj => by rw [f.at (by decide) (by unfold FR; omega)]; exact h3 j hj⟩
theorem t_writeText (h : TXT I l) {r : Nat} {T : List Int} (hr : RW I r T) : Tr (f_Sv_writeTextTo r I) (fun _ J => RW J r l ∧ Fm (FR r) I J) := by
  have h4 := h.2.1
  unfold f_Sv_writeTextTo
  rw [if_pos hr.1]
  refine tr_call (t_clear hr) ?_
  rintro _ J1 ⟨r1, f1⟩
  refine tr_call (P := fun _ J => RW J r l ∧ Fm (FR r) I J) (tr_cnt (fun k => (k : Int)) (fun k J => RW J r (l.take k) ∧ Fm (FR r) I J) l.length rfl ⟨r1, f1⟩ ?_ ?_) (fun _ _ q => tr_ret q)
  · rintro k J hk ⟨k1, k2⟩
    obtain ⟨h7, -, h3⟩ := h.fr k2
    unfold f_Sv_writeTextTo_w6
    rw [w32_of (x := (k : Int)) (by omega) (by omega), h7, w32_of (x := (l.length : Int)) (by omega) (by omega), if_pos (by omega), if_pos (by omega), Int.toNat_natCast, h3 k hk]
    refine tr_call (t_put k1 (by rw [List.length_take]; omega) _) ?_
    rintro _ K ⟨m1, m2⟩
    exact tr_ret ⟨rfl, by rw [take_at (d := -1) hk]; exact m1, k2.trans m2⟩
  · rintro J ⟨k1, k2⟩
    obtain ⟨h7, -, h3⟩ := h.fr k2
    unfold f_Sv_writeTextTo_w6
    rw [w32_of (x := (l.length : Int)) (by omega) (by omega), h7, w32_of (x := (l.length : Int)) (by omega) (by omega), if_neg (by omega)]
    rw [List.take_length] at k1
    exact tr_ret ⟨k1, k2⟩
def gBegin (g : GS) (l : List Int) : GS := gsN (gsT g l) 3 (nRules g)
theorem t_beginWith (h : TXT I l) (hG : GC I t g) : Tr (f_G_beginWith t I) (fun _ J => GC J t (gBegin g l) ∧ Fm (FG t) I J) := by
  unfold f_G_beginWith
  rw [if_pos hG.1]
  refine tr_call (t_writeText h hG.2.2.1) ?_
  rintro _ J1 ⟨r1, f1⟩
  have h1 := hG.told r1 f1
  rw [g_manyRules h1, bnd_some]
  have e : nRules (gsT g l) = nRules g := rfl
  rw [e]
  exact tr_ret ⟨h1.num (i := 3) (by decide), (f1.mono FR_FG1).trans ((sI_14 (by decide)).mono (FX_FG (by decide)))⟩
theorem g_placeOver (hG : GC I t g) (w : WF g) {i : Nat} (hi : i < 41) {p : Int} (hp : -1000000 ≤ p ∧ p < 1000000) : f_G_placeOver t (rix t i) p I = some (pO (gL g) (gR g i) p, I) := by
  have hr := hG.2.1 i hi
  have hl := hr.len
  have hs := w.sy hi
  have hge : ∀ k : Nat, 0 ≤ ll (gL g) ((gR g i).take k) ∧ ll (gL g) ((gR g i).take k) ≤ 400 := fun k => by
    have h1 := ll_ge (L := gL g) (l := (gR g i).take k) (fun x hx => (w.sl1' hi (List.take_subset _ _ hx)).1)
    have h2 := ll_ge (L := gL g) (l := (gR g i).drop k) (fun x hx => (w.sl1' hi (List.drop_subset _ _ hx)).1)
    have h3 := (w.lle hi).2
    have h4 : ll (gL g) (gR g i) = ll (gL g) ((gR g i).take k) + ll (gL g) ((gR g i).drop k) := by rw [← ll_app, List.take_append_drop]
    omega
  unfold f_G_placeOver
  rw [if_pos hG.1, if_pos hr.1]
  have step : ∀ k : Nat, k < (gR g i).length → f_G_placeOver_w5 t (rix t i) p (ll (gL g) ((gR g i).take k), (k : Int)) I = some (if p < ll (gL g) ((gR g i).take (k + 1)) then .inr (k : Int) else .inl (ll (gL g) ((gR g i).take (k + 1)), (k : Int) + 1), I) := by
    intro k hk
    have h1 := hge (k + 1)
    have q := hs.at hk
    have e : ll (gL g) ((gR g i).take (k + 1)) = ll (gL g) ((gR g i).take k) + sl (gL g) ((gR g i).getD k (-1)) := by rw [take_at (d := -1) hk, ll_app, ll_cons, ll_nil, Int.add_zero]
    unfold f_G_placeOver_w5
    dsimp only
    rw [w32_of (x := (k : Int)) (by omega) (by omega), hr.2.1, w32_of (x := ((gR g i).length : Int)) (by omega) (by omega), if_pos (by omega), row_at hr (by omega), bnd_some, g_lengthOf hG q, bnd_some, ← e, w32_of (x := p) (by omega) (by omega), w32_of (x := ll (gL g) ((gR g i).take (k + 1))) (by omega) (by omega)]
    split <;> rfl
  have last : f_G_placeOver_w5 t (rix t i) p (ll (gL g) ((gR g i).take (gR g i).length), ((gR g i).length : Int)) I = some (.inr (((gR g i).length : Int) - 1), I) := by
    unfold f_G_placeOver_w5
    dsimp only
    rw [w32_of (x := ((gR g i).length : Int)) (by omega) (by omega), hr.2.1, w32_of (x := ((gR g i).length : Int)) (by omega) (by omega), if_neg (by omega)]
  have key : ∀ m k : Nat, k + m = (gR g i).length → whl (f_G_placeOver_w5 t (rix t i) p) (ll (gL g) ((gR g i).take k), (k : Int)) I = some (if fF (fun i' => decide (p < ll (gL g) ((gR g i).take (i' + 1)))) m k = -1 then ((gR g i).length : Int) - 1 else fF (fun i' => decide (p < ll (gL g) ((gR g i).take (i' + 1)))) m k, I) := by
    intro m
    induction m with
    | zero =>
      intro k hk
      have hk : k = (gR g i).length := by omega
      subst hk
      rw [whl_eq, last]
      rfl
    | succ m ih =>
      intro k hk
      rw [whl_eq, step k (by omega)]
      by_cases q : p < ll (gL g) ((gR g i).take (k + 1))
      · have ef : fF (fun i' => decide (p < ll (gL g) ((gR g i).take (i' + 1)))) (m + 1) k = (k : Int) := by rw [fF, if_pos (by simpa using q)]
        rw [ef, if_pos q, if_neg (by omega)]
      · have ef : fF (fun i' => decide (p < ll (gL g) ((gR g i).take (i' + 1)))) (m + 1) k = fF (fun i' => decide (p < ll (gL g) ((gR g i).take (i' + 1)))) m (k + 1) := by rw [fF, if_neg (by simpa using q)]
        rw [ef, if_neg q]
        exact ih (k + 1) (by omega)
  exact key (gR g i).length 0 (by omega)
/-- what the place over says -/
theorem pO_spec {g : GS} (w : WF g) {l : List Int} (hs : ∀ x ∈ l, SYr (gR g) x) {p : Int} (h0 : 0 ≤ p) (hp : p < ll (gL g) l) : ∃ k : Nat, pO (gL g) l p = (k : Int) ∧ k < l.length ∧ ll (gL g) (l.take k) ≤ p ∧ p < ll (gL g) (l.take (k + 1)) := by
  have hne : l ≠ [] := by rintro rfl; rw [ll_nil] at hp; omega
  have hpos := List.length_pos_iff.mpr hne
  have hf : fF (fun i => decide (p < ll (gL g) (l.take (i + 1)))) l.length 0 ≠ -1 := fun z => by
    have := fF_none z (l.length - 1) (Nat.zero_le _) (by omega)
    simp only [decide_eq_false_iff_not] at this
    rw [show l.length - 1 + 1 = l.length by omega, List.take_length] at this
    omega
  obtain ⟨j, h1, h2, h3, h4, h5⟩ := fF_some hf
  refine ⟨j, by unfold pO; rw [if_neg hf, h1], by omega, ?_, by simpa using h4⟩
  cases j with
  | zero => rw [List.take_zero, ll_nil]; exact h0
  | succ j =>
    have := h5 j (Nat.zero_le _) (by omega)
    simp only [decide_eq_false_iff_not] at this
    omega
theorem exL_at {g : GS} (w : WF g) {l : List Int} (hs : ∀ x ∈ l, SYr (gR g) x) {p k : Nat} (hk : k < l.length) (h1 : ll (gL g) (l.take k) ≤ p) (h2 : (p : Int) < ll (gL g) (l.take (k + 1))) : (exL g l).getD p (-1) = (ex g (l.getD k (-1))).getD (p - (ll (gL g) (l.take k)).toNat) (-1) ∧ ((p - (ll (gL g) (l.take k)).toNat : Nat) : Int) < sl (gL g) (l.getD k (-1)) := by
  have e : l = l.take k ++ (l.getD k (-1) :: l.drop (k + 1)) := by rw [← drop_at hk, List.take_append_drop]
  have hA := exL_len w (l := l.take k) (fun x hx => hs x (List.take_subset _ _ hx))
  have hx := hs _ (getD_mem (d := -1) hk)
  have hB := (ex_len w (sl (gL g) (l.getD k (-1))).toNat _ hx (by have := (w.sl1 hx).1; omega)).1
  have e2 : ll (gL g) (l.take (k + 1)) = ll (gL g) (l.take k) + sl (gL g) (l.getD k (-1)) := by rw [take_at (d := -1) hk, ll_app, ll_cons, ll_nil, Int.add_zero]
  have hlt : ((p - (ll (gL g) (l.take k)).toNat : Nat) : Int) < sl (gL g) (l.getD k (-1)) := by omega
  refine ⟨?_, hlt⟩
  have e3 : exL g l = exL g (l.take k) ++ (ex g (l.getD k (-1)) ++ exL g (l.drop (k + 1))) := by
    have := congrArg (exL g) e
    rw [exL_app, exL_cons] at this
    exact this
  rw [e3, getD_r (by omega), getD_l (by omega), show p - (exL g (l.take k)).length = p - (ll (gL g) (l.take k)).toNat by omega]
theorem g_letterOfText (hG : GC I t g) (w : WF g) {p : Nat} (hp : p < (gTx g).length) : f_G_letterOfText t (p : Int) I = some ((gTx g).getD p (-1), I) := by
  have ht := hG.1
  have hlen := exL_len w (w.1 0 (by omega))
  have h400 := (w.lle (i := 0) (by omega)).2
  unfold f_G_letterOfText
  rw [if_pos ht]
  refine tr_ro (tr_whl (fun n s J => ∃ (i q lv : Nat) (st : List (Nat × Nat)), n = 41 - st.length ∧ s = (rix t i, (q : Int), (lv : Int)) ∧ lv = st.length ∧ CHN g ((i, 0) :: st) ∧ (q : Int) < ll (gL g) (gR g i) ∧ (exL g (gR g i)).getD q (-1) = (gTx g).getD p (-1) ∧ J = I) ?_ 41 _ _ ⟨0, p, 0, [], rfl, rfl, rfl, ⟨by omega, Nat.zero_le _, fun _ => rfl, fun z => absurd rfl z, fun q hq => absurd hq List.not_mem_nil, trivial⟩, by unfold gTx at hp; omega, rfl, rfl⟩)
  rintro n s J ⟨i, q, lv, st, rfl, rfl, rfl, hC, hq, he, rfl⟩
  have c1 := hC.1
  have hCl := hC.len
  rw [List.length_cons] at hCl
  have hr := hG.2.1 i c1
  have hrl := hr.len
  have h4 := (w.lle c1).2
  have hs := w.1 i c1
  obtain ⟨k, k1, k2, k3, k4⟩ := pO_spec w hs (p := (q : Int)) (by omega) hq
  obtain ⟨a1, a2⟩ := exL_at w hs k2 k3 k4
  have hx := hs _ (getD_mem (d := -1) k2)
  have hx0 := hx.1
  have hx6 := hx.2.1
  have hgt : 0 ≤ ll (gL g) ((gR g i).take k) := by
    have := ll_ge (L := gL g) (l := (gR g i).take k) (fun x hx => (w.sl1' c1 (List.take_subset _ _ hx)).1)
    omega
  unfold f_G_letterOfText_w10
  dsimp only
  rw [if_pos hr.1, w32_of (x := (st.length : Int)) (by omega) (by omega), if_neg (by omega), g_placeOver hG w c1 (by omega), bnd_some, k1]
  have hw : whl (f_G_letterOfText_w28 t (rix t i) (st.length : Int) (k : Int)) ((q : Int), 0) J = some ((q : Int) - ll (gL g) ((gR g i).take k), J) := by
    refine whl_ro (fun j => ((q : Int) - ll (gL g) ((gR g i).take j), (j : Int))) k (by simp [ll]) (fun j hj => ?_) ?_
    · have qs := (w.sy c1).at (j := j) (by omega)
      unfold f_G_letterOfText_w28
      dsimp only
      rw [w32_of (x := (j : Int)) (by omega) (by omega), w32_of (x := (k : Int)) (by omega) (by omega), if_pos (by omega), row_at hr (by omega), bnd_some, g_lengthOf hG qs, bnd_some, take_at (l := gR g i) (j := j) (d := -1) (by omega), ll_app, ll_cons, ll_nil, Int.add_zero, Int.sub_sub]
      rfl
    · unfold f_G_letterOfText_w28
      dsimp only
      rw [w32_of (x := (k : Int)) (by omega) (by omega), if_neg (by omega)]
  rw [hw, bnd_some, row_at hr (by omega), bnd_some, w32_of (x := (gR g i).getD k (-1)) (by omega) (by omega)]
  by_cases q2 : (gR g i).getD k (-1) < 26
  · rw [if_pos q2]
    rw [ex_letter g q2] at a1
    rw [sl_26 q2] at a2
    refine tr_ret ⟨?_, rfl⟩
    rw [← he, a1, show q - (ll (gL g) ((gR g i).take k)).toNat = 0 by omega]
    rfl
  · obtain ⟨b1, b2, b3, b4, b5, b6⟩ := rule_body w hx (by omega)
    have hC2 := (show CHN g ((i, k) :: st) from ⟨c1, by omega, hC.2.2.1, hC.2.2.2.1, hC.2.2.2.2.1, hC.2.2.2.2.2⟩).push w k2 rfl (by omega)
    have hl2 := hC2.len
    rw [List.length_cons, List.length_cons] at hl2
    rw [ex_rule w hx (by omega)] at a1
    have hb : f_G_body t ((gR g i).getD k (-1) - 26) J = some (rix t (((gR g i).getD k (-1) - 26).toNat + 1), J) := by rw [g_bodyI ht (by omega) (by omega), if_pos (by omega)]
    rw [if_neg q2, hb, bnd_some, if_pos (rix_lt ht (by omega))]
    have e9 : (q : Int) - ll (gL g) ((gR g i).take k) = ((q - (ll (gL g) ((gR g i).take k)).toNat : Nat) : Int) := by omega
    refine tr_ret ⟨41 - (st.length + 1), by omega, ((gR g i).getD k (-1) - 26).toNat + 1, q - (ll (gL g) ((gR g i).take k)).toNat, st.length + 1, (i, k + 1) :: st, rfl, ?_, rfl, hC2, by omega, by rw [← he, a1], rfl⟩
    exact Prod.ext rfl (Prod.ext e9 rfl)
end TEXT
