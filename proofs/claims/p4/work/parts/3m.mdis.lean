/-! ===== the reference: rules dissolve, are inlined; lengths and depths ===== -/
def gDisR (g : GS) (r : Nat) : GS := (gR (gDis g r 0), gT g, gL (gDis g r 0), gA g, gN g)
section MD
variable {I : Mem} {g : GS}
theorem t_unmakes (h : GW I g) (w : WF g) {r : Nat} (hr : r < 40) (hn : gR g (r + 1) ≠ []) : Tr (f_M_unmakes (r : Int) I) (fun x J => x = gUses g r ∧ GW J (gDisR g r) ∧ Fm FW I J) := by
  have hni := w.not_in hr hn
  have hb1 := List.length_pos_iff.mpr hn
  unfold f_M_unmakes
  refine tr_call (P := fun x J => x = gUses g r ∧ GW J (fun i => openL (26 + (r : Int)) (gR g (r + 1)) (gR g i), gT g, gL g, gA g, gN g) ∧ Fm FW I J) (tr_cnt (fun k => (sT (fun i => ((gR g i).count (26 + (r : Int)) : Int)) k, (k : Int))) (fun k J => GW J (fun i => if i < k then openL (26 + (r : Int)) (gR g (r + 1)) (gR g i) else gR g i, gT g, gL g, gA g, gN g) ∧ Fm FW I J) 41 rfl ⟨h.congr (fun i _ => rfl) rfl (fun _ _ => rfl) (fun _ _ => rfl), Fm.refl _ _⟩ ?_ ?_) ?_
  · rintro i J hi ⟨hG, hF⟩
    have hol := w.open_len hr hi hn
    have hli := w.len400 i hi
    have hsy := w.sy hi
    have hbod : gR ((fun j => if j < i then openL (26 + (r : Int)) (gR g (r + 1)) (gR g j) else gR g j, gT g, gL g, gA g, gN g) : GS) (r + 1) = gR g (r + 1) := by
      show (if r + 1 < i then openL (26 + (r : Int)) (gR g (r + 1)) (gR g (r + 1)) else gR g (r + 1)) = _
      split
      · exact openL_none hni
      · rfl
    have hke : gR ((fun j => if j < i then openL (26 + (r : Int)) (gR g (r + 1)) (gR g j) else gR g j, gT g, gL g, gA g, gN g) : GS) i = gR g i := if_neg (Nat.lt_irrefl i)
    have hm := m_many hG hi
    rw [hke] at hm
    unfold f_M_unmakes_w4
    dsimp only
    rw [w32_of (x := (i : Int)) (by omega) (by omega), if_pos (by omega), hm, bnd_some]
    generalize hg' : ((fun j => if j < i then openL (26 + (r : Int)) (gR g (r + 1)) (gR g j) else gR g j, gT g, gL g, gA g, gN g) : GS) = g' at *
    have hni2 : i = r + 1 → (gR g i).count (26 + (r : Int)) = 0 := fun e => by rw [e]; exact hni
    generalize hl : gR g i = l at *
    generalize hbb : gR g (r + 1) = b at *
    generalize hu : sT (fun i => ((gR g i).count (26 + (r : Int)) : Int)) i = u0
    refine tr_call (P := fun x K => x = u0 + (l.count (26 + (r : Int)) : Int) ∧ GW K (gsR g' i (openL (26 + (r : Int)) b l)) ∧ Fm (FWR i) J K) (tr_whl (fun n s K => ∃ f : Nat, f = n ∧ f ≤ l.length ∧ s = (u0 + ((l.drop f).count (26 + (r : Int)) : Int), (f : Int) - 1) ∧ GW K (gsR g' i (l.take f ++ openL (26 + (r : Int)) b (l.drop f))) ∧ Fm (FWR i) J K) ?_ l.length _ _ ⟨l.length, rfl, Nat.le_refl _, by simp, hG.congr (fun j _ => ?_) rfl (fun _ _ => rfl) (fun _ _ => rfl), Fm.refl _ _⟩) ?_
    · rintro n s K ⟨f, rfl, hf, rfl, k1, k2⟩
      unfold f_M_unmakes_w19
      dsimp only
      by_cases q : f = 0
      · subst q
        rw [w32_of (x := ((0 : Nat) : Int) - 1) (by omega) (by omega), if_pos (by omega)]
        exact tr_ret ⟨by rw [List.drop_zero], by rw [List.take_zero, List.drop_zero, List.nil_append] at k1; exact k1, k2⟩
      · have hf1 : f - 1 < l.length := by omega
        have qs := hsy.at hf1
        have htk : l.take f = l.take (f - 1) ++ [l.getD (f - 1) (-1)] := by
          have := take_at (d := -1) hf1
          rwa [show f - 1 + 1 = f by omega] at this
        have hdr : l.drop (f - 1) = l.getD (f - 1) (-1) :: l.drop f := by
          have := drop_at (d := -1) hf1
          rwa [show f - 1 + 1 = f by omega] at this
        have hge := openL_ge (s := 26 + (r : Int)) (b := b) hb1 (l.take (f - 1))
        have hsp : openL (26 + (r : Int)) b l = openL (26 + (r : Int)) b (l.take (f - 1)) ++ openL (26 + (r : Int)) b (l.drop (f - 1)) := by rw [← openL_app, List.take_append_drop]
        have hspl := congrArg List.length hsp
        rw [List.length_append] at hspl
        have htl : (l.take (f - 1)).length = f - 1 := by rw [List.length_take]; omega
        have htl2 : (l.take f).length = f := by rw [List.length_take]; omega
        have hcur : (l.take f ++ openL (26 + (r : Int)) b (l.drop f)).length ≤ 400 := by
          have h1 := openL_len (s := 26 + (r : Int)) (b := b) (l.drop (f - 1))
          have h2 := openL_len (s := 26 + (r : Int)) (b := b) (l.drop f)
          have h3 : (l.drop f).count (26 + (r : Int)) ≤ (l.drop (f - 1)).count (26 + (r : Int)) := by rw [hdr, List.count_cons]; omega
          have h4 : ((l.drop f).count (26 + (r : Int)) : Int) * ((b.length : Int) - 1) ≤ ((l.drop (f - 1)).count (26 + (r : Int)) : Int) * ((b.length : Int) - 1) := Int.mul_le_mul_of_nonneg_right (by omega) (by omega)
          have h5 : (l.drop (f - 1)).length = (l.drop f).length + 1 := by rw [hdr, List.length_cons]
          rw [List.length_append, htl2]
          omega
        have hrow : gR (gsR g' i (l.take f ++ openL (26 + (r : Int)) b (l.drop f))) i = l.take f ++ openL (26 + (r : Int)) b (l.drop f) := up_self _ _ _
        have hat := m_atR (I := K) hi (j := f - 1) (by omega)
        have hcell := (k1.1 i hi).2.2 (f - 1) (by rw [hrow, List.length_append, htl2]; omega)
        rw [hrow, getD_l (by omega), getD_take (by omega)] at hcell
        rw [hcell] at hat
        rw [show (f : Int) - 1 = ((f - 1 : Nat) : Int) by omega, w32_of (x := ((f - 1 : Nat) : Int)) (by omega) (by omega), if_neg (by omega), hat, bnd_some, w32_of (x := l.getD (f - 1) (-1)) (by omega) (by omega), w32_of (x := 26 + (r : Int)) (by omega) (by omega)]
        by_cases e : l.getD (f - 1) (-1) = 26 + (r : Int)
        · have hne : i ≠ r + 1 := fun z => by
            have := List.count_eq_zero.mp (hni2 z)
            exact this (by rw [← e]; exact getD_mem hf1)
          have hbr : gR (gsR g' i (l.take f ++ openL (26 + (r : Int)) b (l.drop f))) (r + 1) = b := by
            show up (gR g') i _ (r + 1) = b
            rw [up_ne (by omega)]; exact hbod
          have hop : openL (26 + (r : Int)) b (l.drop (f - 1)) = b ++ openL (26 + (r : Int)) b (l.drop f) := by rw [hdr, openL_cons, if_pos e]
          have hopl := congrArg List.length hop
          rw [List.length_append] at hopl
          have cl : (l.take f ++ openL (26 + (r : Int)) b (l.drop f)).length = f + (openL (26 + (r : Int)) b (l.drop f)).length := by rw [List.length_append, htl2]
          rw [if_pos e]
          refine tr_call (t_mopens k1 (p := f - 1) hi hr hne (by rw [hrow, cl]; omega) (by rw [hbr]; exact hb1) (by rw [hrow, hbr, cl]; omega)) ?_
          rintro _ K2 ⟨m1, m2⟩
          rw [hrow, hbr] at m1
          have hnew : (l.take f ++ openL (26 + (r : Int)) b (l.drop f)).take (f - 1) ++ b ++ (l.take f ++ openL (26 + (r : Int)) b (l.drop f)).drop (f - 1 + 1) = l.take (f - 1) ++ openL (26 + (r : Int)) b (l.drop (f - 1)) := by
            rw [hop, List.take_append_of_le_length (by omega), List.take_take, show min (f - 1) f = f - 1 by omega, show f - 1 + 1 = (l.take f).length by omega, List.drop_left, List.append_assoc]
          rw [hnew] at m1
          refine tr_ret ⟨f - 1, by omega, f - 1, rfl, by omega, ?_, m1.congr (fun j _ => ?_) rfl (fun _ _ => rfl) (fun _ _ => rfl), k2.trans m2⟩
          · refine Prod.ext ?_ (by show ((f - 1 : Nat) : Int) + -1 = _; omega)
            show u0 + ((l.drop f).count (26 + (r : Int)) : Int) + 1 = u0 + ((l.drop (f - 1)).count (26 + (r : Int)) : Int)
            rw [hdr, List.count_cons, if_pos (by simpa using e)]
            omega
          · show up (gR g') i _ j = up (up (gR g') i _) i _ j
            by_cases z : j = i
            · subst z; rw [up_self, up_self]
            · rw [up_ne z, up_ne z, up_ne z]
        · rw [if_neg e]
          refine tr_ret ⟨f - 1, by omega, f - 1, rfl, by omega, ?_, k1.congr (fun j _ => ?_) rfl (fun _ _ => rfl) (fun _ _ => rfl), k2⟩
          · refine Prod.ext ?_ (by show ((f - 1 : Nat) : Int) + -1 = _; omega)
            show u0 + ((l.drop f).count (26 + (r : Int)) : Int) = u0 + ((l.drop (f - 1)).count (26 + (r : Int)) : Int)
            rw [hdr, List.count_cons, if_neg (by simpa using e)]
            omega
          · show up (gR g') i _ j = up (gR g') i _ j
            have : l.take (f - 1) ++ openL (26 + (r : Int)) b (l.drop (f - 1)) = l.take f ++ openL (26 + (r : Int)) b (l.drop f) := by
              rw [hdr, openL_cons, if_neg e, htk]; simp
            rw [this]
    · show up (gR g') i _ j = gR g' j
      by_cases z : j = i
      · subst z; rw [up_self, List.take_length, List.drop_length, openL_nil, List.append_nil]; exact hke.symm
      · rw [up_ne z]
    · rintro x K ⟨rfl, k1, k2⟩
      refine tr_ret ⟨?_, k1.congr (fun j _ => ?_) ?_ (fun j _ => ?_) (fun j _ => ?_), hF.trans (k2.mono FWR_FW)⟩
      · refine Prod.ext ?_ rfl
        show u0 + _ = sT (fun i => ((gR g i).count (26 + (r : Int)) : Int)) i + ((gR g i).count (26 + (r : Int)) : Int)
        rw [hu, hl]
      · show (if j < i + 1 then openL (26 + (r : Int)) b (gR g j) else gR g j) = up (gR g') i (openL (26 + (r : Int)) b l) j
        by_cases z : j = i
        · subst z; rw [if_pos (by omega), up_self, hl]
        · rw [up_ne z, ← hg']
          show _ = if j < i then openL (26 + (r : Int)) b (gR g j) else gR g j
          by_cases z2 : j < i
          · rw [if_pos z2, if_pos (by omega)]
          · rw [if_neg z2, if_neg (by omega)]
      · show gT g = gT g'; rw [← hg']
      · show gA g j = gA g' j; rw [← hg']
      · show gN g j = gN g' j; rw [← hg']
  · rintro J ⟨hG, hF⟩
    unfold f_M_unmakes_w4
    dsimp only
    rw [if_neg (by decide)]
    refine tr_ret ⟨rfl, hG.congr (fun i hi => ?_) rfl (fun _ _ => rfl) (fun _ _ => rfl), hF⟩
    show _ = (if i < 41 then openL (26 + (r : Int)) (gR g (r + 1)) (gR g i) else gR g i)
    rw [if_pos hi]
  rintro x J ⟨rfl, k1, k2⟩
  unfold f_M_removes
  rw [w32_of (by omega) (by omega), if_pos (by omega), show ((16 : Int) + (r : Int) + 1).toNat = 16 + (r + 1) by omega]
  have f := fwr_m (I := J) (i := r + 1) (v := 0)
  refine tr_ret ⟨rfl, (k1.row (i := r + 1) (l := []) (by omega) (by simp) (sI_self ..) (fun j hj => absurd hj (Nat.not_lt_zero j)) f).congr (fun j _ => ?_) rfl (fun _ _ => rfl) (fun _ _ => rfl), k2.trans (f.mono FWR_FW)⟩
  show (if j = r + 1 then [] else openL (26 + (r : Int)) (gR g (r + 1)) (gR g j)) = up (fun i => openL (26 + (r : Int)) (gR g (r + 1)) (gR g i)) (r + 1) [] j
  by_cases e : j = r + 1
  · subst e; rw [if_pos rfl, up_self]
  · rw [if_neg e, up_ne e]
theorem gDisR_acc (g : GS) (r c : Nat) : gsA (gDisR g r) c (gA (gDisR g r) c + 1) = gDis g r c := rfl
theorem t_minlines (h : GW I g) (w : WF g) : Tr (f_M_inlines I) (fun x J => x = ((inlG 40 g).1 : Int) ∧ GW J (inlG 40 g).2 ∧ Fm FW I J) := by
  unfold f_M_inlines
  rw [m_lonely h (fun i hi => w.sy hi), bnd_some]
  refine tr_call (P := fun x J => x = ((inlG 40 g).1 : Int) ∧ GW J (inlG 40 g).2 ∧ Fm FW I J) (tr_whl (fun n s J => ∃ (k : Nat) (g' : GS), n = 40 - k ∧ k ≤ 40 ∧ s = ((k : Int), gLonely g') ∧ GW J g' ∧ WF g' ∧ nRules g' ≤ 40 - (k : Int) ∧ (inlG 40 g).1 = k + (inlG (40 - k) g').1 ∧ (inlG 40 g).2 = (inlG (40 - k) g').2 ∧ Fm FW I J) ?_ 40 _ _ ⟨0, g, rfl, by omega, rfl, h, w, by have := (nRules_rng g).2; omega, by simp, rfl, Fm.refl _ _⟩) (fun _ _ q => tr_ret q)
  rintro n s J ⟨k, g', rfl, hk, rfl, hG, hW, hR, e1, e2, hF⟩
  have hlr : -1 ≤ gLonely g' ∧ gLonely g' < 40 := by
    rcases fF_rng (p := fun r => decide (gR g' (r + 1) ≠ [] ∧ gUses g' r < 2)) 40 0 with z | z
    · have z : -1 ≤ gLonely g' ∧ gLonely g' < (0 : Nat) + (40 : Nat) := z; omega
    · have z : gLonely g' = -1 := z; omega
  unfold f_M_inlines_w7
  dsimp only
  rw [w32_of (x := gLonely g') (by omega) (by omega)]
  by_cases ql : gLonely g' = -1
  · rw [if_pos ql]
    rw [inlG_none ql] at e1 e2
    have e2 : (inlG 40 g).2 = g' := e2
    refine tr_ret ?_
    show (k : Int) = _ ∧ GW J (inlG 40 g).2 ∧ _
    rw [e1, e2]
    exact ⟨by omega, hG, hF⟩
  · obtain ⟨r1, r2, r3, r4⟩ := gLonely_spec ql
    have hpos := nRules_pos r1 r3
    have hur := gUses_nn g' (gLonely g').toNat
    have e3 : inlG (40 - k) g' = ((inlG (40 - (k + 1)) (gDis g' (gLonely g').toNat (if 0 < gUses g' (gLonely g').toNat then 2 else 3))).1 + 1, (inlG (40 - (k + 1)) (gDis g' (gLonely g').toNat (if 0 < gUses g' (gLonely g').toNat then 2 else 3))).2) := by
      rw [show 40 - k = (40 - (k + 1)) + 1 by omega, inlG_some ql]
    rw [e3] at e1 e2
    rw [if_neg ql, r2]
    refine tr_call (t_unmakes hG hW r1 r3) ?_
    rintro _ K ⟨rfl, k1, k2⟩
    have hcn : (if 0 < w32 (gUses g' (gLonely g').toNat) then (2 : Int) else 3) = (((if 0 < gUses g' (gLonely g').toNat then 2 else 3) : Nat) : Int) := by
      rw [w32_of (by omega) (by omega)]
      split <;> rfl
    rw [hcn]
    refine tr_call (t_mcounts k1 (a := if 0 < gUses g' (gLonely g').toNat then 2 else 3) (by split <;> omega) 1) ?_
    rintro _ K2 ⟨k3, k4⟩
    rw [gDisR_acc] at k3
    have hW2 := hW.dis r1 r3 (if 0 < gUses g' (gLonely g').toNat then 2 else 3)
    rw [m_lonely k3 (fun i hi => hW2.sy hi), bnd_some]
    exact tr_ret ⟨40 - (k + 1), by omega, k + 1, _, rfl, by omega, rfl, k3, hW2, by rw [(size_dis hW r1 r3 _).2]; omega, by rw [e1]; omega, e2, hF.trans (k2.trans k4)⟩
/-- lengths and depths so far -/
def PLN (J : Mem) (g : GS) : Prop := (∀ x : Nat, x < 26 → J 27 5 x = 1 ∧ J 27 6 x = 0) ∧ ∀ r : Nat, r < 40 → (J 27 5 (26 + r) = 0 ∨ gR g (r + 1) ≠ [] ∧ J 27 5 (26 + r) = gL g r ∧ J 27 6 (26 + r) = dp g (26 + (r : Int)))
def LN (J : Mem) (g : GS) : Prop := (∀ x : Nat, x < 26 → J 27 5 x = 1 ∧ J 27 6 x = 0) ∧ ∀ r : Nat, r < 40 → gR g (r + 1) ≠ [] → J 27 5 (26 + r) = gL g r ∧ J 27 6 (26 + r) = dp g (26 + (r : Int))
abbrev FL : FP := fun k i s => (k = 27 ∧ (i = 5 ∨ i = 6)) ∨ (k = 26 ∧ s = 10)
theorem PLN.sym {J : Mem} (h : PLN J g) (w : WF g) {x : Int} (hx : SYr (gR g) x) : J 27 5 x.toNat = 0 ∨ (J 27 5 x.toNat = sl (gL g) x ∧ J 27 6 x.toNat = dp g x) := by
  have h0 := hx.1
  have h6 := hx.2.1
  by_cases q : x < 26
  · right
    have := h.1 x.toNat (by omega)
    rw [sl_26 q, dp_letter g q]
    exact this
  · have := h.2 (x - 26).toNat (by omega)
    rw [show 26 + (x - 26).toNat = x.toNat by omega] at this
    rcases this with z | ⟨-, z1, z2⟩
    · exact Or.inl z
    · right
      refine ⟨by rw [z1]; unfold sl; rw [if_neg q], by rw [z2]; congr 1; omega⟩
theorem t_mlengthOf (h : GW I g) (w : WF g) (hP : PLN I g) {i : Nat} (hi : i < 41) : Tr (f_M_lengthOf (i : Int) I) (fun x J => ((x = 0 ∧ ∃ y ∈ gR g i, I 27 5 y.toNat = 0) ∨ (x = ll (gL g) (gR g i) ∧ J 26 0 10 = mxd (dp g) (gR g i) ∧ ∀ y ∈ gR g i, I 27 5 y.toNat ≠ 0)) ∧ Fm (fun k i s => k = 26 ∧ i = 0 ∧ s = 10) I J) := by
  have hl4 := w.len400 i hi
  have hs := w.1 i hi
  have hsy := w.sy hi
  unfold f_M_lengthOf
  show Tr (whl (f_M_lengthOf_w9 (i : Int)) (0, 0) (sI I 26 0 10 0)) _
  refine tr_cnt (fun k => (ll (gL g) ((gR g i).take k), (k : Int))) (fun k J => J 26 0 10 = mT (fun j => dp g ((gR g i).getD j (-1))) k ∧ (∀ j : Nat, j < k → I 27 5 ((gR g i).getD j (-1)).toNat ≠ 0) ∧ Fm (fun k i s => k = 26 ∧ i = 0 ∧ s = 10) I J) (gR g i).length (by simp [ll]) ⟨sI_self .., fun j hj => absurd hj (Nat.not_lt_zero j), Fm.sI (by decide) (by omega) (by omega) ⟨rfl, rfl, rfl⟩⟩ ?_ ?_
  · rintro k J hk ⟨k1, k2, k3⟩
    have hG := h.fm k3 (fun s hs => by omega)
    have q := hsy.at hk
    have hm := getD_mem (d := -1) hk
    have hx := hs _ hm
    have hdr := dp_40 w hx
    have hmt := mT_le (f := fun j => dp g ((gR g i).getD j (-1))) (c := 40) (by decide) (n := k) (fun j hj => (dp_40 w (hs _ (getD_mem (by omega)))).2)
    have hsl := w.sl1 hx
    unfold f_M_lengthOf_w9
    dsimp only
    rw [m_many hG hi, bnd_some, w32_of (x := (k : Int)) (by omega) (by omega), w32_of (x := ((gR g i).length : Int)) (by omega) (by omega), if_pos (by omega), m_at hG hi hk, bnd_some, w32_of (x := (gR g i).getD k (-1)) (by omega) (by omega), if_pos (by omega)]
    have e5 : J 27 5 ((gR g i).getD k (-1)).toNat = I 27 5 ((gR g i).getD k (-1)).toNat := k3.at (by decide) (by omega)
    have e6 : J 27 6 ((gR g i).getD k (-1)).toNat = I 27 6 ((gR g i).getD k (-1)).toNat := k3.at (by decide) (by omega)
    rw [e5, e6]
    rcases hP.sym w hx with z | ⟨z1, z2⟩
    · rw [z, if_pos (by decide)]
      exact tr_ret ⟨Or.inl ⟨rfl, _, hm, z⟩, k3⟩
    · rw [z1, z2, w32_of (x := sl (gL g) _) (by omega) (by omega), if_neg (by omega)]
      refine tr_ret ⟨?_, ?_, fun j hj => ?_, k3.trans (Fm.sI (by decide) (by omega) (by omega) ⟨rfl, rfl, rfl⟩)⟩
      · rw [take_at (d := -1) hk, ll_app, ll_cons, ll_nil, Int.add_zero]; rfl
      · rw [sI_self, k1]
        unfold imx
        rw [w32_of (x := mT _ k) (by omega) (by omega), w32_of (x := dp g _) (by omega) (by omega)]
        rfl
      · by_cases e : j = k
        · rw [e, z1]; omega
        · exact k2 j (by omega)
  · rintro J ⟨k1, k2, k3⟩
    have hG := h.fm k3 (fun s hs => by omega)
    unfold f_M_lengthOf_w9
    dsimp only
    rw [m_many hG hi, bnd_some, w32_of (x := ((gR g i).length : Int)) (by omega) (by omega), if_neg (by omega)]
    refine tr_ret ⟨Or.inr ⟨by rw [List.take_length], k1, fun y hy => ?_⟩, k3⟩
    obtain ⟨j, hj, ej⟩ := List.mem_iff_getElem.mp hy
    have := k2 j hj
    rw [show (gR g i).getD j (-1) = y by simp [List.getD_eq_getElem?_getD, hj, ej]] at this
    exact this
def zcN (J : Mem) (g : GS) : Int := sT (fun r => bI (gR g (r + 1) ≠ [] ∧ J 27 5 (26 + r) = 0)) 40
theorem t_laysLengths (h : GW I g) (w : WF g) : Tr (f_M_laysLengths I) (fun _ J => LN J g ∧ GW J g ∧ Fm FL I J) := by
  unfold f_M_laysLengths
  refine tr_call (P := fun _ J => (∀ x : Nat, x < 66 → J 27 5 x = (if x < 26 then 1 else 0) ∧ J 27 6 x = 0) ∧ Fm FL I J) (tr_cnt (fun k => (k : Int)) (fun k J => (∀ x : Nat, x < k → J 27 5 x = (if x < 26 then 1 else 0) ∧ J 27 6 x = 0) ∧ Fm FL I J) 66 rfl ⟨fun x hx => absurd hx (Nat.not_lt_zero x), Fm.refl _ _⟩ ?_ ?_) ?_
  · rintro k J hk ⟨k1, k2⟩
    unfold f_M_laysLengths_w2
    rw [w32_of (by omega) (by omega), if_pos (by omega), m_oneI, bnd_some, if_pos (by omega), Int.toNat_natCast]
    refine tr_ret ⟨rfl, fun x hx => ?_, k2.trans ((Fm.sI (by decide) (by omega) (by omega) (Or.inl ⟨rfl, Or.inl rfl⟩)).trans (Fm.sI (by decide) (by omega) (by omega) (Or.inl ⟨rfl, Or.inr rfl⟩)))⟩
    by_cases e : x = k
    · subst e
      rw [sI_ne (by omega), sI_self, sI_self]
      refine ⟨?_, rfl⟩
      by_cases z : x < 26
      · rw [bI_pos (by omega), if_pos z]
      · rw [bI_neg (by omega), if_neg z]
    · rw [sI_ne (by omega), sI_ne (by omega), sI_ne (by omega), sI_ne (by omega)]
      exact k1 x (by omega)
  · rintro J ⟨k1, k2⟩
    unfold f_M_laysLengths_w2
    rw [if_neg (by decide)]
    exact tr_ret ⟨k1, k2⟩
  rintro _ J1 ⟨z1, f1⟩
  have hP1 : PLN J1 g := ⟨fun x hx => by have := z1 x (by omega); rw [if_pos hx] at this; exact this, fun r hr => Or.inl (by have := (z1 (26 + r) (by omega)).1; rw [if_neg (by omega)] at this; exact this)⟩
  have zr : ∀ J : Mem, 0 ≤ zcN J g ∧ zcN J g ≤ 40 := fun J => by
    have := sT_rng (f := fun r => bI (gR g (r + 1) ≠ [] ∧ J 27 5 (26 + r) = 0)) (c := 1) (n := 40) (fun k _ => by have := bI_01 (gR g (k + 1) ≠ [] ∧ J 27 5 (26 + k) = 0); omega)
    unfold zcN; omega
  refine tr_call (P := fun _ J => LN J g ∧ GW J g ∧ Fm FL I J) (tr_whl (fun n s J => ∃ m : Nat, (m : Int) = zcN J g ∧ (s = 1 ∧ n = 2 * m + 1 ∨ s = 0 ∧ n = 2 * m ∧ LN J g) ∧ PLN J g ∧ Fm FL I J) ?_ (2 * (zcN J1 g).toNat + 1) _ _ ⟨(zcN J1 g).toNat, by have := zr J1; omega, Or.inl ⟨rfl, rfl⟩, hP1, f1⟩) (fun _ _ q => tr_ret q)
  rintro n s J ⟨m, hm, hs, hP, hF⟩
  have hGJ : GW J g := h.fm hF (fun s hs z => by unfold FL at z; omega)
  unfold f_M_laysLengths_w43
  rcases hs with ⟨rfl, rfl⟩ | ⟨rfl, rfl, hL⟩
  · rw [if_neg (by decide)]
    -- a pass
    refine tr_call (P := fun x K => PLN K g ∧ Fm FL I K ∧ ((x = 1 ∧ zcN K g < zcN J g) ∨ (x = 0 ∧ zcN K g = zcN J g ∧ LN K g))) (tr_whl (fun n s K => ∃ (k : Nat) (fl : Int), n = 40 - k ∧ k ≤ 40 ∧ s = (fl, (k : Int)) ∧ PLN K g ∧ Fm FL I K ∧ ((fl = 1 ∧ zcN K g < zcN J g) ∨ (fl = 0 ∧ (∀ r : Nat, r < 40 → K 27 5 (26 + r) = J 27 5 (26 + r)) ∧ ∀ r : Nat, r < k → gR g (r + 1) ≠ [] → J 27 5 (26 + r) = 0 → ∃ y ∈ gR g (r + 1), J 27 5 y.toNat = 0))) ?_ 40 _ _ ⟨0, 0, rfl, by omega, rfl, hP, hF, Or.inr ⟨rfl, fun _ _ => rfl, fun r hr => absurd hr (Nat.not_lt_zero r)⟩⟩) ?_
    · rintro n s K ⟨k, fl, rfl, hk, rfl, hPK, hFK, hfl⟩
      have hGK : GW K g := h.fm hFK (fun s hs z => by unfold FL at z; omega)
      unfold f_M_laysLengths_w51
      dsimp only
      rw [w32_of (x := (k : Int)) (by omega) (by omega)]
      have flr : -1 ≤ fl ∧ fl ≤ 1 := by rcases hfl with z | z <;> omega
      by_cases q : k < 40
      · rw [if_pos (by omega), m_isHere hGK q, bnd_some]
        -- go on without a change
        have skip : (gR g (k + 1) = [] ∨ K 27 5 (26 + k) ≠ 0) → Tr (some (Sum.inl (fl, (k : Int) + 1), K)) (LQ (fun s' K' => ∃ m : Nat, m < 40 - k ∧ ∃ (k : Nat) (fl : Int), m = 40 - k ∧ k ≤ 40 ∧ s' = (fl, (k : Int)) ∧ PLN K' g ∧ Fm FL I K' ∧ ((fl = 1 ∧ zcN K' g < zcN J g) ∨ (fl = 0 ∧ (∀ r : Nat, r < 40 → K' 27 5 (26 + r) = J 27 5 (26 + r)) ∧ ∀ r : Nat, r < k → gR g (r + 1) ≠ [] → J 27 5 (26 + r) = 0 → ∃ y ∈ gR g (r + 1), J 27 5 y.toNat = 0))) (fun (x : Int) (K : Mem) => PLN K g ∧ Fm FL I K ∧ ((x = 1 ∧ zcN K g < zcN J g) ∨ (x = 0 ∧ zcN K g = zcN J g ∧ LN K g)))) := by
          intro hq
          refine tr_ret ⟨40 - (k + 1), by omega, k + 1, fl, rfl, by omega, rfl, hPK, hFK, ?_⟩
          rcases hfl with z | ⟨z1, z2, z3⟩
          · exact Or.inl z
          · refine Or.inr ⟨z1, z2, fun r hr hn h0 => ?_⟩
            by_cases e : r = k
            · subst e
              rcases hq with y | y
              · exact absurd y hn
              · exact absurd (by rw [z2 r q]; exact h0) y
            · exact z3 r (by omega) hn h0
        by_cases e : gR g (k + 1) = []
        · rw [if_pos (wb_neg (fun z => z e))]
          exact skip (Or.inl e)
        · have hsr : SYr (gR g) (26 + (k : Int)) := ⟨by omega, by omega, fun _ => by rw [show (26 + (k : Int) - 26).toNat = k by omega]; exact e⟩
          have hbody := w.2.1 k q e
          have hdpr := dp_rule w hsr (by omega)
          rw [show (26 + (k : Int) - 26).toNat = k by omega] at hdpr
          rw [if_neg (wb_pos e), w32_of (x := 26 + (k : Int)) (by omega) (by omega), if_pos (by omega), show ((26 : Int) + (k : Int)).toNat = 26 + k by omega]
          by_cases q5 : K 27 5 (26 + k) = 0
          · rw [q5, if_neg (by decide), show (k : Int) + 1 = ((k + 1 : Nat) : Int) from rfl]
            refine tr_call (t_mlengthOf hGK w hPK (i := k + 1) (by omega)) ?_
            rintro x L ⟨hx, fL⟩
            have e10 : sI L 27 5 (26 + k) x 26 0 10 = L 26 0 10 := sI_ne (by omega)
            show Tr (if w32 fl = 0 then (if 0 < w32 (sI (sI L 27 5 (26 + k) x) 27 6 (26 + k) (sI L 27 5 (26 + k) x 26 0 10 + 1) 27 5 (26 + k)) then some (Sum.inl (1, ((k + 1 : Nat) : Int)), sI (sI L 27 5 (26 + k) x) 27 6 (26 + k) (sI L 27 5 (26 + k) x 26 0 10 + 1)) else some (Sum.inl (0, ((k + 1 : Nat) : Int)), sI (sI L 27 5 (26 + k) x) 27 6 (26 + k) (sI L 27 5 (26 + k) x 26 0 10 + 1))) else some (Sum.inl (1, ((k + 1 : Nat) : Int)), sI (sI L 27 5 (26 + k) x) 27 6 (26 + k) (sI L 27 5 (26 + k) x 26 0 10 + 1))) _
            rw [e10]
            generalize hM : sI (sI L 27 5 (26 + k) x) 27 6 (26 + k) (L 26 0 10 + 1) = M
            have m5 : M 27 5 (26 + k) = x := by rw [← hM, sI_ne (by omega), sI_self]
            have m6 : M 27 6 (26 + k) = L 26 0 10 + 1 := by rw [← hM, sI_self]
            have mo : ∀ y : Nat, y ≠ 26 + k → M 27 5 y = K 27 5 y ∧ M 27 6 y = K 27 6 y := fun y hy => by
              rw [← hM, sI_ne (by omega), sI_ne (by omega), sI_ne (by omega), sI_ne (by omega), fL.at (by decide) (by omega), fL.at (by decide) (by omega)]
              exact ⟨rfl, rfl⟩
            have fM : Fm FL I M := by
              rw [← hM]
              exact (hFK.trans (fL.mono (fun a b c z => Or.inr ⟨z.1, z.2.2⟩))).trans ((Fm.sI (by decide) (by omega) (by omega) (Or.inl ⟨rfl, Or.inl rfl⟩)).trans (Fm.sI (by decide) (by omega) (by omega) (Or.inl ⟨rfl, Or.inr rfl⟩)))
            rw [w32_of (x := fl) (by omega) (by omega), m5]
            rcases hx with ⟨rfl, y, hy, hy0⟩ | ⟨rfl, hd, hall⟩
            · -- still none
              have hPM : PLN M g := ⟨fun x hx => by rw [(mo x (by omega)).1, (mo x (by omega)).2]; exact hPK.1 x hx, fun r hr => by
                by_cases z : r = k
                · subst z; exact Or.inl m5
                · rw [(mo _ (by omega)).1, (mo _ (by omega)).2]; exact hPK.2 r hr⟩
              have hz5 : ∀ r : Nat, r < 40 → M 27 5 (26 + r) = K 27 5 (26 + r) := fun r hr => by
                by_cases z : r = k
                · subst z; rw [m5, q5]
                · exact (mo _ (by omega)).1
              have hzc : zcN M g = zcN K g := by
                unfold zcN
                exact sT_congr (fun r hr => by rw [hz5 r hr])
              have hnx : ∀ f2 : Int, f2 = fl → Tr (some (Sum.inl (f2, ((k + 1 : Nat) : Int)), M)) (LQ (fun s' K' => ∃ m : Nat, m < 40 - k ∧ ∃ (k : Nat) (fl : Int), m = 40 - k ∧ k ≤ 40 ∧ s' = (fl, (k : Int)) ∧ PLN K' g ∧ Fm FL I K' ∧ ((fl = 1 ∧ zcN K' g < zcN J g) ∨ (fl = 0 ∧ (∀ r : Nat, r < 40 → K' 27 5 (26 + r) = J 27 5 (26 + r)) ∧ ∀ r : Nat, r < k → gR g (r + 1) ≠ [] → J 27 5 (26 + r) = 0 → ∃ y ∈ gR g (r + 1), J 27 5 y.toNat = 0))) (fun (x : Int) (K : Mem) => PLN K g ∧ Fm FL I K ∧ ((x = 1 ∧ zcN K g < zcN J g) ∨ (x = 0 ∧ zcN K g = zcN J g ∧ LN K g)))) := by
                rintro f2 rfl
                refine tr_ret ⟨40 - (k + 1), by omega, k + 1, f2, rfl, by omega, rfl, hPM, fM, ?_⟩
                rcases hfl with z | ⟨z1, z2, z3⟩
                · exact Or.inl ⟨z.1, by rw [hzc]; exact z.2⟩
                · refine Or.inr ⟨z1, fun r hr => by rw [hz5 r hr]; exact z2 r hr, fun r hr hn h0 => ?_⟩
                  by_cases e2 : r = k
                  · subst e2
                    refine ⟨y, hy, ?_⟩
                    have hyS := w.1 (r + 1) (by omega) y hy
                    have y0 := hyS.1
                    have y6 := hyS.2.1
                    by_cases yl : y < 26
                    · have := (hPK.1 y.toNat (by omega)).1
                      rw [hy0] at this; cases this
                    · rw [show y.toNat = 26 + (y.toNat - 26) by omega, ← z2 _ (by omega), show 26 + (y.toNat - 26) = y.toNat by omega]
                      exact hy0
                  · exact z3 r (by omega) hn h0
              by_cases f0 : fl = 0
              · rw [if_pos f0, if_neg (by decide)]; exact hnx 0 f0.symm
              · rw [if_neg f0]; exact hnx 1 (by rcases hfl with z | z; exact z.1.symm; exact absurd z.1 f0)
            · -- found
              have hlen1 : ll (gL g) (gR g (k + 1)) = gL g k := hbody.2.1.symm
              rw [hlen1] at m5 ⊢
              have hPM : PLN M g := ⟨fun x hx => by rw [(mo x (by omega)).1, (mo x (by omega)).2]; exact hPK.1 x hx, fun r hr => by
                by_cases z : r = k
                · subst z; exact Or.inr ⟨e, m5, by rw [m6, hd, hdpr]; omega⟩
                · rw [(mo _ (by omega)).1, (mo _ (by omega)).2]; exact hPK.2 r hr⟩
              have hzc : zcN M g < zcN K g := by
                unfold zcN
                rw [sT_up (f := fun r => bI (gR g (r + 1) ≠ [] ∧ K 27 5 (26 + r) = 0)) (h := fun r => bI (gR g (r + 1) ≠ [] ∧ M 27 5 (26 + r) = 0)) (r := k) q (fun j _ hj => by
                  show bI (gR g (j + 1) ≠ [] ∧ M 27 5 (26 + j) = 0) = bI (gR g (j + 1) ≠ [] ∧ K 27 5 (26 + j) = 0)
                  rw [(mo (26 + j) (by omega)).1])]
                rw [bI_neg (fun z => by have := z.2; rw [m5] at this; omega), bI_pos ⟨e, q5⟩]
                omega
              have hzle : zcN K g ≤ zcN J g := by
                rcases hfl with z | ⟨z1, z2, z3⟩
                · omega
                · unfold zcN
                  rw [sT_congr (fun r hr => by rw [z2 r hr])]
                  exact Int.le_refl _
              have hnx : Tr (some (Sum.inl (1, ((k + 1 : Nat) : Int)), M)) (LQ (fun s' K' => ∃ m : Nat, m < 40 - k ∧ ∃ (k : Nat) (fl : Int), m = 40 - k ∧ k ≤ 40 ∧ s' = (fl, (k : Int)) ∧ PLN K' g ∧ Fm FL I K' ∧ ((fl = 1 ∧ zcN K' g < zcN J g) ∨ (fl = 0 ∧ (∀ r : Nat, r < 40 → K' 27 5 (26 + r) = J 27 5 (26 + r)) ∧ ∀ r : Nat, r < k → gR g (r + 1) ≠ [] → J 27 5 (26 + r) = 0 → ∃ y ∈ gR g (r + 1), J 27 5 y.toNat = 0))) (fun (x : Int) (K : Mem) => PLN K g ∧ Fm FL I K ∧ ((x = 1 ∧ zcN K g < zcN J g) ∨ (x = 0 ∧ zcN K g = zcN J g ∧ LN K g)))) :=
                tr_ret ⟨40 - (k + 1), by omega, k + 1, 1, rfl, by omega, rfl, hPM, fM, Or.inl ⟨rfl, by omega⟩⟩
              rw [w32_of (x := gL g k) (by omega) (by omega)]
              by_cases f0 : fl = 0
              · rw [if_pos f0, if_pos (by omega)]; exact hnx
              · rw [if_neg f0]; exact hnx
          · have h5 : 0 < w32 (K 27 5 (26 + k)) := by
              rcases hPK.2 k q with z | ⟨-, z, -⟩
              · exact absurd z q5
              · rw [z, w32_of (by omega) (by omega)]; omega
            rw [if_pos h5]
            exact skip (Or.inr q5)
      · rw [if_neg (by omega)]
        have hk : k = 40 := by omega
        subst hk
        refine tr_ret ⟨hPK, hFK, ?_⟩
        rcases hfl with z | ⟨z1, z2, z3⟩
        · exact Or.inl z
        · refine Or.inr ⟨z1, by unfold zcN; exact sT_congr (fun r hr => by rw [z2 r hr]), hPK.1, ?_⟩
          -- no rule without a length is left
          have none0 : ∀ n : Nat, ∀ r : Nat, r < 40 → gR g (r + 1) ≠ [] → gL g r ≤ n → J 27 5 (26 + r) ≠ 0 := by
            intro n
            induction n with
            | zero => intro r hr hn hle; have := (w.2.1 r hr hn).2.2.2; omega
            | succ n ih =>
              intro r hr hn hle h0
              obtain ⟨y, hy, hy0⟩ := z3 r hr hn h0
              have hyS := w.1 (r + 1) (by omega) y hy
              have y0 := hyS.1
              have y6 := hyS.2.1
              have hsr : SYr (gR g) (26 + (r : Int)) := ⟨by omega, by omega, fun _ => by rw [show (26 + (r : Int) - 26).toNat = r by omega]; exact hn⟩
              by_cases yl : y < 26
              · have := (hP.1 y.toNat (by omega)).1
                rw [hy0] at this; cases this
              · obtain ⟨-, b2, -, -, -, b6⟩ := rule_body w hsr (by omega)
                rw [show (26 + (r : Int) - 26).toNat = r by omega] at b2 b6
                have c2 := (b6 y hy).2
                have hyb := rule_body w hyS (by omega)
                refine ih (y - 26).toNat hyb.1 hyb.2.2.1 (by rw [← hyb.2.1]; omega) ?_
                rw [show 26 + (y - 26).toNat = y.toNat by omega]
                exact hy0
          intro r hr hn
          have hne := none0 400 r hr hn (by have := (w.2.1 r hr hn).2.2.1; omega)
          rcases hPK.2 r hr with z | ⟨-, z, z'⟩
          · rw [z2 r hr] at z; exact absurd z hne
          · exact ⟨z, z'⟩
    · rintro x K ⟨p1, p2, p3⟩
      have hzk := zr K
      rcases p3 with ⟨rfl, z⟩ | ⟨rfl, z, hL⟩
      · exact tr_ret ⟨2 * (zcN K g).toNat + 1, by omega, (zcN K g).toNat, by omega, Or.inl ⟨rfl, rfl⟩, p1, p2⟩
      · exact tr_ret ⟨2 * m, by omega, m, by omega, Or.inr ⟨rfl, rfl, hL⟩, p1, p2⟩
  · rw [if_pos (by decide)]
    exact tr_ret ⟨hL, hGJ, hF⟩
theorem LN.pln {J : Mem} (h : LN J g) (w : WF g) (h0 : ∀ r : Nat, r < 40 → gR g (r + 1) = [] → J 27 5 (26 + r) = 0) : PLN J g := ⟨h.1, fun r hr => by
  by_cases e : gR g (r + 1) = []
  · exact Or.inl (h0 r hr e)
  · exact Or.inr ⟨e, h.2 r hr e⟩⟩
theorem LN.sym {J : Mem} (h : LN J g) {x : Int} (hx : SYr (gR g) x) : J 27 5 x.toNat = sl (gL g) x ∧ J 27 6 x.toNat = dp g x := by
  have h0 := hx.1
  have h6 := hx.2.1
  by_cases q : x < 26
  · rw [sl_26 q, dp_letter g q]
    exact h.1 x.toNat (by omega)
  · have := h.2 (x - 26).toNat (by omega) (hx.2.2 (by omega))
    rw [show 26 + (x - 26).toNat = x.toNat by omega] at this
    refine ⟨by rw [this.1]; unfold sl; rw [if_neg q], by rw [this.2]; congr 1; omega⟩
end MD
