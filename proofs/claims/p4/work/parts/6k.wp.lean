/-! ===== a grammar whose text is not told yet ===== -/
def PWF (g : GS) : Prop :=
  (∀ i : Nat, i < 41 → ∀ x ∈ gR g i, SYr (gR g) x) ∧
  (∀ r : Nat, r < 40 → gR g (r + 1) ≠ [] → 2 ≤ (gR g (r + 1)).length ∧ gL g r = ll (gL g) (gR g (r + 1)) ∧ gL g r ≤ 400 ∧ 1 ≤ gL g r) ∧ ll (gL g) (gR g 0) ≤ 400
theorem PWF.sy {g : GS} (h : PWF g) {i : Nat} (hi : i < 41) : SY (gR g i) := fun x hx => ⟨(h.1 i hi x hx).1, (h.1 i hi x hx).2.1⟩
theorem PWF.sl1 {g : GS} (h : PWF g) {x : Int} (hx : SYr (gR g) x) : 1 ≤ sl (gL g) x ∧ sl (gL g) x ≤ 400 := by
  obtain ⟨h0, h66, hr⟩ := hx
  unfold sl
  by_cases q : x < 26
  · rw [if_pos q]; omega
  · rw [if_neg q]
    obtain ⟨-, -, h3, h4⟩ := h.2.1 (x - 26).toNat (by omega) (hr (by omega))
    exact ⟨h4, h3⟩
theorem PWF.sl1' {g : GS} (h : PWF g) {i : Nat} (hi : i < 41) {x : Int} (hx : x ∈ gR g i) : 1 ≤ sl (gL g) x ∧ sl (gL g) x ≤ 400 := h.sl1 (h.1 i hi x hx)
theorem PWF.lle {g : GS} (h : PWF g) {i : Nat} (hi : i < 41) : ((gR g i).length : Int) ≤ ll (gL g) (gR g i) ∧ ll (gL g) (gR g i) ≤ 400 := by
  refine ⟨ll_ge (fun x hx => (h.sl1' hi hx).1), ?_⟩
  cases i with
  | zero => exact h.2.2
  | succ r =>
    by_cases q : gR g (r + 1) = []
    · rw [q, ll_nil]; omega
    · obtain ⟨-, h2, h3, -⟩ := h.2.1 r (by omega) q
      omega
theorem PWF.len400 {g : GS} (w : PWF g) : ∀ i : Nat, i < 41 → (gR g i).length ≤ 400 := fun i hi => by
  have := w.lle hi
  omega
section WPs1
theorem cut_bodyP {g : GS} (w : PWF g) {x : Int} (hx : SYr (gR g) x) (h : 1 < sl (gL g) x) : 26 ≤ x ∧ x < 66 ∧ gR g ((x - 26).toNat + 1) ≠ [] ∧ ll (gL g) (gR g ((x - 26).toNat + 1)) = sl (gL g) x ∧ (∀ y ∈ gR g ((x - 26).toNat + 1), SYr (gR g) y) ∧ 2 ≤ (gR g ((x - 26).toNat + 1)).length ∧ ∀ y ∈ gR g ((x - 26).toNat + 1), sl (gL g) y < sl (gL g) x := by
  obtain ⟨h0, h66, hr⟩ := hx
  have h26 : 26 ≤ x := by
    apply Classical.byContradiction
    intro q
    unfold sl at h
    rw [if_pos (by omega)] at h
    omega
  obtain ⟨b1, b2, -, -⟩ := w.2.1 (x - 26).toNat (by omega) (hr h26)
  have e : sl (gL g) x = gL g (x - 26).toNat := by unfold sl; rw [if_neg (by omega)]
  refine ⟨h26, h66, hr h26, by rw [e, b2], w.1 _ (by omega), b1, fun y hy => ?_⟩
  rw [e, b2]
  obtain ⟨l1, l2, e2⟩ := List.append_of_mem hy
  have hge : ∀ z ∈ gR g ((x - 26).toNat + 1), 1 ≤ sl (gL g) z := fun z hz => (w.sl1' (by omega) hz).1
  rw [e2] at b1 hge ⊢
  rw [ll_app, ll_cons]
  have g1 := ll_ge (L := gL g) (l := l1) (fun z hz => hge z (by simp [hz]))
  have g2 := ll_ge (L := gL g) (l := l2) (fun z hz => hge z (by simp [hz]))
  simp at b1
  omega
end WPs1
section WPs2
theorem rule_bodyP {g : GS} (w : PWF g) {x : Int} (hx : SYr (gR g) x) (h26 : 26 ≤ x) : (x - 26).toNat < 40 ∧ sl (gL g) x = gL g (x - 26).toNat ∧ gR g ((x - 26).toNat + 1) ≠ [] ∧ ll (gL g) (gR g ((x - 26).toNat + 1)) = sl (gL g) x ∧ 2 ≤ (gR g ((x - 26).toNat + 1)).length ∧ (∀ y ∈ gR g ((x - 26).toNat + 1), SYr (gR g) y ∧ sl (gL g) y < sl (gL g) x) := by
  have h66 := hx.2.1
  obtain ⟨b1, b2, -, b4⟩ := w.2.1 (x - 26).toNat (by omega) (hx.2.2 h26)
  have e : sl (gL g) x = gL g (x - 26).toNat := by unfold sl; rw [if_neg (by omega)]
  have hge := ll_ge (L := gL g) (l := gR g ((x - 26).toNat + 1)) (fun z hz => (w.sl1' (by omega) hz).1)
  obtain ⟨c1, c2, c3, c4, c5, c6, c7⟩ := cut_bodyP w hx (by omega)
  exact ⟨by omega, e, c3, c4, c6, fun y hy => ⟨c5 y hy, c7 y hy⟩⟩
end WPs2
section WPs3
theorem exF_farP {g : GS} (w : PWF g) : ∀ (n m : Nat) (x : Int), SYr (gR g) x → sl (gL g) x ≤ n → sl (gL g) x ≤ m → exF (gR g) n x = exF (gR g) m x
  | 0, m, x, hx, h, _ => by have := (w.sl1 hx).1; omega
  | n + 1, 0, x, hx, _, h => by have := (w.sl1 hx).1; omega
  | n + 1, m + 1, x, hx, h1, h2 => by
    rw [exF, exF]
    by_cases q : x < 26
    · rw [if_pos q, if_pos q]
    · rw [if_neg q, if_neg q]
      obtain ⟨-, -, -, -, -, h6⟩ := rule_bodyP w hx (by omega)
      exact flatMap_cong (fun y hy => exF_farP w n m y (h6 y hy).1 (by have := (h6 y hy).2; omega) (by have := (h6 y hy).2; omega))
end WPs3
section WPs4
theorem ex_ruleP {g : GS} (w : PWF g) {x : Int} (hx : SYr (gR g) x) (h : 26 ≤ x) : ex g x = exL g (gR g ((x - 26).toNat + 1)) := by
  have h1 := (w.sl1 hx).1
  obtain ⟨-, -, -, -, -, h6⟩ := rule_bodyP w hx h
  unfold ex exL
  obtain ⟨n, hn⟩ : ∃ n : Nat, (sl (gL g) x).toNat = n + 1 := ⟨(sl (gL g) x).toNat - 1, by omega⟩
  rw [hn, exF, if_neg (by omega)]
  refine flatMap_cong (fun y hy => ?_)
  have h3 := (h6 y hy).2
  have h4 := (w.sl1 (h6 y hy).1).1
  exact exF_farP w n _ y (h6 y hy).1 (by omega) (by omega)
end WPs4
section WPs5
theorem ex_lenP {g : GS} (w : PWF g) : ∀ (n : Nat) (x : Int), SYr (gR g) x → sl (gL g) x ≤ n → ((ex g x).length : Int) = sl (gL g) x ∧ ∀ y ∈ ex g x, 0 ≤ y ∧ y < 26
  | 0, x, hx, h => by have := (w.sl1 hx).1; omega
  | n + 1, x, hx, h => by
    by_cases q : x < 26
    · rw [ex_letter g q, sl_26 q]
      exact ⟨rfl, fun y hy => by rw [List.mem_singleton.mp hy]; exact ⟨hx.1, q⟩⟩
    · obtain ⟨-, -, -, h4, -, h6⟩ := rule_bodyP w hx (by omega)
      rw [ex_ruleP w hx (by omega)]
      refine ⟨by rw [exL_len' (fun y hy => (ex_lenP w n y (h6 y hy).1 (by have := (h6 y hy).2; omega)).1), h4], fun y hy => ?_⟩
      unfold exL at hy
      obtain ⟨z, hz, hyz⟩ := List.mem_flatMap.mp hy
      exact (ex_lenP w n z (h6 z hz).1 (by have := (h6 z hz).2; omega)).2 y hyz
end WPs5
section WPs6
theorem exL_lenP {g : GS} (w : PWF g) {l : List Int} (h : ∀ x ∈ l, SYr (gR g) x) : ((exL g l).length : Int) = ll (gL g) l :=
  exL_len' (fun x hx => (ex_lenP w (sl (gL g) x).toNat x (h x hx) (by have := (w.sl1 (h x hx)).1; omega)).1)
end WPs6
section WPs7
theorem exL_letP {g : GS} (w : PWF g) {l : List Int} (h : ∀ x ∈ l, SYr (gR g) x) : ∀ y ∈ exL g l, 0 ≤ y ∧ y < 26 := fun y hy => by
  obtain ⟨z, hz, hyz⟩ := List.mem_flatMap.mp hy
  exact (ex_lenP w (sl (gL g) z).toNat z (h z hz) (by have := (w.sl1 (h z hz)).1; omega)).2 y hyz
end WPs7
theorem gTx_lenP {g : GS} (w : PWF g) : (gTx g).length = (ll (gL g) (gR g 0)).toNat := by
  have h1 := exL_lenP w (w.1 0 (by omega))
  unfold gTx
  omega
section WPs8
theorem CHN.pushP {g : GS} (w : PWF g) {i pl : Nat} {st : List (Nat × Nat)} (h : CHN g ((i, pl) :: st)) (hpl : pl < (gR g i).length) {x : Int} (hx : x = (gR g i).getD pl (-1)) (h26 : 26 ≤ x) : CHN g (((x - 26).toNat + 1, 0) :: (i, pl + 1) :: st) := by
  obtain ⟨h1, h2, h3, h4, h5, h6⟩ := h
  have hxs : SYr (gR g) x := w.1 i h1 x (by rw [hx]; exact getD_mem hpl)
  obtain ⟨b1, b2, b3, -, -, -⟩ := rule_bodyP w hxs h26
  refine And.intro (by omega) (And.intro (Nat.zero_le _) (And.intro (fun z => by cases z) (And.intro (fun _ => ⟨by omega, b3⟩) (And.intro (fun q hq hq0 => ?_) ⟨h1, hpl, h3, h4, h5, h6⟩))))
  have key : i ≠ 0 → gL g ((x - 26).toNat) < gL g (i - 1) := fun hi => by
    have hne : gR g (i - 1 + 1) ≠ [] := by
      rw [show i - 1 + 1 = i by omega]
      intro e
      rw [e] at hpl
      simp at hpl
    have hb := w.2.1 (i - 1) (by omega) hne
    rw [show i - 1 + 1 = i by omega] at hb
    rw [← b2, hb.2.1]
    have hm : x ∈ gR g i := by rw [hx]; exact getD_mem hpl
    obtain ⟨l1, l2, e2⟩ := List.append_of_mem hm
    have hge : ∀ z ∈ gR g i, 1 ≤ sl (gL g) z := fun z hz => (w.sl1' h1 hz).1
    have hb1 := hb.1
    rw [e2] at hb1 hge ⊢
    rw [ll_app, ll_cons]
    have g1 := ll_ge (L := gL g) (l := l1) (fun z hz => hge z (by simp [hz]))
    have g2 := ll_ge (L := gL g) (l := l2) (fun z hz => hge z (by simp [hz]))
    simp at hb1
    omega
  rcases List.mem_cons.mp hq with z | z
  · rw [z] at hq0 ⊢
    exact key hq0
  · have hst : st ≠ [] := fun e => by rw [e] at z; exact absurd z List.not_mem_nil
    have hi : i ≠ 0 := by have := (h4 hst).1; omega
    have a1 := key hi
    have a2 := h5 q z hq0
    show gL g ((x - 26).toNat + 1 - 1) < _
    rw [show (x - 26).toNat + 1 - 1 = (x - 26).toNat by omega]
    omega
end WPs8
section WPs9
theorem mcS_nnP {g : GS} (w : PWF g) : ∀ {st : List (Nat × Nat)}, CHN g st → 0 ≤ mcS g st
  | [], _ => Int.le_refl _
  | (i, pl) :: st, h => by
    have ih := mcS_nnP w h.2.2.2.2.2
    have := ll_ge (L := gL g) (l := (gR g i).drop pl) (fun x hx => (w.sl1' h.1 (List.drop_subset _ _ hx)).1)
    unfold mcS
    omega
end WPs9
section WPs10
theorem t_unfoldP {I : Mem} {t : Nat} {g : GS} (h : GC I t g) (w : PWF g) : Tr (f_Sv_unfold t I) (fun _ J => TXT J (gTx g) ∧ Fm FSV I J) := by
  have ht := h.1
  have h00 := w.lle (i := 0) (by omega)
  have hTl := gTx_lenP w
  have hT4 : (ll (gL g) (gR g 0)).toNat ≤ 400 := by have := w.2.2; omega
  unfold f_Sv_unfold
  rw [if_pos ht]
  show Tr (bnd (whl (f_Sv_unfold_w16 t) (0, 0) (sI (sI I 5 0 7 0) 18 5 0 0)) (fun _ J78 => some ((), J78))) _
  refine tr_call (P := fun _ J => TXT J (gTx g) ∧ Fm FSV I J) (tr_whl (fun n s J => ∃ (st : List (Nat × Nat)) (out : List Int) (mv : Nat), s = ((st.length : Int) - 1, (mv : Int)) ∧ mv + n ≤ 2000 ∧ mcS g st ≤ n ∧ STK J st ∧ CHN g st ∧ out ++ remS g st = gTx g ∧ J 5 0 7 = (out.length : Int) ∧ (∀ j : Nat, j < out.length → J 18 3 j = out.getD j (-1)) ∧ Fm FSV I J) ?_ 1300 _ _ ⟨[(0, 0)], [], 0, rfl, by omega, ?_, ⟨by show sI (sI I 5 0 7 0) 18 5 0 0 18 5 0 = 0; rw [sI_self], fun z => absurd rfl z, trivial⟩, ⟨by omega, Nat.zero_le _, fun _ => rfl, fun z => absurd rfl z, fun q hq => absurd hq List.not_mem_nil, trivial⟩, by simp [remS, gTx], by rw [sI_ne (by omega), sI_self]; rfl, fun j hj => absurd hj (Nat.not_lt_zero j), (Fm.sI (by decide) (by omega) (by omega) (Or.inl rfl)).trans (Fm.sI (by decide) (by omega) (by omega) (Or.inr rfl))⟩) (fun _ _ q => tr_ret q)
  · rintro n s J ⟨st, out, mv, rfl, hmv, hn, hS, hC, hO, h7, h3, hF⟩
    have hlen := hC.len
    have hG := h.fsv hF
    unfold f_Sv_unfold_w16
    dsimp only
    rw [w32_of (x := (mv : Int)) (by omega) (by omega), if_pos (by omega), w32_of (x := (st.length : Int) - 1) (by omega) (by omega)]
    match st, hS, hC, hO, hn, hlen with
    | [], _, _, hO, _, _ =>
      rw [if_pos (by simp)]
      have hO : out = gTx g := by simpa [remS] using hO
      refine tr_ret ⟨⟨?_, by omega, ?_⟩, hF⟩
      · rw [← hO]; exact h7
      · rw [← hO]; exact h3
    | (i, pl) :: st, hS, hC, hO, hn, hlen =>
      have hC' := hC
      obtain ⟨s1, s2, s3⟩ := hS
      obtain ⟨c1, c2, c3, c4, c5, c6⟩ := hC
      have hrow := hG.2.1 i c1
      have hl4 := hrow.len
      have hmn := mcS_nnP w c6
      rw [List.length_cons] at hlen
      have hd : (((i, pl) :: st).length : Int) - 1 = (st.length : Int) := by rw [List.length_cons]; omega
      rw [hd, if_neg (by omega)]
      have key : Tr (f_Sv_unfold_j47 t (st.length : Int) (mv : Int) (rix t i) J) (LQ (fun s' J' => ∃ m : Nat, m < n ∧ ∃ (st : List (Nat × Nat)) (out : List Int) (mv : Nat), s' = ((st.length : Int) - 1, (mv : Int)) ∧ mv + m ≤ 2000 ∧ mcS g st ≤ m ∧ STK J' st ∧ CHN g st ∧ out ++ remS g st = gTx g ∧ J' 5 0 7 = (out.length : Int) ∧ (∀ j : Nat, j < out.length → J' 18 3 j = out.getD j (-1)) ∧ Fm FSV I J') (fun _ J => TXT J (gTx g) ∧ Fm FSV I J)) := by
        unfold f_Sv_unfold_j47
        rw [if_pos hrow.1, w32_of (x := (st.length : Int)) (by omega) (by omega), if_pos (by omega), Int.toNat_natCast, s1, row_at hrow (by omega), bnd_some, s1]
        have fS : ∀ {K : Mem} {k i s : Nat} {v : Int}, k = 18 → Fm FSV K (sI K k i s v) := fun hk => Fm.sI (by omega) (by omega) (by omega) (Or.inr hk)
        by_cases q : pl < (gR g i).length
        · have hxs : SYr (gR g) ((gR g i).getD pl (-1)) := w.1 i c1 _ (getD_mem q)
          have hx0 := hxs.1
          have hx6 := hxs.2.1
          have hsx := w.sl1 hxs
          have hdr := drop_at (l := gR g i) (d := -1) q
          generalize hx : (gR g i).getD pl (-1) = x at *
          rw [remS, hdr, exL_cons] at hO
          rw [mcS, hdr, ll_cons, List.length_cons] at hn
          have hge := ll_ge (L := gL g) (l := (gR g i).drop (pl + 1)) (fun y hy => (w.sl1' c1 (List.drop_subset _ _ hy)).1)
          obtain ⟨n, rfl⟩ : ∃ k : Nat, n = k + 1 := ⟨n - 1, by omega⟩
          rw [w32_of (x := x) (by omega) (by omega)]
          show Tr (if x = -1 then _ else _) _
          rw [if_neg (by omega)]
          by_cases q2 : x < 26
          · rw [if_pos q2]
            rw [ex_letter g q2] at hO
            rw [sl_26 q2] at hn
            have hol : out.length < 400 := by
              have := congrArg List.length hO
              rw [List.length_append, List.length_append, List.length_append, List.length_singleton] at this
              omega
            have k7 : sI J 18 5 st.length ((pl : Int) + 1) 5 0 7 = (out.length : Int) := by rw [sI_ne (by omega)]; exact h7
            unfold f_Sv_addLetter
            show Tr (bnd (if w32 (sI J 18 5 st.length ((pl : Int) + 1) 5 0 7) < 400 then (if 0 ≤ w32 (sI J 18 5 st.length ((pl : Int) + 1) 5 0 7) ∧ w32 (sI J 18 5 st.length ((pl : Int) + 1) 5 0 7) < 400 then some ((), sI (sI (sI J 18 5 st.length ((pl : Int) + 1)) 18 3 (w32 (sI J 18 5 st.length ((pl : Int) + 1) 5 0 7)).toNat x) 5 0 7 (sI (sI J 18 5 st.length ((pl : Int) + 1)) 18 3 (w32 (sI J 18 5 st.length ((pl : Int) + 1) 5 0 7)).toNat x 5 0 7 + 1)) else none) else some ((), sI J 18 5 st.length ((pl : Int) + 1))) (fun _ J22 => some (Sum.inl ((st.length : Int), (mv : Int) + 1), J22))) _
            rw [k7, w32_of (x := (out.length : Int)) (by omega) (by omega), if_pos (by omega), if_pos (by omega), Int.toNat_natCast, bnd_some, sI_ne (by omega), k7]
            refine tr_ret ⟨n, by omega, (i, pl + 1) :: st, out ++ [x], mv + 1, ?_, by omega, by rw [mcS]; omega, ?_, ⟨c1, q, c3, c4, c5, c6⟩, by rw [remS, ← hO]; simp, ?_, fun j hj => ?_, hF.trans ((fS rfl).trans ((fS rfl).trans (Fm.sI (by decide) (by omega) (by omega) (Or.inl rfl))))⟩
            · rw [List.length_cons]; exact Prod.ext (by show (st.length : Int) = _; omega) rfl
            · refine ⟨?_, fun z => ?_, s3.of (fun d hd => ⟨?_, ?_⟩)⟩
              · rw [sI_ne (by omega), sI_ne (by omega), sI_self]; rfl
              · rw [sI_ne (by omega), sI_ne (by omega), sI_ne (by omega)]; exact s2 z
              · rw [sI_ne (by omega), sI_ne (by omega), sI_ne (by omega)]
              · rw [sI_ne (by omega), sI_ne (by omega), sI_ne (by omega)]
            · rw [sI_self, List.length_append]; rfl
            · rw [List.length_append, List.length_singleton] at hj
              rw [sI_ne (by omega)]
              by_cases e : j = out.length
              · subst e; rw [sI_self, getD_r (Nat.le_refl _), Nat.sub_self]; rfl
              · rw [sI_ne (by omega), sI_ne (by omega), h3 j (by omega), getD_l (by omega)]
          · rw [if_neg q2]
            have hC2 := hC'.pushP w q hx.symm (by omega)
            have hlen2 := hC2.len
            rw [List.length_cons, List.length_cons] at hlen2
            obtain ⟨b1, b2, b3, b4, b5, b6⟩ := rule_bodyP w hxs (by omega)
            rw [ex_ruleP w hxs (by omega)] at hO
            rw [if_pos (by omega), w32_of (x := (st.length : Int) + 1) (by omega) (by omega), if_pos (by omega), tn1]
            refine tr_ret ⟨n, by omega, ((x - 26).toNat + 1, 0) :: (i, pl + 1) :: st, out, mv + 1, ?_, by omega, ?_, ?_, hC2, ?_, ?_, fun j hj => ?_, hF.trans ((fS rfl).trans ((fS rfl).trans (fS rfl)))⟩
            · rw [List.length_cons, List.length_cons]; exact Prod.ext (by show (st.length : Int) + 1 = _; omega) rfl
            · rw [mcS, mcS, List.drop_zero, b4]; omega
            · refine ⟨?_, fun _ => ?_, ?_, fun z => ?_, s3.of (fun d hd => ⟨?_, ?_⟩)⟩
              · rw [List.length_cons, sI_self]; rfl
              · rw [List.length_cons, sI_ne (by omega), sI_self]; omega
              · rw [sI_ne (by omega), sI_ne (by omega), sI_self]; rfl
              · rw [sI_ne (by omega), sI_ne (by omega), sI_ne (by omega)]; exact s2 z
              · rw [sI_ne (by omega), sI_ne (by omega), sI_ne (by omega)]
              · rw [sI_ne (by omega), sI_ne (by omega), sI_ne (by omega)]
            · rw [remS, remS, List.drop_zero, ← hO]; simp
            · rw [sI_ne (by omega), sI_ne (by omega), sI_ne (by omega)]; exact h7
            · rw [sI_ne (by omega), sI_ne (by omega), sI_ne (by omega)]; exact h3 j hj
        · have hdn : (gR g i).drop pl = [] := List.drop_eq_nil_of_le (by omega)
          rw [remS, hdn, exL_nil, List.nil_append] at hO
          rw [mcS, hdn, ll_nil, List.length_nil] at hn
          rw [getD_out (by omega)]
          show Tr (if w32 (-1) = -1 then _ else _) _
          rw [if_pos (by decide)]
          refine tr_ret ⟨(n - 1), by omega, st, out, mv + 1, Prod.ext (by show (st.length : Int) + -1 = _; omega) rfl, by omega, by omega, s3.of (fun d hd => ⟨sI_ne (by omega), sI_ne (by omega)⟩), c6, hO, ?_, fun j hj => ?_, hF.trans (fS rfl)⟩
          · rw [sI_ne (by omega)]; exact h7
          · rw [sI_ne (by omega)]; exact h3 j hj
      by_cases q0 : st = []
      · have hi : i = 0 := c3 q0
        subst hi
        rw [if_pos (by rw [q0]; rfl)]
        exact key
      · have hpos := List.length_pos_iff.mpr q0
        obtain ⟨c41, -⟩ := c4 q0
        rw [if_neg (by omega), if_pos (by omega), Int.toNat_natCast, s2 q0, show (i : Int) - 1 = ((i - 1 : Nat) : Int) by omega, g_body ht (r := i - 1) (by omega), bnd_some, show i - 1 + 1 = i by omega, if_pos hrow.1]
        exact key
  · rw [mcS, List.drop_zero]
    show _ + 0 ≤ ((1300 : Nat) : Int)
    omega

end WPs10
section WPs11
theorem dpF_farP {g : GS} (w : PWF g) : ∀ (n m : Nat) (x : Int), SYr (gR g) x → sl (gL g) x ≤ n → sl (gL g) x ≤ m → dpF (gR g) n x = dpF (gR g) m x
  | 0, m, x, hx, h, _ => by have := (w.sl1 hx).1; omega
  | n + 1, 0, x, hx, _, h => by have := (w.sl1 hx).1; omega
  | n + 1, m + 1, x, hx, h1, h2 => by
    rw [dpF, dpF]
    by_cases q : x < 26
    · rw [if_pos q, if_pos q]
    · rw [if_neg q, if_neg q]
      obtain ⟨-, -, -, -, -, h6⟩ := rule_bodyP w hx (by omega)
      rw [mxd_congr (fun y hy => dpF_farP w n m y (h6 y hy).1 (by have := (h6 y hy).2; omega) (by have := (h6 y hy).2; omega))]
end WPs11
section WPs12
theorem dp_ruleP {g : GS} (w : PWF g) {x : Int} (hx : SYr (gR g) x) (h : 26 ≤ x) : dp g x = 1 + mxd (dp g) (gR g ((x - 26).toNat + 1)) := by
  have h1 := (w.sl1 hx).1
  obtain ⟨-, -, -, -, -, h6⟩ := rule_bodyP w hx h
  have e : dp g x = dpF (gR g) (sl (gL g) x).toNat x := rfl
  obtain ⟨n, hn⟩ : ∃ n : Nat, (sl (gL g) x).toNat = n + 1 := ⟨(sl (gL g) x).toNat - 1, by omega⟩
  rw [e, hn, dpF, if_neg (by omega)]
  rw [mxd_congr (h := dp g) (fun y hy => ?_)]
  have h3 := (h6 y hy).2
  have h4 := (w.sl1 (h6 y hy).1).1
  exact dpF_farP w n _ y (h6 y hy).1 (by omega) (by omega)
end WPs12
section WPs13
theorem dp_rngP {g : GS} (w : PWF g) : ∀ (n : Nat) (x : Int), SYr (gR g) x → sl (gL g) x ≤ n → 0 ≤ dp g x ∧ dp g x ≤ sT (fun r => bI (gR g (r + 1) ≠ [] ∧ gL g r ≤ sl (gL g) x)) 40
  | 0, x, hx, h => by have := (w.sl1 hx).1; omega
  | n + 1, x, hx, h => by
    have nn : ∀ c : Int, 0 ≤ sT (fun r => bI (gR g (r + 1) ≠ [] ∧ gL g r ≤ c)) 40 := fun c => (sT_rng (c := 1) (fun k _ => by have := bI_01 (gR g (k + 1) ≠ [] ∧ gL g k ≤ c); omega)).1
    by_cases q : x < 26
    · rw [dp_letter g q]; exact ⟨Int.le_refl _, nn _⟩
    · obtain ⟨b1, b2, b3, b4, b5, b6⟩ := rule_bodyP w hx (by omega)
      rw [dp_ruleP w hx (by omega)]
      have hup : sT (fun r => bI (gR g (r + 1) ≠ [] ∧ gL g r ≤ sl (gL g) x - 1)) 40 + 1 ≤ sT (fun r => bI (gR g (r + 1) ≠ [] ∧ gL g r ≤ sl (gL g) x)) 40 := by
        have h1 := sT_up (f := fun r => if r = (x - 26).toNat then 0 else bI (gR g (r + 1) ≠ [] ∧ gL g r ≤ sl (gL g) x)) (h := fun r => bI (gR g (r + 1) ≠ [] ∧ gL g r ≤ sl (gL g) x)) (r := (x - 26).toNat) b1 (fun j _ hj => by rw [if_neg hj])
        have h2 : sT (fun r => bI (gR g (r + 1) ≠ [] ∧ gL g r ≤ sl (gL g) x - 1)) 40 ≤ sT (fun r => if r = (x - 26).toNat then 0 else bI (gR g (r + 1) ≠ [] ∧ gL g r ≤ sl (gL g) x)) 40 := sT_le (fun j _ => by
          by_cases e : j = (x - 26).toNat
          · rw [if_pos e, bI_neg (fun z => by have := z.2; rw [e, ← b2] at this; omega)]; exact Int.le_refl _
          · rw [if_neg e]
            by_cases z : gR g (j + 1) ≠ [] ∧ gL g j ≤ sl (gL g) x - 1
            · rw [bI_pos z, bI_pos ⟨z.1, by omega⟩]; exact Int.le_refl _
            · rw [bI_neg z]
              have := bI_01 (gR g (j + 1) ≠ [] ∧ gL g j ≤ sl (gL g) x)
              omega)
        rw [if_pos rfl, bI_pos ⟨b3, by rw [b2]; exact Int.le_refl _⟩] at h1
        omega
      have hm := mT_le (f := fun j => dp g ((gR g ((x - 26).toNat + 1)).getD j (-1))) (n := (gR g ((x - 26).toNat + 1)).length) (nn (sl (gL g) x - 1)) (fun j hj => by
        have hy := b6 _ (getD_mem (d := -1) hj)
        have h3 := (dp_rngP w n _ hy.1 (by omega)).2
        refine Int.le_trans h3 (sT_le (fun r _ => ?_))
        by_cases z : gR g (r + 1) ≠ [] ∧ gL g r ≤ sl (gL g) ((gR g ((x - 26).toNat + 1)).getD j (-1))
        · rw [bI_pos z, bI_pos ⟨z.1, by omega⟩]; exact Int.le_refl _
        · rw [bI_neg z]
          have := bI_01 (gR g (r + 1) ≠ [] ∧ gL g r ≤ sl (gL g) x - 1)
          omega)
      unfold mxd
      omega
end WPs13
section WPs14
theorem dp_40P {g : GS} (w : PWF g) {x : Int} (hx : SYr (gR g) x) : 0 ≤ dp g x ∧ dp g x ≤ 40 := by
  have h1 := (w.sl1 hx).1
  have h := dp_rngP w (sl (gL g) x).toNat x hx (by omega)
  have h2 := (sT_rng (f := fun r => bI (gR g (r + 1) ≠ [] ∧ gL g r ≤ sl (gL g) x)) (c := 1) (n := 40) (fun k _ => by have := bI_01 (gR g (k + 1) ≠ [] ∧ gL g k ≤ sl (gL g) x); omega)).2
  omega
end WPs14
section WPs15
variable {I : Mem} {g : GS}
theorem PLN.symP {J : Mem} (h : PLN J g) (w : PWF g) {x : Int} (hx : SYr (gR g) x) : J 27 5 x.toNat = 0 ∨ (J 27 5 x.toNat = sl (gL g) x ∧ J 27 6 x.toNat = dp g x) := by
  have h0 := hx.1
  have h6 := hx.2.1
  by_cases q : x < 26
  · right
    have := h.1 x.toNat (by omega)
    rw [sl_26 q, dp_letter g q]
    exact this
  · have := h.2 (x - 26).toNat (by omega)
    rw [show 26 + (x - 26).toNat = x.toNat by omega] at this
    rcases this with z | ⟨-, z1, z2⟩
    · exact Or.inl z
    · right
      refine ⟨by rw [z1]; unfold sl; rw [if_neg q], by rw [z2]; congr 1; omega⟩
end WPs15
section WPs16
variable {I : Mem} {g : GS}
theorem t_mlengthOfP (h : GW I g) (w : PWF g) (hP : PLN I g) {i : Nat} (hi : i < 41) : Tr (f_M_lengthOf (i : Int) I) (fun x J => ((x = 0 ∧ ∃ y ∈ gR g i, I 27 5 y.toNat = 0) ∨ (x = ll (gL g) (gR g i) ∧ J 26 0 10 = mxd (dp g) (gR g i) ∧ ∀ y ∈ gR g i, I 27 5 y.toNat ≠ 0)) ∧ Fm (fun k i s => k = 26 ∧ i = 0 ∧ s = 10) I J) := by
  have hl4 := w.len400 i hi
  have hs := w.1 i hi
  have hsy := w.sy hi
  unfold f_M_lengthOf
  show Tr (whl (f_M_lengthOf_w9 (i : Int)) (0, 0) (sI I 26 0 10 0)) _
  refine tr_cnt (fun k => (ll (gL g) ((gR g i).take k), (k : Int))) (fun k J => J 26 0 10 = mT (fun j => dp g ((gR g i).getD j (-1))) k ∧ (∀ j : Nat, j < k → I 27 5 ((gR g i).getD j (-1)).toNat ≠ 0) ∧ Fm (fun k i s => k = 26 ∧ i = 0 ∧ s = 10) I J) (gR g i).length (by simp [ll]) ⟨sI_self .., fun j hj => absurd hj (Nat.not_lt_zero j), Fm.sI (by decide) (by omega) (by omega) ⟨rfl, rfl, rfl⟩⟩ ?_ ?_
  · rintro k J hk ⟨k1, k2, k3⟩
    have hG := h.fm k3 (fun s hs => by omega)
    have q := hsy.at hk
    have hm := getD_mem (d := -1) hk
    have hx := hs _ hm
    have hdr := dp_40P w hx
    have hmt := mT_le (f := fun j => dp g ((gR g i).getD j (-1))) (c := 40) (by decide) (n := k) (fun j hj => (dp_40P w (hs _ (getD_mem (by omega)))).2)
    have hsl := w.sl1 hx
    unfold f_M_lengthOf_w9
    dsimp only
    rw [m_many hG hi, bnd_some, w32_of (x := (k : Int)) (by omega) (by omega), w32_of (x := ((gR g i).length : Int)) (by omega) (by omega), if_pos (by omega), m_at hG hi hk, bnd_some, w32_of (x := (gR g i).getD k (-1)) (by omega) (by omega), if_pos (by omega)]
    have e5 : J 27 5 ((gR g i).getD k (-1)).toNat = I 27 5 ((gR g i).getD k (-1)).toNat := k3.at (by decide) (by omega)
    have e6 : J 27 6 ((gR g i).getD k (-1)).toNat = I 27 6 ((gR g i).getD k (-1)).toNat := k3.at (by decide) (by omega)
    rw [e5, e6]
    rcases hP.symP w hx with z | ⟨z1, z2⟩
    · rw [z, if_pos (by decide)]
      exact tr_ret ⟨Or.inl ⟨rfl, _, hm, z⟩, k3⟩
    · rw [z1, z2, w32_of (x := sl (gL g) _) (by omega) (by omega), if_neg (by omega)]
      refine tr_ret ⟨?_, ?_, fun j hj => ?_, k3.trans (Fm.sI (by decide) (by omega) (by omega) ⟨rfl, rfl, rfl⟩)⟩
      · rw [take_at (d := -1) hk, ll_app, ll_cons, ll_nil, Int.add_zero]; rfl
      · rw [sI_self, k1]
        unfold imx
        rw [w32_of (x := mT _ k) (by omega) (by omega), w32_of (x := dp g _) (by omega) (by omega)]
        rfl
      · by_cases e : j = k
        · rw [e, z1]; omega
        · exact k2 j (by omega)
  · rintro J ⟨k1, k2, k3⟩
    have hG := h.fm k3 (fun s hs => by omega)
    unfold f_M_lengthOf_w9
    dsimp only
    rw [m_many hG hi, bnd_some, w32_of (x := ((gR g i).length : Int)) (by omega) (by omega), if_neg (by omega)]
    refine tr_ret ⟨Or.inr ⟨by rw [List.take_length], k1, fun y hy => ?_⟩, k3⟩
    obtain ⟨j, hj, ej⟩ := List.mem_iff_getElem.mp hy
    have := k2 j hj
    rw [show (gR g i).getD j (-1) = y by simp [List.getD_eq_getElem?_getD, hj, ej]] at this
    exact this
end WPs16
section WPs17
variable {I : Mem} {g : GS}
theorem t_laysLengthsP (h : GW I g) (w : PWF g) : Tr (f_M_laysLengths I) (fun _ J => LN J g ∧ GW J g ∧ Fm FL I J) := by
  unfold f_M_laysLengths
  refine tr_call (P := fun _ J => (∀ x : Nat, x < 66 → J 27 5 x = (if x < 26 then 1 else 0) ∧ J 27 6 x = 0) ∧ Fm FL I J) (tr_cnt (fun k => (k : Int)) (fun k J => (∀ x : Nat, x < k → J 27 5 x = (if x < 26 then 1 else 0) ∧ J 27 6 x = 0) ∧ Fm FL I J) 66 rfl ⟨fun x hx => absurd hx (Nat.not_lt_zero x), Fm.refl _ _⟩ ?_ ?_) ?_
  · rintro k J hk ⟨k1, k2⟩
    unfold f_M_laysLengths_w2
    rw [w32_of (by omega) (by omega), if_pos (by omega), m_oneI, bnd_some, if_pos (by omega), Int.toNat_natCast]
    refine tr_ret ⟨rfl, fun x hx => ?_, k2.trans ((Fm.sI (by decide) (by omega) (by omega) (Or.inl ⟨rfl, Or.inl rfl⟩)).trans (Fm.sI (by decide) (by omega) (by omega) (Or.inl ⟨rfl, Or.inr rfl⟩)))⟩
    by_cases e : x = k
    · subst e
      rw [sI_ne (by omega), sI_self, sI_self]
      refine ⟨?_, rfl⟩
      by_cases z : x < 26
      · rw [bI_pos (by omega), if_pos z]
      · rw [bI_neg (by omega), if_neg z]
    · rw [sI_ne (by omega), sI_ne (by omega), sI_ne (by omega), sI_ne (by omega)]
      exact k1 x (by omega)
  · rintro J ⟨k1, k2⟩
    unfold f_M_laysLengths_w2
    rw [if_neg (by decide)]
    exact tr_ret ⟨k1, k2⟩
  rintro _ J1 ⟨z1, f1⟩
  have hP1 : PLN J1 g := ⟨fun x hx => by have := z1 x (by omega); rw [if_pos hx] at this; exact this, fun r hr => Or.inl (by have := (z1 (26 + r) (by omega)).1; rw [if_neg (by omega)] at this; exact this)⟩
  have zr : ∀ J : Mem, 0 ≤ zcN J g ∧ zcN J g ≤ 40 := fun J => by
    have := sT_rng (f := fun r => bI (gR g (r + 1) ≠ [] ∧ J 27 5 (26 + r) = 0)) (c := 1) (n := 40) (fun k _ => by have := bI_01 (gR g (k + 1) ≠ [] ∧ J 27 5 (26 + k) = 0); omega)
    unfold zcN; omega
  refine tr_call (P := fun _ J => LN J g ∧ GW J g ∧ Fm FL I J) (tr_whl (fun n s J => ∃ m : Nat, (m : Int) = zcN J g ∧ (s = 1 ∧ n = 2 * m + 1 ∨ s = 0 ∧ n = 2 * m ∧ LN J g) ∧ PLN J g ∧ Fm FL I J) ?_ (2 * (zcN J1 g).toNat + 1) _ _ ⟨(zcN J1 g).toNat, by have := zr J1; omega, Or.inl ⟨rfl, rfl⟩, hP1, f1⟩) (fun _ _ q => tr_ret q)
  rintro n s J ⟨m, hm, hs, hP, hF⟩
  have hGJ : GW J g := h.fm hF (fun s hs z => by unfold FL at z; omega)
  unfold f_M_laysLengths_w43
  rcases hs with ⟨rfl, rfl⟩ | ⟨rfl, rfl, hL⟩
  · rw [if_neg (by decide)]
    -- a pass
    refine tr_call (P := fun x K => PLN K g ∧ Fm FL I K ∧ ((x = 1 ∧ zcN K g < zcN J g) ∨ (x = 0 ∧ zcN K g = zcN J g ∧ LN K g))) (tr_whl (fun n s K => ∃ (k : Nat) (fl : Int), n = 40 - k ∧ k ≤ 40 ∧ s = (fl, (k : Int)) ∧ PLN K g ∧ Fm FL I K ∧ ((fl = 1 ∧ zcN K g < zcN J g) ∨ (fl = 0 ∧ (∀ r : Nat, r < 40 → K 27 5 (26 + r) = J 27 5 (26 + r)) ∧ ∀ r : Nat, r < k → gR g (r + 1) ≠ [] → J 27 5 (26 + r) = 0 → ∃ y ∈ gR g (r + 1), J 27 5 y.toNat = 0))) ?_ 40 _ _ ⟨0, 0, rfl, by omega, rfl, hP, hF, Or.inr ⟨rfl, fun _ _ => rfl, fun r hr => absurd hr (Nat.not_lt_zero r)⟩⟩) ?_
    · rintro n s K ⟨k, fl, rfl, hk, rfl, hPK, hFK, hfl⟩
      have hGK : GW K g := h.fm hFK (fun s hs z => by unfold FL at z; omega)
      unfold f_M_laysLengths_w51
      dsimp only
      rw [w32_of (x := (k : Int)) (by omega) (by omega)]
      have flr : -1 ≤ fl ∧ fl ≤ 1 := by rcases hfl with z | z <;> omega
      by_cases q : k < 40
      · rw [if_pos (by omega), m_isHere hGK q, bnd_some]
        -- go on without a change
        have skip : (gR g (k + 1) = [] ∨ K 27 5 (26 + k) ≠ 0) → Tr (some (Sum.inl (fl, (k : Int) + 1), K)) (LQ (fun s' K' => ∃ m : Nat, m < 40 - k ∧ ∃ (k : Nat) (fl : Int), m = 40 - k ∧ k ≤ 40 ∧ s' = (fl, (k : Int)) ∧ PLN K' g ∧ Fm FL I K' ∧ ((fl = 1 ∧ zcN K' g < zcN J g) ∨ (fl = 0 ∧ (∀ r : Nat, r < 40 → K' 27 5 (26 + r) = J 27 5 (26 + r)) ∧ ∀ r : Nat, r < k → gR g (r + 1) ≠ [] → J 27 5 (26 + r) = 0 → ∃ y ∈ gR g (r + 1), J 27 5 y.toNat = 0))) (fun (x : Int) (K : Mem) => PLN K g ∧ Fm FL I K ∧ ((x = 1 ∧ zcN K g < zcN J g) ∨ (x = 0 ∧ zcN K g = zcN J g ∧ LN K g)))) := by
          intro hq
          refine tr_ret ⟨40 - (k + 1), by omega, k + 1, fl, rfl, by omega, rfl, hPK, hFK, ?_⟩
          rcases hfl with z | ⟨z1, z2, z3⟩
          · exact Or.inl z
          · refine Or.inr ⟨z1, z2, fun r hr hn h0 => ?_⟩
            by_cases e : r = k
            · subst e
              rcases hq with y | y
              · exact absurd y hn
              · exact absurd (by rw [z2 r q]; exact h0) y
            · exact z3 r (by omega) hn h0
        by_cases e : gR g (k + 1) = []
        · rw [if_pos (wb_neg (fun z => z e))]
          exact skip (Or.inl e)
        · have hsr : SYr (gR g) (26 + (k : Int)) := ⟨by omega, by omega, fun _ => by rw [show (26 + (k : Int) - 26).toNat = k by omega]; exact e⟩
          have hbody := w.2.1 k q e
          have hdpr := dp_ruleP w hsr (by omega)
          rw [show (26 + (k : Int) - 26).toNat = k by omega] at hdpr
          rw [if_neg (wb_pos e), w32_of (x := 26 + (k : Int)) (by omega) (by omega), if_pos (by omega), show ((26 : Int) + (k : Int)).toNat = 26 + k by omega]
          by_cases q5 : K 27 5 (26 + k) = 0
          · rw [q5, if_neg (by decide), show (k : Int) + 1 = ((k + 1 : Nat) : Int) from rfl]
            refine tr_call (t_mlengthOfP hGK w hPK (i := k + 1) (by omega)) ?_
            rintro x L ⟨hx, fL⟩
            have e10 : sI L 27 5 (26 + k) x 26 0 10 = L 26 0 10 := sI_ne (by omega)
            show Tr (if w32 fl = 0 then (if 0 < w32 (sI (sI L 27 5 (26 + k) x) 27 6 (26 + k) (sI L 27 5 (26 + k) x 26 0 10 + 1) 27 5 (26 + k)) then some (Sum.inl (1, ((k + 1 : Nat) : Int)), sI (sI L 27 5 (26 + k) x) 27 6 (26 + k) (sI L 27 5 (26 + k) x 26 0 10 + 1)) else some (Sum.inl (0, ((k + 1 : Nat) : Int)), sI (sI L 27 5 (26 + k) x) 27 6 (26 + k) (sI L 27 5 (26 + k) x 26 0 10 + 1))) else some (Sum.inl (1, ((k + 1 : Nat) : Int)), sI (sI L 27 5 (26 + k) x) 27 6 (26 + k) (sI L 27 5 (26 + k) x 26 0 10 + 1))) _
            rw [e10]
            generalize hM : sI (sI L 27 5 (26 + k) x) 27 6 (26 + k) (L 26 0 10 + 1) = M
            have m5 : M 27 5 (26 + k) = x := by rw [← hM, sI_ne (by omega), sI_self]
            have m6 : M 27 6 (26 + k) = L 26 0 10 + 1 := by rw [← hM, sI_self]
            have mo : ∀ y : Nat, y ≠ 26 + k → M 27 5 y = K 27 5 y ∧ M 27 6 y = K 27 6 y := fun y hy => by
              rw [← hM, sI_ne (by omega), sI_ne (by omega), sI_ne (by omega), sI_ne (by omega), fL.at (by decide) (by omega), fL.at (by decide) (by omega)]
              exact ⟨rfl, rfl⟩
            have fM : Fm FL I M := by
              rw [← hM]
              exact (hFK.trans (fL.mono (fun a b c z => Or.inr ⟨z.1, z.2.2⟩))).trans ((Fm.sI (by decide) (by omega) (by omega) (Or.inl ⟨rfl, Or.inl rfl⟩)).trans (Fm.sI (by decide) (by omega) (by omega) (Or.inl ⟨rfl, Or.inr rfl⟩)))
            rw [w32_of (x := fl) (by omega) (by omega), m5]
            rcases hx with ⟨rfl, y, hy, hy0⟩ | ⟨rfl, hd, hall⟩
            · -- still none
              have hPM : PLN M g := ⟨fun x hx => by rw [(mo x (by omega)).1, (mo x (by omega)).2]; exact hPK.1 x hx, fun r hr => by
                by_cases z : r = k
                · subst z; exact Or.inl m5
                · rw [(mo _ (by omega)).1, (mo _ (by omega)).2]; exact hPK.2 r hr⟩
              have hz5 : ∀ r : Nat, r < 40 → M 27 5 (26 + r) = K 27 5 (26 + r) := fun r hr => by
                by_cases z : r = k
                · subst z; rw [m5, q5]
                · exact (mo _ (by omega)).1
              have hzc : zcN M g = zcN K g := by
                unfold zcN
                exact sT_congr (fun r hr => by rw [hz5 r hr])
              have hnx : ∀ f2 : Int, f2 = fl → Tr (some (Sum.inl (f2, ((k + 1 : Nat) : Int)), M)) (LQ (fun s' K' => ∃ m : Nat, m < 40 - k ∧ ∃ (k : Nat) (fl : Int), m = 40 - k ∧ k ≤ 40 ∧ s' = (fl, (k : Int)) ∧ PLN K' g ∧ Fm FL I K' ∧ ((fl = 1 ∧ zcN K' g < zcN J g) ∨ (fl = 0 ∧ (∀ r : Nat, r < 40 → K' 27 5 (26 + r) = J 27 5 (26 + r)) ∧ ∀ r : Nat, r < k → gR g (r + 1) ≠ [] → J 27 5 (26 + r) = 0 → ∃ y ∈ gR g (r + 1), J 27 5 y.toNat = 0))) (fun (x : Int) (K : Mem) => PLN K g ∧ Fm FL I K ∧ ((x = 1 ∧ zcN K g < zcN J g) ∨ (x = 0 ∧ zcN K g = zcN J g ∧ LN K g)))) := by
                rintro f2 rfl
                refine tr_ret ⟨40 - (k + 1), by omega, k + 1, f2, rfl, by omega, rfl, hPM, fM, ?_⟩
                rcases hfl with z | ⟨z1, z2, z3⟩
                · exact Or.inl ⟨z.1, by rw [hzc]; exact z.2⟩
                · refine Or.inr ⟨z1, fun r hr => by rw [hz5 r hr]; exact z2 r hr, fun r hr hn h0 => ?_⟩
                  by_cases e2 : r = k
                  · subst e2
                    refine ⟨y, hy, ?_⟩
                    have hyS := w.1 (r + 1) (by omega) y hy
                    have y0 := hyS.1
                    have y6 := hyS.2.1
                    by_cases yl : y < 26
                    · have := (hPK.1 y.toNat (by omega)).1
                      rw [hy0] at this; cases this
                    · rw [show y.toNat = 26 + (y.toNat - 26) by omega, ← z2 _ (by omega), show 26 + (y.toNat - 26) = y.toNat by omega]
                      exact hy0
                  · exact z3 r (by omega) hn h0
              by_cases f0 : fl = 0
              · rw [if_pos f0, if_neg (by decide)]; exact hnx 0 f0.symm
              · rw [if_neg f0]; exact hnx 1 (by rcases hfl with z | z; exact z.1.symm; exact absurd z.1 f0)
            · -- found
              have hlen1 : ll (gL g) (gR g (k + 1)) = gL g k := hbody.2.1.symm
              rw [hlen1] at m5 ⊢
              have hPM : PLN M g := ⟨fun x hx => by rw [(mo x (by omega)).1, (mo x (by omega)).2]; exact hPK.1 x hx, fun r hr => by
                by_cases z : r = k
                · subst z; exact Or.inr ⟨e, m5, by rw [m6, hd, hdpr]; omega⟩
                · rw [(mo _ (by omega)).1, (mo _ (by omega)).2]; exact hPK.2 r hr⟩
              have hzc : zcN M g < zcN K g := by
                unfold zcN
                rw [sT_up (f := fun r => bI (gR g (r + 1) ≠ [] ∧ K 27 5 (26 + r) = 0)) (h := fun r => bI (gR g (r + 1) ≠ [] ∧ M 27 5 (26 + r) = 0)) (r := k) q (fun j _ hj => by
                  show bI (gR g (j + 1) ≠ [] ∧ M 27 5 (26 + j) = 0) = bI (gR g (j + 1) ≠ [] ∧ K 27 5 (26 + j) = 0)
                  rw [(mo (26 + j) (by omega)).1])]
                rw [bI_neg (fun z => by have := z.2; rw [m5] at this; omega), bI_pos ⟨e, q5⟩]
                omega
              have hzle : zcN K g ≤ zcN J g := by
                rcases hfl with z | ⟨z1, z2, z3⟩
                · omega
                · unfold zcN
                  rw [sT_congr (fun r hr => by rw [z2 r hr])]
                  exact Int.le_refl _
              have hnx : Tr (some (Sum.inl (1, ((k + 1 : Nat) : Int)), M)) (LQ (fun s' K' => ∃ m : Nat, m < 40 - k ∧ ∃ (k : Nat) (fl : Int), m = 40 - k ∧ k ≤ 40 ∧ s' = (fl, (k : Int)) ∧ PLN K' g ∧ Fm FL I K' ∧ ((fl = 1 ∧ zcN K' g < zcN J g) ∨ (fl = 0 ∧ (∀ r : Nat, r < 40 → K' 27 5 (26 + r) = J 27 5 (26 + r)) ∧ ∀ r : Nat, r < k → gR g (r + 1) ≠ [] → J 27 5 (26 + r) = 0 → ∃ y ∈ gR g (r + 1), J 27 5 y.toNat = 0))) (fun (x : Int) (K : Mem) => PLN K g ∧ Fm FL I K ∧ ((x = 1 ∧ zcN K g < zcN J g) ∨ (x = 0 ∧ zcN K g = zcN J g ∧ LN K g)))) :=
                tr_ret ⟨40 - (k + 1), by omega, k + 1, 1, rfl, by omega, rfl, hPM, fM, Or.inl ⟨rfl, by omega⟩⟩
              rw [w32_of (x := gL g k) (by omega) (by omega)]
              by_cases f0 : fl = 0
              · rw [if_pos f0, if_pos (by omega)]; exact hnx
              · rw [if_neg f0]; exact hnx
          · have h5 : 0 < w32 (K 27 5 (26 + k)) := by
              rcases hPK.2 k q with z | ⟨-, z, -⟩
              · exact absurd z q5
              · rw [z, w32_of (by omega) (by omega)]; omega
            rw [if_pos h5]
            exact skip (Or.inr q5)
      · rw [if_neg (by omega)]
        have hk : k = 40 := by omega
        subst hk
        refine tr_ret ⟨hPK, hFK, ?_⟩
        rcases hfl with z | ⟨z1, z2, z3⟩
        · exact Or.inl z
        · refine Or.inr ⟨z1, by unfold zcN; exact sT_congr (fun r hr => by rw [z2 r hr]), hPK.1, ?_⟩
          -- no rule without a length is left
          have none0 : ∀ n : Nat, ∀ r : Nat, r < 40 → gR g (r + 1) ≠ [] → gL g r ≤ n → J 27 5 (26 + r) ≠ 0 := by
            intro n
            induction n with
            | zero => intro r hr hn hle; have := (w.2.1 r hr hn).2.2.2; omega
            | succ n ih =>
              intro r hr hn hle h0
              obtain ⟨y, hy, hy0⟩ := z3 r hr hn h0
              have hyS := w.1 (r + 1) (by omega) y hy
              have y0 := hyS.1
              have y6 := hyS.2.1
              have hsr : SYr (gR g) (26 + (r : Int)) := ⟨by omega, by omega, fun _ => by rw [show (26 + (r : Int) - 26).toNat = r by omega]; exact hn⟩
              by_cases yl : y < 26
              · have := (hP.1 y.toNat (by omega)).1
                rw [hy0] at this; cases this
              · obtain ⟨-, b2, -, -, -, b6⟩ := rule_bodyP w hsr (by omega)
                rw [show (26 + (r : Int) - 26).toNat = r by omega] at b2 b6
                have c2 := (b6 y hy).2
                have hyb := rule_bodyP w hyS (by omega)
                refine ih (y - 26).toNat hyb.1 hyb.2.2.1 (by rw [← hyb.2.1]; omega) ?_
                rw [show 26 + (y - 26).toNat = y.toNat by omega]
                exact hy0
          intro r hr hn
          have hne := none0 400 r hr hn (by have := (w.2.1 r hr hn).2.2.1; omega)
          rcases hPK.2 r hr with z | ⟨-, z, z'⟩
          · rw [z2 r hr] at z; exact absurd z hne
          · exact ⟨z, z'⟩
    · rintro x K ⟨p1, p2, p3⟩
      have hzk := zr K
      rcases p3 with ⟨rfl, z⟩ | ⟨rfl, z, hL⟩
      · exact tr_ret ⟨2 * (zcN K g).toNat + 1, by omega, (zcN K g).toNat, by omega, Or.inl ⟨rfl, rfl⟩, p1, p2⟩
      · exact tr_ret ⟨2 * m, by omega, m, by omega, Or.inr ⟨rfl, rfl, hL⟩, p1, p2⟩
  · rw [if_pos (by decide)]
    exact tr_ret ⟨hL, hGJ, hF⟩
end WPs17
section WPs18
variable {I : Mem} {g : GS}
theorem t_munfoldsP (h : GW I g) (w : PWF g) : Tr (f_M_unfolds I) (fun x J => x = ((gTx g).length : Int) ∧ UNF J g (gTx g) ∧ Fm FUN I J) := by
  have hTl := gTx_lenP w
  have hT4 : (ll (gL g) (gR g 0)).toNat ≤ 400 := by have := w.2.2; omega
  have h00 := w.lle (i := 0) (by omega)
  have hgT : ((gTx g).length : Int) = ll (gL g) (gR g 0) := by have := (w.lle (i := 0) (by decide)).1; omega
  have hpre : ∀ k : Nat, ll (gL g) (gR g 0) = ll (gL g) ((gR g 0).take k) + ll (gL g) ((gR g 0).drop k) := fun k => by rw [← ll_app, List.take_append_drop]
  have hdl : ∀ k : Nat, ((exL g ((gR g 0).drop k)).length : Int) = ll (gL g) ((gR g 0).drop k) := fun k => exL_lenP w (fun x hx => w.1 0 (by omega) x (List.drop_subset _ _ hx))
  have hdn : ∀ k : Nat, 0 ≤ ll (gL g) ((gR g 0).drop k) := fun k => by
    have := ll_ge (L := gL g) (l := (gR g 0).drop k) (fun x hx => (w.sl1' (by omega) (List.drop_subset _ _ hx)).1)
    omega
  unfold f_M_unfolds
  refine tr_call (P := fun x J => x = ((gTx g).length : Int) ∧ UNF J g (gTx g) ∧ Fm FUN I J) (tr_whl (fun n s J => ∃ (k : Nat) (out : List Int), n = (gR g 0).length - k ∧ k ≤ (gR g 0).length ∧ s = ((out.length : Int), (k : Int)) ∧ out ++ exL g ((gR g 0).drop k) = gTx g ∧ UNF J g out ∧ Fm FUN I J) ?_ (gR g 0).length _ _ ⟨0, [], rfl, Nat.zero_le _, rfl, by rw [List.drop_zero]; rfl, fun q hq => absurd hq (Nat.not_lt_zero q), Fm.refl _ _⟩) (fun _ _ q => tr_ret q)
  rintro n s J ⟨k, out, rfl, hk, rfl, hO, hU, hF⟩
  have hG := h.fun_ hF
  have emany : f_M_many 0 J = some (((gR g 0).length : Int), J) := m_many hG (i := 0) (by omega)
  unfold f_M_unfolds_w4
  dsimp only
  rw [emany, bnd_some, w32_of (x := (k : Int)) (by omega) (by omega), w32_of (x := ((gR g 0).length : Int)) (by omega) (by omega)]
  have hOl := congrArg List.length hO
  rw [List.length_append] at hOl
  have hdk := hdl k
  have hpk := hpre k
  by_cases q : k < (gR g 0).length
  · rw [if_pos (by omega)]
    have hx : SYr (gR g) ((gR g 0).getD k (-1)) := w.1 0 (by omega) _ (getD_mem q)
    have hdk1 := hdl (k + 1)
    have hpk1 := hpre (k + 1)
    have hdn1 := hdn (k + 1)
    have hdrop := drop_at (l := gR g 0) (d := -1) q
    -- the machine on one symbol
    show Tr (bnd (whl (f_M_unfolds_w29 (k : Int)) ((out.length : Int), 0) (sI (sI J 27 9 0 0) 27 10 0 (k : Int))) (fun r121 J122 => some (Sum.inl (r121, (k : Int) + 1), J122))) _
    have fS : ∀ {K : Mem} {i s : Nat} {v : Int}, 7 ≤ i ∧ i ≤ 10 → Fm FUN K (sI K 27 i s v) := fun hi => Fm.sI (by omega) (by omega) (by omega) ⟨rfl, hi.1, hi.2⟩
    refine tr_call (P := fun x K => ∃ out' : List Int, x = (out'.length : Int) ∧ out' ++ exL g ((gR g 0).drop (k + 1)) = gTx g ∧ UNF K g out' ∧ Fm FUN I K) (tr_whl (fun n s K => ∃ out' : List Int, UNF K g out' ∧ Fm FUN I K ∧ ((s = ((out'.length : Int), -1) ∧ out' ++ exL g ((gR g 0).drop (k + 1)) = gTx g) ∨ (s = ((out'.length : Int), 0) ∧ out' ++ exL g ((gR g 0).drop k) = gTx g ∧ K 27 9 0 = 0 ∧ K 27 10 0 = (k : Int) ∧ mcS g [(0, k)] + 1 ≤ n) ∨ (∃ (i pl : Nat) (W : List (Nat × Nat)), s = ((out'.length : Int), (W.length : Int) + 1) ∧ out' ++ remS g ((i, pl) :: W) ++ exL g ((gR g 0).drop (k + 1)) = gTx g ∧ ll (gL g) ((gR g 0).take k) ≤ out'.length ∧ CHN g ((i, pl) :: (W ++ [(0, k + 1)])) ∧ K 27 9 (W.length + 1) = (i : Int) ∧ K 27 10 (W.length + 1) = (pl : Int) ∧ MSL K W ∧ mcS g ((i, pl) :: W) + 1 ≤ n))) ?_ 3000 _ _ ⟨out, ?_, ?_, Or.inr (Or.inl ⟨rfl, hO, by rw [sI_ne (by omega), sI_self], sI_self .., ?_⟩)⟩) ?_
    · rintro n s K ⟨out', hU', hF', hs⟩
      have hGK := h.fun_ hF'
      unfold f_M_unfolds_w29
      -- a letter, or a rule, is there
      rcases hs with ⟨rfl, hO'⟩ | ⟨rfl, hO', k9, k10, hn⟩ | ⟨i, pl, W, rfl, hO', hlow, hC, k9, k10, hW, hn⟩
      · dsimp only
        rw [if_pos (by decide)]
        exact tr_ret ⟨out', rfl, hO', hU', hF'⟩
      · dsimp only
        rw [if_neg (by decide), if_neg (by decide)]
        have hOl' := congrArg List.length hO'
        rw [List.length_append] at hOl'
        rw [hdrop, exL_cons] at hO'
        rw [mcS, mcS, hdrop, ll_cons, List.length_cons] at hn
        have hmc1 := ll_ge (L := gL g) (l := (gR g 0).drop (k + 1)) (fun y hy => (w.sl1' (by omega) (List.drop_subset _ _ hy)).1)
        have eat : f_M_at 0 (k : Int) K = some ((gR g 0).getD k (-1), K) := m_at hGK (i := 0) (by omega) q
        unfold f_M_unfolds_j60 f_M_unfolds_j61
        rw [if_pos (by decide), show w32 0 = 0 from rfl, if_pos (by decide)]
        show Tr (bnd (f_M_at (K 27 9 0) (K 27 10 0) K) _) _
        rw [k9, k10, eat, bnd_some]
        generalize hxe : (gR g 0).getD k (-1) = x at *
        have hsx := w.sl1 hx
        have hx0 := hx.1
        have hx6 := hx.2.1
        unfold f_M_unfolds_j88
        rw [if_pos (by decide), w32_of (x := x) (by omega) (by omega)]
        by_cases q2 : x < 26
        · rw [ex_letter g q2] at hO'
          rw [if_pos q2, w32_of (x := (out'.length : Int)) (by omega) (by omega), if_pos (by omega), Int.toNat_natCast]
          show Tr (if 0 < w32 0 then _ else some (Sum.inl ((out'.length : Int) + 1, -1), sI (sI K 27 7 out'.length x) 27 8 out'.length (k : Int))) _
          rw [if_neg (by decide)]
          have f2 : Fm (fun a b c => a = 27 ∧ (b = 7 ∨ b = 8) ∧ c = out'.length) K (sI (sI K 27 7 out'.length x) 27 8 out'.length (k : Int)) := (Fm.sI (by decide) (by omega) (by omega) ⟨rfl, Or.inl rfl, rfl⟩).trans (Fm.sI (by decide) (by omega) (by omega) ⟨rfl, Or.inr rfl, rfl⟩)
          have hsl := sl_26 (L := gL g) q2
          have e2 : ll (gL g) ((gR g 0).drop k) = 1 + ll (gL g) ((gR g 0).drop (k + 1)) := by rw [hdrop, ll_cons, hsl]
          refine tr_ret ⟨n - 1, by omega, out' ++ [x], hU'.snoc q (by omega) (by omega) f2 (by rw [sI_ne (by omega), sI_self]) (sI_self ..), hF'.trans (f2.mono (fun a b c z => ⟨z.1, by omega, by omega⟩)), Or.inl ⟨Prod.ext (by rw [List.length_append]; rfl) rfl, by rw [← hO']; simp⟩⟩
        · obtain ⟨b1, b2, b3, b4, b5, b6⟩ := rule_bodyP w hx (by omega)
          rw [ex_ruleP w hx (by omega)] at hO'
          rw [if_neg q2]
          show Tr (if 0 ≤ w32 (0 + 1) ∧ w32 (0 + 1) < 42 then _ else none) _
          rw [if_pos (by decide), show (w32 ((0 : Int) + 1)).toNat = 1 from by decide]
          have hC0 : CHN g [(0, k)] := ⟨by omega, by omega, fun _ => rfl, fun z => absurd rfl z, fun q hq => absurd hq List.not_mem_nil, trivial⟩
          have hxg : x = (gR g 0).getD k (-1) := hxe.symm
          have hC1 := hC0.pushP w q hxg (by omega)
          refine tr_ret ⟨n - 1, by omega, out', fun q' hq' => ?_, hF'.trans ((fS ⟨by omega, by omega⟩).trans (fS ⟨by omega, by omega⟩)), Or.inr (Or.inr ⟨(x - 26).toNat + 1, 0, [], rfl, ?_, by omega, hC1, ?_, ?_, trivial, ?_⟩)⟩
          · rw [sI_ne (by omega), sI_ne (by omega), sI_ne (by omega), sI_ne (by omega)]; exact hU' q' hq'
          · rw [remS, remS, List.drop_zero, List.append_nil, List.append_assoc]; exact hO'
          · show sI (sI K 27 9 1 (x - 26 + 1)) 27 10 1 0 27 9 1 = _
            rw [sI_ne (by decide), sI_self]; omega
          · exact sI_self ..
          · rw [mcS, mcS, List.drop_zero, b4]; omega
      · have hlen := hC.len
        rw [List.length_cons, List.length_append, List.length_singleton] at hlen
        obtain ⟨c1, c2, c3, c4, c5, c6⟩ := hC
        have hC : CHN g ((i, pl) :: (W ++ [(0, k + 1)])) := ⟨c1, c2, c3, c4, c5, c6⟩
        have hWn := mcS_nnP w c6
        rw [mcS_app] at hWn
        have hOl' := congrArg List.length hO'
        rw [List.length_append, List.length_append] at hOl'
        have em := m_many hGK c1
        have hil := w.len400 i c1
        have hmcW : 0 ≤ mcS g W := by
          -- every part is at least one
          have key : ∀ V : List (Nat × Nat), CHN g (V ++ [(0, k + 1)]) → 0 ≤ mcS g V := by
            intro V
            induction V with
            | nil => intro _; exact Int.le_refl _
            | cons a V ih =>
              intro hV
              obtain ⟨i', pl'⟩ := a
              have h1 := ih hV.2.2.2.2.2
              have h2 := ll_ge (L := gL g) (l := (gR g i').drop pl') (fun x hx => (w.sl1' hV.1 (List.drop_subset _ _ hx)).1)
              rw [mcS]
              omega
          exact key W c6
        dsimp only
        rw [w32_of (x := (W.length : Int) + 1) (by omega) (by omega), if_neg (by omega), if_pos (by omega), if_pos (by omega), tn1, k9, em, bnd_some, k10, w32_of (x := (pl : Int)) (by omega) (by omega), w32_of (x := ((gR g i).length : Int)) (by omega) (by omega)]
        by_cases qo : pl = (gR g i).length
        · have hdn' : (gR g i).drop pl = [] := List.drop_eq_nil_of_le (by omega)
          rw [remS, hdn', exL_nil, List.nil_append] at hO'
          rw [mcS, hdn', ll_nil, List.length_nil] at hn
          rw [if_pos (by omega)]
          unfold f_M_unfolds_j61
          rw [if_neg (by decide)]
          unfold f_M_unfolds_j88
          rw [if_neg (by decide), show (W.length : Int) + 1 + (-1) = (W.length : Int) by omega, w32_of (x := (W.length : Int)) (by omega) (by omega)]
          match W, hW, hC, hO', hn, hmcW with
          | [], _, _, hO', hn, _ =>
            rw [if_neg (by simp)]
            refine tr_ret ⟨n - 1, by omega, out', hU', hF', Or.inl ⟨rfl, by simpa [remS] using hO'⟩⟩
          | (i', pl') :: W, hW, hC, hO', hn, hmcW =>
            obtain ⟨w1, w2, w3⟩ := hW
            rw [if_pos (by rw [List.length_cons]; omega), if_pos (by rw [List.length_cons] at hlen ⊢; omega), Int.toNat_natCast, List.length_cons]
            refine tr_ret ⟨n - 1, by omega, out', fun q' hq' => ?_, hF'.trans (fS ⟨by omega, by omega⟩), Or.inr (Or.inr ⟨i', pl', W, Prod.ext rfl (by show ((W.length + 1 : Nat) : Int) = _; omega), hO', hlow, hC.2.2.2.2.2, ?_, ?_, w3.of (fun d hd => ⟨?_, ?_⟩), by omega⟩)⟩
            · rw [sI_ne (by omega), sI_ne (by omega)]; exact hU' q' hq'
            · rw [sI_ne (by omega)]; exact w1
            · rw [sI_self]; exact w2
            · rw [sI_ne (by omega)]
            · rw [sI_ne (by omega)]
        · have qi : pl < (gR g i).length := by omega
          have hdi := drop_at (l := gR g i) (d := -1) qi
          have hxi : SYr (gR g) ((gR g i).getD pl (-1)) := w.1 i c1 _ (getD_mem qi)
          have eat := m_at hGK c1 qi
          rw [if_neg (by omega)]
          unfold f_M_unfolds_j60 f_M_unfolds_j61
          rw [if_pos (by decide), w32_of (x := (W.length : Int) + 1) (by omega) (by omega), if_pos (by omega), tn1, k9, k10, eat, bnd_some]
          rw [remS, hdi, exL_cons] at hO'
          rw [mcS, hdi, ll_cons, List.length_cons] at hn
          have hge := ll_ge (L := gL g) (l := (gR g i).drop (pl + 1)) (fun y hy => (w.sl1' c1 (List.drop_subset _ _ hy)).1)
          have hxe : (gR g i).getD pl (-1) = (gR g i).getD pl (-1) := rfl
          generalize hxx : (gR g i).getD pl (-1) = x at *
          have hx0 := hxi.1
          have hx6 := hxi.2.1
          have hsx := w.sl1 hxi
          have hol : (out'.length : Int) < ll (gL g) ((gR g 0).take (k + 1)) := by
            have h1 := congrArg List.length hO'
            simp only [List.length_append] at h1
            have h2 := (ex_lenP w (sl (gL g) x).toNat x hxi (by omega)).1
            omega
          unfold f_M_unfolds_j88
          rw [if_pos (by decide), w32_of (x := x) (by omega) (by omega)]
          by_cases q2 : x < 26
          · rw [ex_letter g q2] at hO'
            rw [sl_26 q2] at hn
            have f2 : Fm (fun a b c => a = 27 ∧ (b = 7 ∨ b = 8) ∧ c = out'.length) K (sI (sI K 27 7 out'.length x) 27 8 out'.length (k : Int)) := (Fm.sI (by decide) (by omega) (by omega) ⟨rfl, Or.inl rfl, rfl⟩).trans (Fm.sI (by decide) (by omega) (by omega) ⟨rfl, Or.inr rfl, rfl⟩)
            have hU2 := hU'.snoc q hlow hol f2 (by rw [sI_ne (by omega), sI_self]) (sI_self ..)
            rw [if_pos q2, w32_of (x := (out'.length : Int)) (by omega) (by omega), if_pos (by omega), Int.toNat_natCast]
            show Tr (if 0 < w32 ((W.length : Int) + 1) then (if 0 ≤ w32 ((W.length : Int) + 1) ∧ w32 ((W.length : Int) + 1) < 42 then some (Sum.inl ((out'.length : Int) + 1, (W.length : Int) + 1), sI (sI (sI K 27 7 out'.length x) 27 8 out'.length (k : Int)) 27 10 (w32 ((W.length : Int) + 1)).toNat (sI (sI K 27 7 out'.length x) 27 8 out'.length (k : Int) 27 10 (w32 ((W.length : Int) + 1)).toNat + 1)) else none) else some (Sum.inl ((out'.length : Int) + 1, -1), sI (sI K 27 7 out'.length x) 27 8 out'.length (k : Int))) _
            rw [w32_of (x := (W.length : Int) + 1) (by omega) (by omega), if_pos (by omega), if_pos (by omega), tn1, sI_ne (by omega), sI_ne (by omega), k10]
            refine tr_ret ⟨n - 1, by omega, out' ++ [x], fun q' hq' => ?_, (hF'.trans (f2.mono (fun a b c z => ⟨z.1, by omega, by omega⟩))).trans (fS ⟨by omega, by omega⟩), Or.inr (Or.inr ⟨i, pl + 1, W, Prod.ext (by rw [List.length_append]; rfl) rfl, by rw [remS, ← hO']; simp, by rw [List.length_append, List.length_singleton]; omega, ⟨c1, qi, c3, c4, c5, c6⟩, ?_, ?_, hW.of (fun d hd => ⟨?_, ?_⟩), by rw [mcS]; omega⟩)⟩
            · rw [sI_ne (by omega), sI_ne (I := sI (sI K 27 7 out'.length x) 27 8 out'.length (k : Int)) (by omega)]; exact hU2 q' hq'
            · rw [sI_ne (by omega), sI_ne (by omega), sI_ne (by omega)]; exact k9
            · rw [sI_self]; rfl
            · rw [sI_ne (by omega), sI_ne (by omega), sI_ne (by omega)]
            · rw [sI_ne (by omega), sI_ne (by omega), sI_ne (by omega)]
          · obtain ⟨b1, b2, b3, b4, b5, b6⟩ := rule_bodyP w hxi (by omega)
            have hC2 := hC.pushP w qi hxx.symm (by omega)
            have hl2 := hC2.len
            rw [List.length_cons, List.length_cons, List.length_append, List.length_singleton] at hl2
            rw [ex_ruleP w hxi (by omega)] at hO'
            rw [if_neg q2, w32_of (x := (W.length : Int) + 1 + 1) (by omega) (by omega), if_pos (by omega), show ((W.length : Int) + 1 + 1).toNat = W.length + 2 by omega]
            refine tr_ret ⟨n - 1, by omega, out', fun q' hq' => ?_, hF'.trans ((fS ⟨by omega, by omega⟩).trans (fS ⟨by omega, by omega⟩)), Or.inr (Or.inr ⟨(x - 26).toNat + 1, 0, (i, pl + 1) :: W, Prod.ext rfl (by rw [List.length_cons]; show (W.length : Int) + 1 + 1 = _; omega), by rw [remS, remS, List.drop_zero, ← hO']; simp, hlow, hC2, ?_, ?_, ⟨?_, ?_, hW.of (fun d hd => ⟨?_, ?_⟩)⟩, by rw [mcS, mcS, List.drop_zero, b4]; omega⟩)⟩
            · rw [sI_ne (by omega), sI_ne (by omega), sI_ne (by omega), sI_ne (by omega)]; exact hU' q' hq'
            · rw [List.length_cons, sI_ne (by omega), sI_self]; omega
            · rw [List.length_cons, sI_self]; rfl
            · rw [sI_ne (by omega), sI_ne (by omega)]; exact k9
            · rw [sI_ne (by omega), sI_ne (by omega), k10]; rfl
            · rw [sI_ne (by omega), sI_ne (by omega)]
            · rw [sI_ne (by omega), sI_ne (by omega)]
    · exact fun q' hq' => by rw [sI_ne (by omega), sI_ne (by omega), sI_ne (by omega), sI_ne (by omega)]; exact hU q' hq'
    · exact hF.trans ((fS ⟨by omega, by omega⟩).trans (fS ⟨by omega, by omega⟩))
    · rw [mcS, mcS]
      have := hdl k
      omega
    rintro x K ⟨out', rfl, hO', hU', hF'⟩
    exact tr_ret ⟨(gR g 0).length - (k + 1), by omega, k + 1, out', rfl, by omega, rfl, hO', hU', hF'⟩
  · have hk2 : k = (gR g 0).length := by omega
    subst hk2
    rw [List.drop_length, exL_nil, List.append_nil] at hO
    subst hO
    rw [if_neg (by omega)]
    exact tr_ret ⟨rfl, hU, hF⟩
end WPs18
