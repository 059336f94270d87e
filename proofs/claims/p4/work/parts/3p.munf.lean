/-! ===== the reference unfolds ===== -/
theorem remS_app (g : GS) : ∀ (a b : List (Nat × Nat)), remS g (a ++ b) = remS g a ++ remS g b
  | [], b => rfl
  | (i, pl) :: a, b => by
    rw [List.cons_append, remS, remS, remS_app g a b, List.append_assoc]
theorem mcS_app (g : GS) : ∀ (a b : List (Nat × Nat)), mcS g (a ++ b) = mcS g a + mcS g b
  | [], b => by simp [mcS]
  | (i, pl) :: a, b => by
    rw [List.cons_append, mcS, mcS, mcS_app g a b]
    omega
/-- the rows that wait, the newest first: their places are those of what is open in them -/
def MSL (J : Mem) : List (Nat × Nat) → Prop
  | [] => True
  | (i, pl) :: W => J 27 9 (W.length + 1) = (i : Int) ∧ J 27 10 (W.length + 1) + 1 = (pl : Int) ∧ MSL J W
theorem MSL.of {J J' : Mem} : ∀ {W : List (Nat × Nat)}, MSL J W → (∀ d : Nat, d < W.length + 1 → J' 27 9 d = J 27 9 d ∧ J' 27 10 d = J 27 10 d) → MSL J' W
  | [], _, _ => trivial
  | (i, pl) :: W, h, k => by
    obtain ⟨h1, h2, h3⟩ := h
    have k0 := k (W.length + 1) (by simp)
    exact ⟨by rw [k0.1]; exact h1, by rw [k0.2]; exact h2, h3.of (fun d hd => k d (by rw [List.length_cons]; omega))⟩
abbrev FUN : FP := fun k i _ => k = 27 ∧ 7 ≤ i ∧ i ≤ 10
/-- the text, and the place in START that each letter comes from -/
def UNF (J : Mem) (g : GS) (out : List Int) : Prop := ∀ q : Nat, q < out.length → J 27 7 q = out.getD q (-1) ∧ ∃ k : Nat, J 27 8 q = (k : Int) ∧ k < (gR g 0).length ∧ ll (gL g) ((gR g 0).take k) ≤ q ∧ (q : Int) < ll (gL g) ((gR g 0).take (k + 1))
section MUNF
variable {I : Mem} {g : GS}
theorem GW.fun_ {J : Mem} (h : GW I g) (f : Fm FUN I J) : GW J g := h.fm f (fun s hs z => by unfold FUN at z; omega)
theorem UNF.snoc {J : Mem} {out : List Int} (h : UNF J g out) {x : Int} {k : Nat} (hk : k < (gR g 0).length) (h1 : ll (gL g) ((gR g 0).take k) ≤ out.length) (h2 : (out.length : Int) < ll (gL g) ((gR g 0).take (k + 1))) {K : Mem} (f : Fm (fun a b c => a = 27 ∧ (b = 7 ∨ b = 8) ∧ c = out.length) J K) (e7 : K 27 7 out.length = x) (e8 : K 27 8 out.length = (k : Int)) : UNF K g (out ++ [x]) := by
  intro q hq
  rw [List.length_append, List.length_singleton] at hq
  by_cases e : q = out.length
  · subst e
    refine ⟨by rw [e7, getD_r (Nat.le_refl _), Nat.sub_self]; rfl, k, e8, hk, h1, h2⟩
  · rw [f.at (by decide) (by omega), f.at (by decide) (by omega), getD_l (by omega)]
    exact h q (by omega)
theorem t_munfolds (h : GW I g) (w : WF g) : Tr (f_M_unfolds I) (fun x J => x = ((gTx g).length : Int) ∧ UNF J g (gTx g) ∧ Fm FUN I J) := by
  have hTl := gTx_len w
  have hT4 := w.2.2.2.2.1
  have h00 := w.lle (i := 0) (by omega)
  have hgT : ((gTx g).length : Int) = ll (gL g) (gR g 0) := by have := w.2.2.1; omega
  have hpre : ∀ k : Nat, ll (gL g) (gR g 0) = ll (gL g) ((gR g 0).take k) + ll (gL g) ((gR g 0).drop k) := fun k => by rw [← ll_app, List.take_append_drop]
  have hdl : ∀ k : Nat, ((exL g ((gR g 0).drop k)).length : Int) = ll (gL g) ((gR g 0).drop k) := fun k => exL_len w (fun x hx => w.1 0 (by omega) x (List.drop_subset _ _ hx))
  have hdn : ∀ k : Nat, 0 ≤ ll (gL g) ((gR g 0).drop k) := fun k => by
    have := ll_ge (L := gL g) (l := (gR g 0).drop k) (fun x hx => (w.sl1' (by omega) (List.drop_subset _ _ hx)).1)
    omega
  unfold f_M_unfolds
  refine tr_call (P := fun x J => x = ((gTx g).length : Int) ∧ UNF J g (gTx g) ∧ Fm FUN I J) (tr_whl (fun n s J => ∃ (k : Nat) (out : List Int), n = (gR g 0).length - k ∧ k ≤ (gR g 0).length ∧ s = ((out.length : Int), (k : Int)) ∧ out ++ exL g ((gR g 0).drop k) = gTx g ∧ UNF J g out ∧ Fm FUN I J) ?_ (gR g 0).length _ _ ⟨0, [], rfl, Nat.zero_le _, rfl, by rw [List.drop_zero]; rfl, fun q hq => absurd hq (Nat.not_lt_zero q), Fm.refl _ _⟩) (fun _ _ q => tr_ret q)
  rintro n s J ⟨k, out, rfl, hk, rfl, hO, hU, hF⟩
  have hG := h.fun_ hF
  have emany : f_M_many 0 J = some (((gR g 0).length : Int), J) := m_many hG (i := 0) (by omega)
  unfold f_M_unfolds_w4
  dsimp only
  rw [emany, bnd_some, w32_of (x := (k : Int)) (by omega) (by omega), w32_of (x := ((gR g 0).length : Int)) (by omega) (by omega)]
  have hOl := congrArg List.length hO
  rw [List.length_append] at hOl
  have hdk := hdl k
  have hpk := hpre k
  by_cases q : k < (gR g 0).length
  · rw [if_pos (by omega)]
    have hx : SYr (gR g) ((gR g 0).getD k (-1)) := w.1 0 (by omega) _ (getD_mem q)
    have hdk1 := hdl (k + 1)
    have hpk1 := hpre (k + 1)
    have hdn1 := hdn (k + 1)
    have hdrop := drop_at (l := gR g 0) (d := -1) q
    -- the machine on one symbol
    show Tr (bnd (whl (f_M_unfolds_w29 (k : Int)) ((out.length : Int), 0) (sI (sI J 27 9 0 0) 27 10 0 (k : Int))) (fun r121 J122 => some (Sum.inl (r121, (k : Int) + 1), J122))) _
    have fS : ∀ {K : Mem} {i s : Nat} {v : Int}, 7 ≤ i ∧ i ≤ 10 → Fm FUN K (sI K 27 i s v) := fun hi => Fm.sI (by omega) (by omega) (by omega) ⟨rfl, hi.1, hi.2⟩
    refine tr_call (P := fun x K => ∃ out' : List Int, x = (out'.length : Int) ∧ out' ++ exL g ((gR g 0).drop (k + 1)) = gTx g ∧ UNF K g out' ∧ Fm FUN I K) (tr_whl (fun n s K => ∃ out' : List Int, UNF K g out' ∧ Fm FUN I K ∧ ((s = ((out'.length : Int), -1) ∧ out' ++ exL g ((gR g 0).drop (k + 1)) = gTx g) ∨ (s = ((out'.length : Int), 0) ∧ out' ++ exL g ((gR g 0).drop k) = gTx g ∧ K 27 9 0 = 0 ∧ K 27 10 0 = (k : Int) ∧ mcS g [(0, k)] + 1 ≤ n) ∨ (∃ (i pl : Nat) (W : List (Nat × Nat)), s = ((out'.length : Int), (W.length : Int) + 1) ∧ out' ++ remS g ((i, pl) :: W) ++ exL g ((gR g 0).drop (k + 1)) = gTx g ∧ ll (gL g) ((gR g 0).take k) ≤ out'.length ∧ CHN g ((i, pl) :: (W ++ [(0, k + 1)])) ∧ K 27 9 (W.length + 1) = (i : Int) ∧ K 27 10 (W.length + 1) = (pl : Int) ∧ MSL K W ∧ mcS g ((i, pl) :: W) + 1 ≤ n))) ?_ 3000 _ _ ⟨out, ?_, ?_, Or.inr (Or.inl ⟨rfl, hO, by rw [sI_ne (by omega), sI_self], sI_self .., ?_⟩)⟩) ?_
    · rintro n s K ⟨out', hU', hF', hs⟩
      have hGK := h.fun_ hF'
      unfold f_M_unfolds_w29
      -- a letter, or a rule, is there
      rcases hs with ⟨rfl, hO'⟩ | ⟨rfl, hO', k9, k10, hn⟩ | ⟨i, pl, W, rfl, hO', hlow, hC, k9, k10, hW, hn⟩
      · dsimp only
        rw [if_pos (by decide)]
        exact tr_ret ⟨out', rfl, hO', hU', hF'⟩
      · dsimp only
        rw [if_neg (by decide), if_neg (by decide)]
        have hOl' := congrArg List.length hO'
        rw [List.length_append] at hOl'
        rw [hdrop, exL_cons] at hO'
        rw [mcS, mcS, hdrop, ll_cons, List.length_cons] at hn
        have hmc1 := ll_ge (L := gL g) (l := (gR g 0).drop (k + 1)) (fun y hy => (w.sl1' (by omega) (List.drop_subset _ _ hy)).1)
        have eat : f_M_at 0 (k : Int) K = some ((gR g 0).getD k (-1), K) := m_at hGK (i := 0) (by omega) q
        unfold f_M_unfolds_j60 f_M_unfolds_j61
        rw [if_pos (by decide), show w32 0 = 0 from rfl, if_pos (by decide)]
        show Tr (bnd (f_M_at (K 27 9 0) (K 27 10 0) K) _) _
        rw [k9, k10, eat, bnd_some]
        generalize hxe : (gR g 0).getD k (-1) = x at *
        have hsx := w.sl1 hx
        have hx0 := hx.1
        have hx6 := hx.2.1
        unfold f_M_unfolds_j88
        rw [if_pos (by decide), w32_of (x := x) (by omega) (by omega)]
        by_cases q2 : x < 26
        · rw [ex_letter g q2] at hO'
          rw [if_pos q2, w32_of (x := (out'.length : Int)) (by omega) (by omega), if_pos (by omega), Int.toNat_natCast]
          show Tr (if 0 < w32 0 then _ else some (Sum.inl ((out'.length : Int) + 1, -1), sI (sI K 27 7 out'.length x) 27 8 out'.length (k : Int))) _
          rw [if_neg (by decide)]
          have f2 : Fm (fun a b c => a = 27 ∧ (b = 7 ∨ b = 8) ∧ c = out'.length) K (sI (sI K 27 7 out'.length x) 27 8 out'.length (k : Int)) := (Fm.sI (by decide) (by omega) (by omega) ⟨rfl, Or.inl rfl, rfl⟩).trans (Fm.sI (by decide) (by omega) (by omega) ⟨rfl, Or.inr rfl, rfl⟩)
          have hsl := sl_26 (L := gL g) q2
          have e2 : ll (gL g) ((gR g 0).drop k) = 1 + ll (gL g) ((gR g 0).drop (k + 1)) := by rw [hdrop, ll_cons, hsl]
          refine tr_ret ⟨n - 1, by omega, out' ++ [x], hU'.snoc q (by omega) (by omega) f2 (by rw [sI_ne (by omega), sI_self]) (sI_self ..), hF'.trans (f2.mono (fun a b c z => ⟨z.1, by omega, by omega⟩)), Or.inl ⟨Prod.ext (by rw [List.length_append]; rfl) rfl, by rw [← hO']; simp⟩⟩
        · obtain ⟨b1, b2, b3, b4, b5, b6⟩ := rule_body w hx (by omega)
          rw [ex_rule w hx (by omega)] at hO'
          rw [if_neg q2]
          show Tr (if 0 ≤ w32 (0 + 1) ∧ w32 (0 + 1) < 42 then _ else none) _
          rw [if_pos (by decide), show (w32 ((0 : Int) + 1)).toNat = 1 from by decide]
          have hC0 : CHN g [(0, k)] := ⟨by omega, by omega, fun _ => rfl, fun z => absurd rfl z, fun q hq => absurd hq List.not_mem_nil, trivial⟩
          have hxg : x = (gR g 0).getD k (-1) := hxe.symm
          have hC1 := hC0.push w q hxg (by omega)
          refine tr_ret ⟨n - 1, by omega, out', fun q' hq' => ?_, hF'.trans ((fS ⟨by omega, by omega⟩).trans (fS ⟨by omega, by omega⟩)), Or.inr (Or.inr ⟨(x - 26).toNat + 1, 0, [], rfl, ?_, by omega, hC1, ?_, ?_, trivial, ?_⟩)⟩
          · rw [sI_ne (by omega), sI_ne (by omega), sI_ne (by omega), sI_ne (by omega)]; exact hU' q' hq'
          · rw [remS, remS, List.drop_zero, List.append_nil, List.append_assoc]; exact hO'
          · show sI (sI K 27 9 1 (x - 26 + 1)) 27 10 1 0 27 9 1 = _
            rw [sI_ne (by decide), sI_self]; omega
          · exact sI_self ..
          · rw [mcS, mcS, List.drop_zero, b4]; omega
      · have hlen := hC.len
        rw [List.length_cons, List.length_append, List.length_singleton] at hlen
        obtain ⟨c1, c2, c3, c4, c5, c6⟩ := hC
        have hC : CHN g ((i, pl) :: (W ++ [(0, k + 1)])) := ⟨c1, c2, c3, c4, c5, c6⟩
        have hWn := mcS_nn w c6
        rw [mcS_app] at hWn
        have hOl' := congrArg List.length hO'
        rw [List.length_append, List.length_append] at hOl'
        have em := m_many hGK c1
        have hil := w.len400 i c1
        have hmcW : 0 ≤ mcS g W := by
          -- every part is at least one
          have key : ∀ V : List (Nat × Nat), CHN g (V ++ [(0, k + 1)]) → 0 ≤ mcS g V := by
            intro V
            induction V with
            | nil => intro _; exact Int.le_refl _
            | cons a V ih =>
              intro hV
              obtain ⟨i', pl'⟩ := a
              have h1 := ih hV.2.2.2.2.2
              have h2 := ll_ge (L := gL g) (l := (gR g i').drop pl') (fun x hx => (w.sl1' hV.1 (List.drop_subset _ _ hx)).1)
              rw [mcS]
              omega
          exact key W c6
        dsimp only
        rw [w32_of (x := (W.length : Int) + 1) (by omega) (by omega), if_neg (by omega), if_pos (by omega), if_pos (by omega), tn1, k9, em, bnd_some, k10, w32_of (x := (pl : Int)) (by omega) (by omega), w32_of (x := ((gR g i).length : Int)) (by omega) (by omega)]
        by_cases qo : pl = (gR g i).length
        · have hdn' : (gR g i).drop pl = [] := List.drop_eq_nil_of_le (by omega)
          rw [remS, hdn', exL_nil, List.nil_append] at hO'
          rw [mcS, hdn', ll_nil, List.length_nil] at hn
          rw [if_pos (by omega)]
          unfold f_M_unfolds_j61
          rw [if_neg (by decide)]
          unfold f_M_unfolds_j88
          rw [if_neg (by decide), show (W.length : Int) + 1 + (-1) = (W.length : Int) by omega, w32_of (x := (W.length : Int)) (by omega) (by omega)]
          match W, hW, hC, hO', hn, hmcW with
          | [], _, _, hO', hn, _ =>
            rw [if_neg (by simp)]
            refine tr_ret ⟨n - 1, by omega, out', hU', hF', Or.inl ⟨rfl, by simpa [remS] using hO'⟩⟩
          | (i', pl') :: W, hW, hC, hO', hn, hmcW =>
            obtain ⟨w1, w2, w3⟩ := hW
            rw [if_pos (by rw [List.length_cons]; omega), if_pos (by rw [List.length_cons] at hlen ⊢; omega), Int.toNat_natCast, List.length_cons]
            refine tr_ret ⟨n - 1, by omega, out', fun q' hq' => ?_, hF'.trans (fS ⟨by omega, by omega⟩), Or.inr (Or.inr ⟨i', pl', W, Prod.ext rfl (by show ((W.length + 1 : Nat) : Int) = _; omega), hO', hlow, hC.2.2.2.2.2, ?_, ?_, w3.of (fun d hd => ⟨?_, ?_⟩), by omega⟩)⟩
            · rw [sI_ne (by omega), sI_ne (by omega)]; exact hU' q' hq'
            · rw [sI_ne (by omega)]; exact w1
            · rw [sI_self]; exact w2
            · rw [sI_ne (by omega)]
            · rw [sI_ne (by omega)]
        · have qi : pl < (gR g i).length := by omega
          have hdi := drop_at (l := gR g i) (d := -1) qi
          have hxi : SYr (gR g) ((gR g i).getD pl (-1)) := w.1 i c1 _ (getD_mem qi)
          have eat := m_at hGK c1 qi
          rw [if_neg (by omega)]
          unfold f_M_unfolds_j60 f_M_unfolds_j61
          rw [if_pos (by decide), w32_of (x := (W.length : Int) + 1) (by omega) (by omega), if_pos (by omega), tn1, k9, k10, eat, bnd_some]
          rw [remS, hdi, exL_cons] at hO'
          rw [mcS, hdi, ll_cons, List.length_cons] at hn
          have hge := ll_ge (L := gL g) (l := (gR g i).drop (pl + 1)) (fun y hy => (w.sl1' c1 (List.drop_subset _ _ hy)).1)
          have hxe : (gR g i).getD pl (-1) = (gR g i).getD pl (-1) := rfl
          generalize hxx : (gR g i).getD pl (-1) = x at *
          have hx0 := hxi.1
          have hx6 := hxi.2.1
          have hsx := w.sl1 hxi
          have hol : (out'.length : Int) < ll (gL g) ((gR g 0).take (k + 1)) := by
            have h1 := congrArg List.length hO'
            simp only [List.length_append] at h1
            have h2 := (ex_len w (sl (gL g) x).toNat x hxi (by omega)).1
            omega
          unfold f_M_unfolds_j88
          rw [if_pos (by decide), w32_of (x := x) (by omega) (by omega)]
          by_cases q2 : x < 26
          · rw [ex_letter g q2] at hO'
            rw [sl_26 q2] at hn
            have f2 : Fm (fun a b c => a = 27 ∧ (b = 7 ∨ b = 8) ∧ c = out'.length) K (sI (sI K 27 7 out'.length x) 27 8 out'.length (k : Int)) := (Fm.sI (by decide) (by omega) (by omega) ⟨rfl, Or.inl rfl, rfl⟩).trans (Fm.sI (by decide) (by omega) (by omega) ⟨rfl, Or.inr rfl, rfl⟩)
            have hU2 := hU'.snoc q hlow hol f2 (by rw [sI_ne (by omega), sI_self]) (sI_self ..)
            rw [if_pos q2, w32_of (x := (out'.length : Int)) (by omega) (by omega), if_pos (by omega), Int.toNat_natCast]
            show Tr (if 0 < w32 ((W.length : Int) + 1) then (if 0 ≤ w32 ((W.length : Int) + 1) ∧ w32 ((W.length : Int) + 1) < 42 then some (Sum.inl ((out'.length : Int) + 1, (W.length : Int) + 1), sI (sI (sI K 27 7 out'.length x) 27 8 out'.length (k : Int)) 27 10 (w32 ((W.length : Int) + 1)).toNat (sI (sI K 27 7 out'.length x) 27 8 out'.length (k : Int) 27 10 (w32 ((W.length : Int) + 1)).toNat + 1)) else none) else some (Sum.inl ((out'.length : Int) + 1, -1), sI (sI K 27 7 out'.length x) 27 8 out'.length (k : Int))) _
            rw [w32_of (x := (W.length : Int) + 1) (by omega) (by omega), if_pos (by omega), if_pos (by omega), tn1, sI_ne (by omega), sI_ne (by omega), k10]
            refine tr_ret ⟨n - 1, by omega, out' ++ [x], fun q' hq' => ?_, (hF'.trans (f2.mono (fun a b c z => ⟨z.1, by omega, by omega⟩))).trans (fS ⟨by omega, by omega⟩), Or.inr (Or.inr ⟨i, pl + 1, W, Prod.ext (by rw [List.length_append]; rfl) rfl, by rw [remS, ← hO']; simp, by rw [List.length_append, List.length_singleton]; omega, ⟨c1, qi, c3, c4, c5, c6⟩, ?_, ?_, hW.of (fun d hd => ⟨?_, ?_⟩), by rw [mcS]; omega⟩)⟩
            · rw [sI_ne (by omega), sI_ne (I := sI (sI K 27 7 out'.length x) 27 8 out'.length (k : Int)) (by omega)]; exact hU2 q' hq'
            · rw [sI_ne (by omega), sI_ne (by omega), sI_ne (by omega)]; exact k9
            · rw [sI_self]; rfl
            · rw [sI_ne (by omega), sI_ne (by omega), sI_ne (by omega)]
            · rw [sI_ne (by omega), sI_ne (by omega), sI_ne (by omega)]
          · obtain ⟨b1, b2, b3, b4, b5, b6⟩ := rule_body w hxi (by omega)
            have hC2 := hC.push w qi hxx.symm (by omega)
            have hl2 := hC2.len
            rw [List.length_cons, List.length_cons, List.length_append, List.length_singleton] at hl2
            rw [ex_rule w hxi (by omega)] at hO'
            rw [if_neg q2, w32_of (x := (W.length : Int) + 1 + 1) (by omega) (by omega), if_pos (by omega), show ((W.length : Int) + 1 + 1).toNat = W.length + 2 by omega]
            refine tr_ret ⟨n - 1, by omega, out', fun q' hq' => ?_, hF'.trans ((fS ⟨by omega, by omega⟩).trans (fS ⟨by omega, by omega⟩)), Or.inr (Or.inr ⟨(x - 26).toNat + 1, 0, (i, pl + 1) :: W, Prod.ext rfl (by rw [List.length_cons]; show (W.length : Int) + 1 + 1 = _; omega), by rw [remS, remS, List.drop_zero, ← hO']; simp, hlow, hC2, ?_, ?_, ⟨?_, ?_, hW.of (fun d hd => ⟨?_, ?_⟩)⟩, by rw [mcS, mcS, List.drop_zero, b4]; omega⟩)⟩
            · rw [sI_ne (by omega), sI_ne (by omega), sI_ne (by omega), sI_ne (by omega)]; exact hU' q' hq'
            · rw [List.length_cons, sI_ne (by omega), sI_self]; omega
            · rw [List.length_cons, sI_self]; rfl
            · rw [sI_ne (by omega), sI_ne (by omega)]; exact k9
            · rw [sI_ne (by omega), sI_ne (by omega), k10]; rfl
            · rw [sI_ne (by omega), sI_ne (by omega)]
            · rw [sI_ne (by omega), sI_ne (by omega)]
    · exact fun q' hq' => by rw [sI_ne (by omega), sI_ne (by omega), sI_ne (by omega), sI_ne (by omega)]; exact hU q' hq'
    · exact hF.trans ((fS ⟨by omega, by omega⟩).trans (fS ⟨by omega, by omega⟩))
    · rw [mcS, mcS]
      have := hdl k
      omega
    rintro x K ⟨out', rfl, hO', hU', hF'⟩
    exact tr_ret ⟨(gR g 0).length - (k + 1), by omega, k + 1, out', rfl, by omega, rfl, hO', hU', hF'⟩
  · have hk2 : k = (gR g 0).length := by omega
    subst hk2
    rw [List.drop_length, exL_nil, List.append_nil] at hO
    subst hO
    rw [if_neg (by omega)]
    exact tr_ret ⟨rfl, hU, hF⟩
end MUNF
