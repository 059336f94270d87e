/-! ===== every call that changes, second part ===== -/
section MUTS2
variable {I J : Mem} {g g' : GS} {ps : List GS} {kp : Nat → Option GS} {bs rp : List Int} {s : SS}
theorem m_ruleIn (h7 : J 26 0 7 = 0) {a1 : Int} (h1 : w32 a1 = a1) (hr : 0 ≤ a1 ∧ a1 < 40) : f_M_noRule a1 J = some (0, J) := m_noRule1 h7 h1 hr
theorem og_30 (h : SI I s) (a1 : Int) (h1 : w32 a1 = a1) : OGW (f_L_expand a1) (f_M_expand a1) I := by
  obtain ⟨g, ps, kp, bs, rp⟩ := s
  have w : WF g := h.2.2.1
  by_cases hr : 0 ≤ a1 ∧ a1 < 40
  · obtain ⟨j, rfl, hj⟩ : ∃ j : Nat, a1 = (j : Int) ∧ j < 40 := ⟨a1.toNat, by omega, by omega⟩
    by_cases hn : gR g (j + 1) = []
    · refine og_W (fp := f_PR_expand (j : Int)) (s' := (g, ps, kp, bs, rp)) (u := w32 (-4)) h h.2.2 ?_ (fun J sm => m_endG ?_)
      · unfold f_PR_expand
        rw [h1, if_neg (by omega), if_pos (by omega), g_hasRule h.1.1 hj, bI_neg (fun z => z hn), bnd_some, if_pos (by decide)]
        exact tr_ret ⟨⟨_, rfl, rfl⟩, h.1, Fm.refl _ _⟩
      · unfold f_M_expand
        try dsimp only [ltI]
        rw [m_ruleIn (sI_self _ _ _ _ _) h1 (by omega), bnd_some, if_pos (by decide)]
        refine m_mutN (now := f_M_expandNow (j : Int)) sm (by decide) (fun K gw => tr_mono (t_mexpandNow gw w hj) (fun _ _ z => ?_))
        rcases z with ⟨z | z, f⟩
        · exact ⟨z.2.1, z.2.2, f.mono fn_w⟩
        · exact absurd hn z.1
    · refine og_W (fp := f_PR_expand (j : Int)) (s' := (gDis g j 4, pushP ps g, kp, bs, rp)) (u := w32 (gUses g j)) h (h.2.2.mut (w.dis hj hn 4)) ?_ (fun J sm => m_endG ?_)
      · unfold f_PR_expand
        rw [h1, if_neg (by omega), if_pos (by omega), g_hasRule h.1.1 hj, bI_pos hn, bnd_some, if_neg (by decide)]
        refine c_mut (R := fun x : Int ⊕ String => ∃ v : Int, x = .inl v ∧ w32 v = w32 (gUses g j)) h.1 (fun J g0 pt g1 => ?_)
        rw [show (4 : Int) = ((4 : Nat) : Int) from rfl]
        refine tr_call (t_dissolve g0 w hj hn (c := 4) (by decide)) ?_
        rintro x K ⟨rfl, gc, f⟩
        exact tr_ret ⟨⟨_, rfl, rfl⟩, gc, g1_fm g1 f (fun k i s z q => by unfold FG at z q; omega), pt_g pt f, f.mono fo_g⟩
      · have ur : 0 ≤ gUses g j ∧ gUses g j ≤ 16400 := gUses_rng h.1.1 j
        unfold f_M_expand
        try dsimp only [ltI]
        rw [m_ruleIn (sI_self _ _ _ _ _) h1 (by omega), bnd_some, if_pos (by decide)]
        refine m_mutG (now := f_M_expandNow (j : Int)) sm (by rw [w32_of (by omega) (by omega)]; omega) (fun K gw => tr_mono (t_mexpandNow gw w hj) (fun _ _ z => ?_))
        rcases z with ⟨z | z, f⟩
        · exact absurd z.1 hn
        · exact ⟨z.2.1, z.2.2, f.mono fn_w⟩
  · refine og_X (fp := f_PR_expand a1) (E := xIO) (k := 1) h ?_ (if_pos rfl) (by decide) (fun J sm => ?_)
    · unfold f_PR_expand
      rw [h1]
      by_cases q : a1 < 0
      · rw [if_pos q]
      · rw [if_neg q, if_neg (by omega)]
    · unfold f_M_expand
      try dsimp only [ltI]
      rw [m_noRule0 (sI_self _ _ _ _ _) h1 hr, bnd_some, if_neg (by decide)]
      exact t_outG sm rfl
theorem WF.app (w : WF g) (hl : (gT g).length < 400) {a : Int} (ha : 0 ≤ a ∧ a < 26) : WF (gAppend g a) := by
  obtain ⟨a1, a2, a3, a4, a5, a6⟩ := w
  have hR : ∀ i : Nat, gR (gAppend g a) i = if i = 0 then gR g 0 ++ [a] else gR g i := fun i => by
    show up (gR g) 0 (gR g 0 ++ [a]) i = _
    by_cases q : i = 0
    · rw [if_pos q, q, up_self]
    · rw [if_neg q, up_ne q]
  have hs : ∀ x : Int, SYr (gR g) x → SYr (gR (gAppend g a)) x := fun x hx => ⟨hx.1, hx.2.1, fun h26 => by rw [hR, if_neg (by omega)]; exact hx.2.2 h26⟩
  refine ⟨fun i hi x hx => ?_, fun r hr hn => ?_, ?_, ?_, ?_, a6⟩
  · rw [hR] at hx
    by_cases q : i = 0
    · rw [if_pos q] at hx
      rcases List.mem_append.mp hx with z | z
      · exact hs x (a1 0 (by decide) x z)
      · rw [List.mem_singleton.mp z]
        exact ⟨ha.1, by omega, fun h26 => by omega⟩
    · rw [if_neg q] at hx
      exact hs x (a1 i hi x hx)
  · rw [hR, if_neg (by omega)] at hn ⊢
    exact a2 r hr hn
  · rw [hR, if_pos rfl]
    show ll (gL g) (gR g 0 ++ [a]) = ((gT g ++ [a]).length : Int)
    rw [ll_app, a3, ll_cons, ll_nil, List.length_append]
    unfold sl
    rw [if_pos ha.2]
    show _ = (((gT g).length + 1 : Nat) : Int)
    omega
  · show 1 ≤ (gT g ++ [a]).length
    rw [List.length_append]
    show 1 ≤ (gT g).length + 1
    omega
  · show (gT g ++ [a]).length ≤ 400
    rw [List.length_append]
    show (gT g).length + 1 ≤ 400
    omega
theorem og_31 (h : SI I s) (a1 : Int) (h1 : w32 a1 = a1) : OGW (f_L_append a1) (f_M_append a1) I := by
  obtain ⟨g, ps, kp, bs, rp⟩ := s
  have w : WF g := h.2.2.1
  have hb := w32_rng a1
  rw [h1] at hb
  have hT : ll (gL g) (gR g 0) = (gT g).length := w.2.2.1
  have hT4 : (gT g).length ≤ 400 := w.2.2.2.2.1
  by_cases hr : 0 ≤ a1 ∧ a1 < 26
  · by_cases hf : (gT g).length < 400
    · refine og_W (fp := f_PR_append a1) (s' := (gAppend g a1, pushP ps g, kp, bs, rp)) (u := w32 (((gT g).length : Int) + 1)) h (h.2.2.mut (w.app hf hr)) ?_ (fun J sm => m_endG ?_)
      · unfold f_PR_append
        rw [p_isLetter hb.1 hb.2, bI_pos hr, bnd_some, if_neg (by decide), g_textLength h.1.1 (fun i hi => w.sy hi), bnd_some, hT, w32_of (x := ((gT g).length : Int)) (by omega) (by omega), if_pos (by omega)]
        refine c_mut (R := fun x : Int ⊕ String => ∃ v : Int, x = .inl v ∧ w32 v = w32 (((gT g).length : Int) + 1)) h.1 (fun J g0 pt g1 => ?_)
        have l0 := (w.lle (i := 0) (by decide)).1
        refine tr_call (t_addLetter g0 (by omega) hf a1) ?_
        rintro _ K ⟨gc, f⟩
        have w2 := w.app hf hr
        rw [g_textLength gc (fun i hi => w2.sy hi), bnd_some, w2.2.2.1]
        refine tr_ret ⟨⟨_, rfl, ?_⟩, gc, g1_fm g1 f (fun k i s z q => by unfold FG at z q; omega), pt_g pt f, f.mono fo_g⟩
        show w32 ((gT g ++ [a1]).length : Int) = _
        rw [List.length_append]
        rfl
      · unfold f_M_append
        try dsimp only [ltI]
        rw [chk_in (sI_self _ _ _ _ _) (by rw [h1, w0, w32c 25 (by decide)]; omega)]
        have l0 := (w.lle (i := 0) (by decide)).1
        exact m_mutG (now := f_M_appendNow a1) sm (by rw [w32_of (by omega) (by omega)]; omega) (fun K gw => tr_mono (t_mappendNow gw (by omega) hf a1) (fun _ _ z => ⟨z.1, z.2.1, z.2.2.mono fn_w⟩))
    · refine og_W (fp := f_PR_append a1) (s' := (g, ps, kp, bs, rp)) (u := w32 (-5)) h h.2.2 ?_ (fun J sm => m_endG ?_)
      · unfold f_PR_append
        rw [p_isLetter hb.1 hb.2, bI_pos hr, bnd_some, if_neg (by decide), g_textLength h.1.1 (fun i hi => w.sy hi), bnd_some, hT, w32_of (x := ((gT g).length : Int)) (by omega) (by omega), if_neg (by omega)]
        exact tr_ret ⟨⟨_, rfl, rfl⟩, h.1, Fm.refl _ _⟩
      · unfold f_M_append
        try dsimp only [ltI]
        rw [chk_in (sI_self _ _ _ _ _) (by rw [h1, w0, w32c 25 (by decide)]; omega)]
        refine m_mutN (now := f_M_appendNow a1) sm (by decide) (fun K gw => ?_)
        have e3 : K 27 0 3 = ((gT g).length : Int) := gw.2.1
        unfold f_M_appendNow
        rw [e3, w32_of (x := ((gT g).length : Int)) (by omega) (by omega), if_pos (by omega)]
        exact tr_ret ⟨rfl, gw, Fm.refl _ _⟩
  · refine og_X (fp := f_PR_append a1) (E := xIA) (k := 1) h ?_ (if_pos rfl) (by decide) (fun J sm => ?_)
    · unfold f_PR_append
      rw [p_isLetter hb.1 hb.2, bI_neg hr, bnd_some, if_pos (by decide)]
    · unfold f_M_append
      exact t_outG sm (chk_out (sI_self _ _ _ _ _) (Or.inl rfl) (by rw [h1, w0, w32c 25 (by decide)]; omega))
theorem og_32 (h : SI I s) (a1 : Int) (h1 : w32 a1 = a1) : OGW (f_L_cut a1) (f_M_cut a1) I := by
  obtain ⟨g, ps, kp, bs, rp⟩ := s
  have w : WF g := h.2.2.1
  have hT : ll (gL g) (gR g 0) = (gT g).length := w.2.2.1
  have hT4 : (gT g).length ≤ 400 := w.2.2.2.2.1
  by_cases hr : 1 ≤ a1 ∧ a1 < 401
  · obtain ⟨m, rfl, hm⟩ : ∃ m : Nat, a1 = (m : Int) ∧ m < 401 := ⟨a1.toNat, by omega, by omega⟩
    by_cases hf : m < (gT g).length
    · have w2 := w.cut hf
      have l2 := w2.len400 0 (by decide)
      refine og_W (fp := f_PR_cut (m : Int)) (s' := (gCut g m, pushP ps g, kp, bs, rp)) (u := w32 ((gR (gCut g m) 0).length : Int)) h (h.2.2.mut w2) ?_ (fun J sm => m_endG ?_)
      · unfold f_PR_cut
        rw [h1, if_neg (by omega), if_neg (by omega), g_textLength h.1.1 (fun i hi => w.sy hi), bnd_some, hT, w32_of (x := ((gT g).length : Int)) (by omega) (by omega), if_pos (by omega)]
        refine c_mut (R := fun x : Int ⊕ String => ∃ v : Int, x = .inl v ∧ w32 v = w32 ((gR (gCut g m) 0).length : Int)) h.1 (fun J g0 pt g1 => ?_)
        refine tr_call (t_dropLetters g0 w (by omega) hf) ?_
        rintro _ K ⟨gc, f⟩
        have e1 : K 2 (43 * 0) 1 = ((gR (gCut g m) 0).length : Int) := (gc.2.1 0 (by decide)).2.1
        exact tr_ret ⟨⟨_, rfl, by rw [e1]⟩, gc, g1_fm g1 f (fun k i s z q => by unfold FG at z q; omega), pt_g pt f, f.mono fo_g⟩
      · unfold f_M_cut
        try dsimp only [ltI]
        rw [chk_in (sI_self _ _ _ _ _) (by rw [h1, w32c 1 (by decide), w32c 400 (by decide)]; omega)]
        exact m_mutG (now := f_M_cutNow (m : Int)) sm (by rw [w32_of (by omega) (by omega)]; omega) (fun K gw => tr_mono (t_mcutNow gw w (by omega) hf) (fun _ _ z => ⟨z.1, z.2.1, z.2.2.mono fn_ms⟩))
    · refine og_W (fp := f_PR_cut (m : Int)) (s' := (g, ps, kp, bs, rp)) (u := w32 (-6)) h h.2.2 ?_ (fun J sm => m_endG ?_)
      · unfold f_PR_cut
        rw [h1, if_neg (by omega), if_neg (by omega), g_textLength h.1.1 (fun i hi => w.sy hi), bnd_some, hT, w32_of (x := ((gT g).length : Int)) (by omega) (by omega), if_neg (by omega)]
        exact tr_ret ⟨⟨_, rfl, rfl⟩, h.1, Fm.refl _ _⟩
      · unfold f_M_cut
        try dsimp only [ltI]
        rw [chk_in (sI_self _ _ _ _ _) (by rw [h1, w32c 1 (by decide), w32c 400 (by decide)]; omega)]
        refine m_mutN (now := f_M_cutNow (m : Int)) sm (by decide) (fun K gw => ?_)
        have e3 : K 27 0 3 = ((gT g).length : Int) := gw.2.1
        unfold f_M_cutNow
        rw [e3, h1, w32_of (x := ((gT g).length : Int)) (by omega) (by omega), if_neg (by omega)]
        exact tr_ret ⟨rfl, gw, Fm.refl _ _⟩
  · refine og_X (fp := f_PR_cut a1) (E := xIA) (k := 1) h ?_ (if_pos rfl) (by decide) (fun J sm => ?_)
    · unfold f_PR_cut
      rw [h1]
      by_cases q : a1 < 1
      · rw [if_pos q]
      · rw [if_neg q, if_pos (by omega)]
    · unfold f_M_cut
      exact t_outG sm (chk_out (sI_self _ _ _ _ _) (Or.inl rfl) (by rw [h1, w32c 1 (by decide), w32c 400 (by decide)]; omega))
theorem WF_gN (w : WF g) {j : Nat} {v : Int} (h : (j = 0 → 2 ≤ v ∧ v ≤ 9) ∧ (j = 1 → 0 ≤ v ∧ v ≤ 2) ∧ (j = 2 → 0 ≤ v ∧ v ≤ 1)) : WF (gsN g j v) := by
  obtain ⟨a1, a2, a3, a4, a5, a6, a7, a8⟩ := w
  refine ⟨a1, a2, a3, a4, a5, ?_, ?_, ?_⟩
  · show 2 ≤ up (gN g) j v 0 ∧ up (gN g) j v 0 ≤ 9
    by_cases q : j = 0
    · subst q; rw [up_self]; exact h.1 rfl
    · rw [up_ne (by omega)]; exact a6
  · show 0 ≤ up (gN g) j v 1 ∧ up (gN g) j v 1 ≤ 2
    by_cases q : j = 1
    · subst q; rw [up_self]; exact h.2.1 rfl
    · rw [up_ne (by omega)]; exact a7
  · show 0 ≤ up (gN g) j v 2 ∧ up (gN g) j v 2 ≤ 1
    by_cases q : j = 2
    · subst q; rw [up_self]; exact h.2.2 rfl
    · rw [up_ne (by omega)]; exact a8
theorem gN_rng (w : WF g) {j : Nat} (hj : j < 3) : 0 ≤ gN g j ∧ gN g j ≤ 9 := by
  obtain ⟨a1, a2, a3, a4, a5, a6, a7, a8⟩ := w
  rcases (show j = 0 ∨ j = 1 ∨ j = 2 by omega) with rfl | rfl | rfl <;> omega
theorem setG (h : SI I (g, ps, kp, bs, rp)) {j : Nat} (hj : j < 3) {lo hi a2 : Int} (h2 : w32 a2 = a2) (hlh : 0 ≤ lo ∧ hi < 100 ∧ lo ≤ hi)
    (hl : ∀ I : Mem, f_PR_lowest (4 + (j : Int)) I = some (lo, I)) (hh : ∀ I : Mem, f_PR_highest (4 + (j : Int)) I = some (hi, I))
    (ml : ∀ I : Mem, f_M_leastOf (j : Int) I = some (lo, I)) (mh : ∀ I : Mem, f_M_mostOf (j : Int) I = some (hi, I)) (hw : lo ≤ a2 ∧ a2 ≤ hi → WF (gsN g j a2)) : OGW (f_L_set (4 + (j : Int)) a2) (f_M_set (4 + (j : Int)) a2) I := by
  have w : WF g := h.2.2.1
  have nr := gN_rng w hj
  have w1 : w32 (4 + (j : Int)) = 4 + (j : Int) := w32_of (by omega) (by omega)
  have wl : w32 lo = lo := w32_of (by omega) (by omega)
  have wh : w32 hi = hi := w32_of (by omega) (by omega)
  have e4 : 4 + (j : Int) - 4 = (j : Int) := by omega
  by_cases hr : lo ≤ a2 ∧ a2 ≤ hi
  · refine og_W (fp := f_PR_set (4 + (j : Int)) a2) (s' := (gsN g j a2, pushP ps g, kp, bs, rp)) (u := w32 (gN g j)) h (h.2.2.mut (hw hr)) ?_ (fun J sm => m_endG ?_)
    · unfold f_PR_set
      rw [w1, if_neg (by omega), if_neg (by omega), hl, bnd_some, h2, wl, if_neg (by omega), hh, bnd_some, wh, if_neg (by omega)]
      refine c_mut (R := fun x : Int ⊕ String => ∃ v : Int, x = .inl v ∧ w32 v = w32 (gN g j)) h.1 (fun J g0 pt g1 => ?_)
      rw [g_number g0 hj, bnd_some]
      refine tr_call (t_putNumber g0 hj a2) ?_
      rintro _ K ⟨gc, f⟩
      exact tr_ret ⟨⟨_, rfl, rfl⟩, gc, g1_fm g1 f (fun k i s z q => by unfold FG at z q; omega), pt_g pt f, f.mono fo_g⟩
    · unfold f_M_set
      try dsimp only [ltI]
      rw [m_in1 (by rw [w1, w32c 4 (by decide), w32c 6 (by decide)]; omega), bnd_some, if_neg (by decide), e4, ml, bnd_some, mh, bnd_some, m_in1 (by rw [h2, wl, wh]; exact hr), bnd_some, if_neg (by decide)]
      unfold f_M_set_j40
      rw [m_fz (sI_self _ _ _ _ _), bnd_some, if_pos (by decide), e4]
      exact m_mutG (now := f_M_setNow (j : Int) a2) sm (by rw [w32_of (by omega) (by omega)]; omega) (fun K gw => tr_mono (t_msetNow gw hj a2) (fun _ _ z => ⟨z.1, z.2.1, z.2.2.mono fn_w⟩))
  · refine og_X (fp := f_PR_set (4 + (j : Int)) a2) (E := xIA) (k := 1) h ?_ (if_pos rfl) (by decide) (fun J sm => ?_)
    · unfold f_PR_set
      rw [w1, if_neg (by omega), if_neg (by omega), hl, bnd_some, h2, wl]
      by_cases q : a2 < lo
      · rw [if_pos q]
      · rw [if_neg q, hh, bnd_some, wh, if_pos (by omega)]
    · unfold f_M_set
      try dsimp only [ltI]
      rw [m_in1 (by rw [w1, w32c 4 (by decide), w32c 6 (by decide)]; omega), bnd_some, if_neg (by decide), e4, ml, bnd_some, mh, bnd_some, m_in0 (by rw [h2, wl, wh]; omega), bnd_some, if_pos (by decide), m_setx (sI_self _ _ _ _ _)]
      exact t_outG sm rfl
theorem og_33 (h : SI I s) (a1 a2 : Int) (h1 : w32 a1 = a1) (h2 : w32 a2 = a2) : OGW (f_L_set a1 a2) (f_M_set a1 a2) I := by
  obtain ⟨g, ps, kp, bs, rp⟩ := s
  have w : WF g := h.2.2.1
  rcases (show a1 = 4 + ((0 : Nat) : Int) ∨ a1 = 4 + ((1 : Nat) : Int) ∨ a1 = 4 + ((2 : Nat) : Int) ∨ ¬ (4 ≤ a1 ∧ a1 ≤ 6) by omega) with rfl | rfl | rfl | hr
  · exact setG h (by decide) h2 (by decide) lo_0 hi_0 ml_0 mh_0 (fun z => WF_gN w ⟨fun _ => by omega, fun q => by omega, fun q => by omega⟩)
  · exact setG h (by decide) h2 (by decide) lo_1 hi_1 ml_1 mh_1 (fun z => WF_gN w ⟨fun q => by omega, fun _ => by omega, fun q => by omega⟩)
  · exact setG h (by decide) h2 (by decide) lo_2 hi_2 ml_2 mh_2 (fun z => WF_gN w ⟨fun q => by omega, fun q => by omega, fun _ => by omega⟩)
  · refine og_X (fp := f_PR_set a1 a2) (E := xIA) (k := 1) h ?_ (if_pos rfl) (by decide) (fun J sm => ?_)
    · unfold f_PR_set
      rw [h1]
      by_cases q : a1 < 4
      · rw [if_pos q]
      · rw [if_neg q, if_pos (by omega)]
    · unfold f_M_set
      try dsimp only [ltI]
      rw [m_in0 (by rw [h1, w32c 4 (by decide), w32c 6 (by decide)]; omega), bnd_some, if_pos (by decide), m_setx (sI_self _ _ _ _ _)]
      exact t_outG sm rfl
theorem GB.copy {k b : Nat} (hc : ∀ s : Nat, s < 16860 → J 27 0 (0 + s) = I 27 k (b + s)) (h : GB I k b g) : GW J g := GWf.congr h (fun s hs => by
  have := hc s hs
  rw [Nat.zero_add] at this
  exact this)
theorem og_36 (h : SI I s) : OGW (f_L_undo) (f_M_undo) I := by
  obtain ⟨g, ps, kp, bs, rp⟩ := s
  by_cases he : ps = []
  · subst he
    refine og_X (fp := f_PR_undo) (E := xNS) (k := 1) h ?_ (if_pos rfl) (by decide) (fun J sm => ?_)
    · have e4 : I 9 0 4 = 0 := h.1.2.2.2.1.2.1
      unfold f_PR_undo
      rw [e4, if_pos (by decide)]
    · have e6 : (sI J 26 0 7 0) 26 0 6 = 0 := by rw [sI_ne (by decide)]; exact sm.2.1.2.1
      unfold f_M_undo
      try dsimp only [ltI]
      rw [e6, if_pos (by decide), m_f1 (sI_self _ _ _ _ _) (Or.inl rfl), bnd_some, if_neg (by decide)]
      exact t_outG sm rfl
  · have hp : 0 < ps.length := List.length_pos_iff.mpr he
    have h8 : ps.length ≤ 8 := h.1.2.2.2.1.1
    have hlen : (ps.take (ps.length - 1)).length = ps.length - 1 := by rw [List.length_take]; omega
    have wl : WF (ps.getD (ps.length - 1) g0) := h.2.2.2.1 _ (gd_mem (show ps.length - 1 < ps.length by omega))
    refine og_W (fp := f_PR_undo) (s' := (ps.getD (ps.length - 1) g0, ps.take (ps.length - 1), kp, bs, rp)) (u := w32 ((ps.length : Int) - 1)) h ⟨wl, fun x hx => h.2.2.2.1 x (List.mem_of_mem_take hx), h.2.2.2.2⟩ ?_ (fun J sm => m_endG ?_)
    · have e4 : I 9 0 4 = (ps.length : Int) := h.1.2.2.2.1.2.1
      unfold f_PR_undo
      rw [e4, w32_of (x := (ps.length : Int)) (by omega) (by omega), if_neg (by omega)]
      obtain ⟨a1, a2, a3, a4, a5, a6, a7⟩ := h.1
      refine tr_call (t_hback ⟨g, a1⟩ a4 he) ?_
      rintro _ K ⟨gc, hc, f⟩
      have ek : K 9 0 4 = (ps.length : Int) - 1 := by have := hc.2.1; rw [hlen] at this; omega
      rw [ek]
      refine tr_ret ⟨⟨_, rfl, rfl⟩, ⟨gc, a2.go f (fun t => t = 0) (fun t _ z => by subst z; exact ⟨_, gc⟩) (fun t _ z k i s q q2 => by unfold FG at q q2; omega), a3.fm f (fun i s => ⟨fun z => by unfold FG at z; omega, fun z => by unfold FG at z; omega⟩), hc, a5.fm f (fun s z => by unfold FG at z; omega) (fun t _ _ k i s q q2 => by unfold FG at q q2; omega), a6.fm f (fun z => by unfold FG at z; omega) (fun s z => by unfold FG at z; omega), a7.fm f (fun s z => by unfold FG at z; omega) (fun s z => by unfold FG at z; omega)⟩, f.mono (fun a b c z => by unfold FG at z; unfold FCl; omega)⟩
    · have s0 := sm.t7 (v := 0)
      unfold f_M_undo
      try dsimp only [ltI]
      have e7 : (sI J 26 0 7 0) 26 0 7 = 0 := sI_self _ _ _ _ _
      generalize sI J 26 0 7 0 = J0 at s0 e7
      have e6 : J0 26 0 6 = (ps.length : Int) := s0.2.1.2.1
      rw [e6, w32_of (x := (ps.length : Int)) (by omega) (by omega), if_neg (by omega), m_fz e7, bnd_some, if_pos (by decide), e6, sI_self]
      have f1 : Fm (fun k _ s => k = 26 ∧ s = 6) J0 (sI J0 26 0 6 ((ps.length : Int) - 1)) := Fm.sI (by decide) (by omega) (by omega) ⟨rfl, rfl⟩
      have e6' : (sI J0 26 0 6 ((ps.length : Int) - 1)) 26 0 6 = (ps.length : Int) - 1 := sI_self _ _ _ _ _
      generalize sI J0 26 0 6 ((ps.length : Int) - 1) = J1 at f1 e6'
      rw [show (16860 : Int) * ((ps.length : Int) - 1) = ((16860 * (ps.length - 1) : Nat) : Int) by omega]
      refine tr_call (t_mlays (k := 3) (b := 16860 * (ps.length - 1)) (k' := 0) (b' := 0) (I := J1) (by decide) (by decide) (by show 16860 * (ps.length - 1) + 16860 ≤ 134880; omega) (by decide) (by decide) (by decide) (by decide)) ?_
      rintro _ K ⟨hc, f2⟩
      have f12 : Fm (fun k i s => (k = 26 ∧ s = 6) ∨ (k = 27 ∧ i = 0)) J0 K := (f1.mono (fun a b c z => Or.inl z)).trans (f2.mono (fun a b c z => Or.inr ⟨z.1, z.2.1⟩))
      have gl : GB J1 3 (16860 * (ps.length - 1)) (ps.getD (ps.length - 1) g0) := (s0.2.1.2.2 (ps.length - 1) (show ps.length - 1 < ps.length by omega)).fm f1 (fun s _ _ z => absurd z.1 (by decide))
      have ek : K 26 0 6 = (ps.length : Int) - 1 := (f2.at (by decide) (by omega)).trans e6'
      rw [ek]
      refine tr_ret ⟨rfl, ⟨GB.copy hc gl, ⟨show (ps.take (ps.length - 1)).length ≤ 8 by omega, show K 26 0 6 = ((ps.take (ps.length - 1)).length : Int) by rw [ek, hlen]; omega, fun k hk => ?_⟩, s0.2.2.1.fm f12 (fun s z => by omega) (fun s z => by omega), s0.2.2.2.1.fm f12 (fun z => by omega) (fun s z => by omega), s0.2.2.2.2.fm f12 (fun z => by omega) (fun s z => by omega)⟩, f12.mono (fun a b c z => by unfold FMq; omega)⟩
      have hk : k < ps.length - 1 := by rw [← hlen]; exact hk
      show GB K 3 (16860 * k) ((ps.take (ps.length - 1)).getD k g0)
      rw [gd_take hk]
      exact (s0.2.1.2.2 k (show k < ps.length by omega)).fm f12 (fun s _ _ z => by omega)
end MUTS2
