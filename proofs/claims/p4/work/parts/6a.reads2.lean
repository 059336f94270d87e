/-! ===== every call that reads, second part ===== -/
section READS2
variable {I J : Mem} {g g' : GS} {ps : List GS} {kp : Nat → Option GS} {bs rp : List Int} {s : SS}
theorem og_6 (h : SI I s) (a1 a2 : Int) (h1 : w32 a1 = a1) (h2 : w32 a2 = a2) : OGW (f_L_rule a1 a2) (f_M_rule a1 a2) I := by
  obtain ⟨g, ps, kp, bs, rp⟩ := s
  have w : WF g := h.2.2.1
  have gc : GC I 0 g := h.1.1
  have hb := w32_rng a1
  rw [h1] at hb
  by_cases hr : 0 ≤ a1 ∧ a1 < 40 ∧ gR g (a1.toNat + 1) ≠ []
  · obtain ⟨j, rfl, hj⟩ : ∃ j : Nat, a1 = (j : Int) ∧ j < 40 := ⟨a1.toNat, by omega, by omega⟩
    have hn : gR g (j + 1) ≠ [] := by have := hr.2.2; rwa [Int.toNat_natCast] at this
    have eh : f_G_hasRule 0 (j : Int) I = some (1, I) := by rw [g_hasRule gc hj, bI_pos hn]
    have w26 : w32 (26 + (j : Int)) = ((26 + j : Nat) : Int) := by rw [w32_of (by omega) (by omega)]; omega
    by_cases h4 : 0 ≤ a2 ∧ a2 < 5
    · have mdl : ∀ {u : Int} {K : Mem → Option (Int × Mem)} (J : Mem), SM J (g, ps, kp, bs, rp) → (∀ L : Mem, LN L g → GW L g → Tr (K L) (fun x L' => w32 x = u ∧ GW L' g ∧ Fm FMn L L')) → Tr (bnd (f_M_laysLengths (sI J 26 0 7 0)) fun _ J12 => K J12) (fun x K => w32 x = u ∧ SM K (g, ps, kp, bs, rp) ∧ Fm FMq (sI J 26 0 7 0) K) := by
        intro u K J sm hk
        have s0 := sm.t7 (v := 0)
        refine tr_call (t_laysLengths s0.1 w) ?_
        rintro _ L ⟨ln, gw, f⟩
        refine tr_mono (hk L ln gw) ?_
        rintro x L' ⟨e, gw2, f2⟩
        exact ⟨e, s0.rdq ((f.mono fn_l).trans f2) gw2⟩
      have s7 := fun J : Mem => sI_self J 26 0 7 0
      have hd : ∀ J : Mem, SM J (g, ps, kp, bs, rp) → f_M_noSuchRule (j : Int) (sI J 26 0 7 0) = some (0, sI J 26 0 7 0) := fun J sm => m_here (s7 J) (sm.t7 (v := 0)).1 hj hn
      rcases (show a2 = 0 ∨ a2 = 1 ∨ a2 = 2 ∨ a2 = 3 ∨ a2 = 4 by omega) with rfl | rfl | rfl | rfl | rfl
      · refine og_W (fp := f_PR_rule (j : Int) 0) (s' := (g, ps, kp, bs, rp)) (u := w32 ((gR g (j + 1)).length : Int)) h h.2.2 ?_ (fun J sm => m_endG ?_)
        · unfold f_PR_rule
          rw [eh, bnd_some, if_neg (by decide), if_pos (by decide), g_body (by decide) hj, bnd_some, if_pos (rix_lt (by decide) (by omega)), (gc.2.1 (j + 1) (by omega)).2.1]
          exact tr_ret ⟨⟨_, rfl, rfl⟩, h.1, Fm.refl _ _⟩
        · unfold f_M_rule
          try dsimp only [ltI]
          rw [hd J sm, bnd_some, if_pos (by decide), chk_in (s7 J) (by decide)]
          refine mdl J sm (fun L ln gw => ?_)
          rw [if_pos (by decide), show (j : Int) + 1 = ((j + 1 : Nat) : Int) from rfl, m_many gw (by omega), bnd_some]
          exact tr_ret ⟨rfl, gw, Fm.refl _ _⟩
      · refine og_W (fp := f_PR_rule (j : Int) 1) (s' := (g, ps, kp, bs, rp)) (u := w32 (gUses g j)) h h.2.2 ?_ (fun J sm => m_endG ?_)
        · unfold f_PR_rule
          rw [eh, bnd_some, if_neg (by decide), if_neg (by decide), if_pos (by decide), g_usesOf gc (fun i hi => w.sy hi) hj, bnd_some]
          exact tr_ret ⟨⟨_, rfl, rfl⟩, h.1, Fm.refl _ _⟩
        · unfold f_M_rule
          try dsimp only [ltI]
          rw [hd J sm, bnd_some, if_pos (by decide), chk_in (s7 J) (by decide)]
          refine mdl J sm (fun L ln gw => ?_)
          rw [if_neg (by decide), if_pos (by decide), m_usesOf gw (fun i hi => w.sy hi) hj, bnd_some]
          exact tr_ret ⟨rfl, gw, Fm.refl _ _⟩
      · refine og_W (fp := f_PR_rule (j : Int) 2) (s' := (g, ps, kp, bs, rp)) (u := w32 (gL g j)) h h.2.2 ?_ (fun J sm => m_endG ?_)
        · unfold f_PR_rule
          rw [eh, bnd_some, if_neg (by decide), if_neg (by decide), if_neg (by decide), if_pos (by decide), g_lenR gc hj, bnd_some]
          exact tr_ret ⟨⟨_, rfl, rfl⟩, h.1, Fm.refl _ _⟩
        · unfold f_M_rule
          try dsimp only [ltI]
          rw [hd J sm, bnd_some, if_pos (by decide), chk_in (s7 J) (by decide)]
          refine mdl J sm (fun L ln gw => ?_)
          rw [if_neg (by decide), if_neg (by decide), if_pos (by decide), w26, if_pos (by omega), Int.toNat_natCast, (ln.2 j hj hn).1]
          exact tr_ret ⟨rfl, gw, Fm.refl _ _⟩
      · refine og_W (fp := f_PR_rule (j : Int) 3) (s' := (g, ps, kp, bs, rp)) (u := w32 (dp g (26 + (j : Int)))) h h.2.2 ?_ (fun J sm => m_endG ?_)
        · unfold f_PR_rule
          rw [eh, bnd_some, if_neg (by decide), if_neg (by decide), if_neg (by decide), if_neg (by decide), if_pos (by decide)]
          refine tr_call (t_measure gc w) ?_
          rintro _ K ⟨hm, f⟩
          have ed : f_Sv_depthOf (26 + (j : Int)) K = some (dp g (26 + (j : Int)), K) := by
            unfold f_Sv_depthOf
            rw [w26, if_neg (by omega), if_pos (by omega), show 26 + (j : Int) - 26 = (j : Int) by omega, w32_of (x := (j : Int)) (by omega) (by omega), if_pos (by omega), Int.toNat_natCast, (hm j hj hn).1]
          rw [ed, bnd_some]
          exact tr_ret ⟨⟨_, rfl, rfl⟩, h.1.sv f⟩
        · unfold f_M_rule
          try dsimp only [ltI]
          rw [hd J sm, bnd_some, if_pos (by decide), chk_in (s7 J) (by decide)]
          refine mdl J sm (fun L ln gw => ?_)
          rw [if_neg (by decide), if_neg (by decide), if_neg (by decide), if_pos (by decide), w26, if_pos (by omega), Int.toNat_natCast, (ln.2 j hj hn).2]
          exact tr_ret ⟨rfl, gw, Fm.refl _ _⟩
      · refine og_W (fp := f_PR_rule (j : Int) 4) (s' := (g, ps, kp, bs, rp)) (u := w32 (cm g j)) h h.2.2 ?_ (fun J sm => m_endG ?_)
        · unfold f_PR_rule
          rw [eh, bnd_some, if_neg (by decide), if_neg (by decide), if_neg (by decide), if_neg (by decide), if_neg (by decide), if_pos (by decide)]
          refine tr_call (t_measure gc w) ?_
          rintro _ K ⟨hm, f⟩
          have ed : f_Sv_comingsOf (j : Int) K = some (cm g j, K) := by
            unfold f_Sv_comingsOf
            rw [w32_of (x := (j : Int)) (by omega) (by omega), if_neg (by omega), if_pos (by omega), if_pos (by omega), Int.toNat_natCast, (hm j hj hn).2]
          rw [ed, bnd_some]
          exact tr_ret ⟨⟨_, rfl, rfl⟩, h.1.sv f⟩
        · unfold f_M_rule
          try dsimp only [ltI]
          rw [hd J sm, bnd_some, if_pos (by decide), chk_in (s7 J) (by decide)]
          refine mdl J sm (fun L ln gw => ?_)
          rw [if_neg (by decide), if_neg (by decide), if_neg (by decide), if_neg (by decide)]
          refine tr_call (t_comesOf gw w hj hn) ?_
          rintro x L' ⟨rfl, gw2, f⟩
          exact tr_ret ⟨rfl, gw2, f.mono (fun a b c z => z.elim (fn_l a b c) (fun q => by unfold FCM at q; unfold FMn; omega))⟩
    · refine og_X (fp := f_PR_rule (j : Int) a2) (E := xIA) (k := 2) h ?_ ?_ (by decide) (fun J sm => ?_)
      · unfold f_PR_rule
        rw [eh, bnd_some, if_neg (by decide), h2, if_neg (by omega), if_neg (by omega), if_neg (by omega), if_neg (by omega), if_neg (by omega)]
      · show (if xIA = xIO then _ else if xIA = xIA then _ else _) = _
        rw [if_neg (by decide), if_pos rfl]
      · unfold f_M_rule
        try dsimp only [ltI]
        rw [m_here (sI_self _ _ _ _ _) (sm.t7 (v := 0)).1 hj hn, bnd_some, if_pos (by decide)]
        exact t_outG sm (chk_out (sI_self _ _ _ _ _) (Or.inr rfl) (by rw [h2, w0, w32c 4 (by decide)]; omega))
  · refine og_X (fp := f_PR_rule a1 a2) (E := xIO) (k := 1) h ?_ (if_pos rfl) (by decide) (fun J sm => ?_)
    · unfold f_PR_rule
      rw [g_hasRuleI gc hb.1 hb.2, bI_neg hr, bnd_some, if_pos (by decide)]
    · unfold f_M_rule
      try dsimp only [ltI]
      rw [m_notHere (sI_self _ _ _ _ _) (sm.t7 (v := 0)).1 h1 hr, bnd_some, if_neg (by decide)]
      exact t_outG sm rfl
theorem sy_ne {l : List Int} (hs : SY l) {j : Nat} (hj : j < l.length) : ¬ w32 (l.getD j (-1)) = -1 := by
  have := hs.at hj
  rw [w32_of (by omega) (by omega)]
  omega
theorem og_8 (h : SI I s) (a1 : Int) (h1 : w32 a1 = a1) : OGW (f_L_startAt a1) (f_M_startAt a1) I := by
  obtain ⟨g, ps, kp, bs, rp⟩ := s
  have w : WF g := h.2.2.1
  have hb := w32_rng a1
  rw [h1] at hb
  have hrow : f_Row_at (43 * 0) a1 I = some (if a1 < 0 then -1 else (gR g 0).getD a1.toNat (-1), I) := row_atI (h.1.1.2.1 0 (by decide)) hb.1 hb.2
  have l4 := w.len400 0 (by decide)
  have wl : w32 (((gR g 0).length : Int) - 1) = ((gR g 0).length : Int) - 1 := w32_of (by omega) (by omega)
  by_cases hr : 0 ≤ a1 ∧ a1 < (gR g 0).length
  · obtain ⟨j, rfl, hj⟩ : ∃ j : Nat, a1 = (j : Int) ∧ j < (gR g 0).length := ⟨a1.toNat, by omega, by omega⟩
    refine og_W (fp := f_PR_startAt (j : Int)) (s' := (g, ps, kp, bs, rp)) (u := w32 ((gR g 0).getD j (-1))) h h.2.2 ?_ (fun J sm => m_endG ?_)
    · unfold f_PR_startAt
      rw [hrow, bnd_some, if_neg (by omega : ¬ (j : Int) < 0), Int.toNat_natCast, if_neg (sy_ne (w.sy (by decide)) hj)]
      exact tr_ret ⟨⟨_, rfl, rfl⟩, h.1, Fm.refl _ _⟩
    · have s0 := sm.t7 (v := 0)
      unfold f_M_startAt
      try dsimp only [ltI]
      rw [show f_M_many 0 (sI J 26 0 7 0) = _ from m_many s0.1 (i := 0) (by decide), bnd_some, chk_in (sI_self _ _ _ _ _) (by rw [h1, w0]; show 0 ≤ (j : Int) ∧ (j : Int) ≤ w32 (((gR g 0).length : Int) - 1); rw [wl]; omega), show f_M_at 0 (j : Int) (sI J 26 0 7 0) = _ from m_at s0.1 (i := 0) (by decide) hj, bnd_some]
      exact tr_ret ⟨rfl, s0, Fm.refl _ _⟩
  · refine og_X (fp := f_PR_startAt a1) (E := xIO) (k := 1) h ?_ (if_pos rfl) (by decide) (fun J sm => ?_)
    · unfold f_PR_startAt
      rw [hrow, bnd_some]
      have e : (if a1 < 0 then (-1 : Int) else (gR g 0).getD a1.toNat (-1)) = -1 := by
        by_cases q : a1 < 0
        · rw [if_pos q]
        · rw [if_neg q]
          exact getD_out (by omega)
      rw [e, if_pos (by decide)]
    · have s0 := sm.t7 (v := 0)
      unfold f_M_startAt
      try dsimp only [ltI]
      rw [show f_M_many 0 (sI J 26 0 7 0) = _ from m_many s0.1 (i := 0) (by decide), bnd_some]
      exact t_outG sm (chk_out (sI_self _ _ _ _ _) (Or.inl rfl) (by rw [h1, w0]; show a1 < 0 ∨ w32 (((gR g 0).length : Int) - 1) < a1; rw [wl]; omega))
theorem og_7 (h : SI I s) (a1 a2 : Int) (h1 : w32 a1 = a1) (h2 : w32 a2 = a2) : OGW (f_L_bodyAt a1 a2) (f_M_bodyAt a1 a2) I := by
  obtain ⟨g, ps, kp, bs, rp⟩ := s
  have w : WF g := h.2.2.1
  have gc : GC I 0 g := h.1.1
  have hb := w32_rng a1
  rw [h1] at hb
  have hb2 := w32_rng a2
  rw [h2] at hb2
  have hrw : ∀ l : List Int, RW I (if 0 ≤ a1 ∧ a1 < 40 then rix 0 (a1.toNat + 1) else 43 * 0 + 2) l → (if a2 < 0 then (-1 : Int) else l.getD a2.toNat (-1)) = -1 → f_PR_bodyAt a1 a2 I = some (.inr xIO, thrw I) := fun l hl e => by
    unfold f_PR_bodyAt
    rw [g_bodyI (by decide) hb.1 hb.2, bnd_some, if_pos hl.1, row_atI hl hb2.1 hb2.2, bnd_some, e, if_pos (by decide)]
  by_cases hr : 0 ≤ a1 ∧ a1 < 40 ∧ gR g (a1.toNat + 1) ≠ []
  · obtain ⟨j, rfl, hj⟩ : ∃ j : Nat, a1 = (j : Int) ∧ j < 40 := ⟨a1.toNat, by omega, by omega⟩
    have hn : gR g (j + 1) ≠ [] := by have := hr.2.2; rwa [Int.toNat_natCast] at this
    have l4 := w.len400 (j + 1) (by omega)
    have wl : w32 (((gR g (j + 1)).length : Int) - 1) = ((gR g (j + 1)).length : Int) - 1 := w32_of (by omega) (by omega)
    by_cases hr2 : 0 ≤ a2 ∧ a2 < (gR g (j + 1)).length
    · obtain ⟨q, rfl, hq⟩ : ∃ q : Nat, a2 = (q : Int) ∧ q < (gR g (j + 1)).length := ⟨a2.toNat, by omega, by omega⟩
      refine og_W (fp := f_PR_bodyAt (j : Int) (q : Int)) (s' := (g, ps, kp, bs, rp)) (u := w32 ((gR g (j + 1)).getD q (-1))) h h.2.2 ?_ (fun J sm => m_endG ?_)
      · unfold f_PR_bodyAt
        rw [g_body (by decide) hj, bnd_some, if_pos (rix_lt (by decide) (by omega)), row_atI (gc.2.1 (j + 1) (by omega)) hb2.1 hb2.2, bnd_some, if_neg (by omega : ¬ (q : Int) < 0), Int.toNat_natCast, if_neg (sy_ne (w.sy (by omega)) hq)]
        exact tr_ret ⟨⟨_, rfl, rfl⟩, h.1, Fm.refl _ _⟩
      · have s0 := sm.t7 (v := 0)
        unfold f_M_bodyAt
        try dsimp only [ltI]
        rw [m_here (sI_self _ _ _ _ _) s0.1 hj hn, bnd_some, if_pos (by decide), show (j : Int) + 1 = ((j + 1 : Nat) : Int) from rfl, m_many s0.1 (by omega), bnd_some, chk_in (sI_self _ _ _ _ _) (by rw [h2, w0]; show 0 ≤ (q : Int) ∧ (q : Int) ≤ w32 (((gR g (j + 1)).length : Int) - 1); rw [wl]; omega), m_at s0.1 (by omega) hq, bnd_some]
        exact tr_ret ⟨rfl, s0, Fm.refl _ _⟩
    · refine og_X (fp := f_PR_bodyAt (j : Int) a2) (E := xIO) (k := 1) h (hrw (gR g (j + 1)) ?_ ?_) (if_pos rfl) (by decide) (fun J sm => ?_)
      · rw [if_pos (by omega), Int.toNat_natCast]
        exact gc.2.1 (j + 1) (by omega)
      · by_cases q : a2 < 0
        · rw [if_pos q]
        · rw [if_neg q]
          exact getD_out (by omega)
      · have s0 := sm.t7 (v := 0)
        unfold f_M_bodyAt
        try dsimp only [ltI]
        rw [m_here (sI_self _ _ _ _ _) s0.1 hj hn, bnd_some, if_pos (by decide), show (j : Int) + 1 = ((j + 1 : Nat) : Int) from rfl, m_many s0.1 (by omega), bnd_some]
        exact t_outG sm (chk_out (sI_self _ _ _ _ _) (Or.inl rfl) (by rw [h2, w0]; show a2 < 0 ∨ w32 (((gR g (j + 1)).length : Int) - 1) < a2; rw [wl]; omega))
  · have hl : ∃ l : List Int, l = [] ∧ RW I (if 0 ≤ a1 ∧ a1 < 40 then rix 0 (a1.toNat + 1) else 43 * 0 + 2) l := by
      by_cases q : 0 ≤ a1 ∧ a1 < 40
      · rw [if_pos q]
        exact ⟨_, Classical.byContradiction (fun z => hr ⟨q.1, q.2, z⟩), gc.2.1 (a1.toNat + 1) (by omega)⟩
      · rw [if_neg q]
        exact ⟨_, rfl, gc.2.2.2.1⟩
    obtain ⟨l, rfl, hl⟩ := hl
    refine og_X (fp := f_PR_bodyAt a1 a2) (E := xIO) (k := 1) h (hrw [] hl ?_) (if_pos rfl) (by decide) (fun J sm => ?_)
    · by_cases q : a2 < 0
      · rw [if_pos q]
      · rw [if_neg q]
        rfl
    · unfold f_M_bodyAt
      try dsimp only [ltI]
      rw [m_notHere (sI_self _ _ _ _ _) (sm.t7 (v := 0)).1 h1 hr, bnd_some, if_neg (by decide)]
      exact t_outG sm rfl
theorem og_12 (h : SI I s) (a1 : Int) (h1 : w32 a1 = a1) : OGW (f_L_account a1) (f_M_account a1) I := by
  obtain ⟨g, ps, kp, bs, rp⟩ := s
  by_cases hr : 0 ≤ a1 ∧ a1 < 9
  · obtain ⟨j, rfl, hj⟩ : ∃ j : Nat, a1 = (j : Int) ∧ j < 9 := ⟨a1.toNat, by omega, by omega⟩
    refine og_W (fp := f_PR_account (j : Int)) (s' := (g, ps, kp, bs, rp)) (u := w32 (gA g j)) h h.2.2 ?_ (fun J sm => m_endG ?_)
    · unfold f_PR_account
      rw [h1, if_neg (by omega), if_pos (by omega), g_accountOf h.1.1 hj, bnd_some]
      exact tr_ret ⟨⟨_, rfl, rfl⟩, h.1, Fm.refl _ _⟩
    · have s0 := sm.t7 (v := 0)
      unfold f_M_account
      try dsimp only [ltI]
      rw [chk_in (sI_self _ _ _ _ _) (by rw [h1, w0, w32c 8 (by decide)]; omega), w32c (6 + (j : Int)) (by omega), if_pos (by omega), show ((6 : Int) + (j : Int)).toNat = 6 + j by omega, s0.1.2.2.2.2.1 j hj]
      exact tr_ret ⟨rfl, s0, Fm.refl _ _⟩
  · refine og_X (fp := f_PR_account a1) (E := xIA) (k := 1) h ?_ (if_pos rfl) (by decide) (fun J sm => ?_)
    · unfold f_PR_account
      rw [h1]
      by_cases q : a1 < 0
      · rw [if_pos q]
      · rw [if_neg q, if_neg (by omega)]
    · unfold f_M_account
      exact t_outG sm (chk_out (sI_self _ _ _ _ _) (Or.inl rfl) (by rw [h1, w0, w32c 8 (by decide)]; omega))
theorem og_14 (h : SI I s) : OGI f_PR_rulesGap f_M_rulesGap I := by
  obtain ⟨g, ps, kp, bs, rp⟩ := s
  have gc : GC I 0 g := h.1.1
  refine og_I (s' := (g, ps, kp, bs, rp)) (u := w32 (((((gN g 3 + gA g 1) - gA g 2) - gA g 3) - gA g 4) - nRules g)) h h.2.2 ?_ (fun J sm => m_endI ?_)
  · unfold f_PR_rulesGap
    rw [show (1 : Int) = ((1 : Nat) : Int) from rfl, show (2 : Int) = ((2 : Nat) : Int) from rfl, show (3 : Int) = ((3 : Nat) : Int) from rfl, show (4 : Int) = ((4 : Nat) : Int) from rfl, g_accountOf gc (by decide), bnd_some, g_accountOf gc (by decide), bnd_some, g_accountOf gc (by decide), bnd_some, g_accountOf gc (by decide), bnd_some, g_manyRules gc, bnd_some, gc.2.2.2.2.2.2.2.2.2]
    exact tr_ret ⟨rfl, h.1, Fm.refl _ _⟩
  · have s0 := sm.t7 (v := 0)
    have gw : GW (sI J 26 0 7 0) g := s0.1
    unfold f_M_rulesGap
    try dsimp only [ltI]
    rw [m_rules gw, bnd_some, gw.2.2.2.2.2.2.2.2]
    rw [show (sI J 26 0 7 0) 27 0 7 = gA g 1 from gw.2.2.2.2.1 1 (by decide), show (sI J 26 0 7 0) 27 0 8 = gA g 2 from gw.2.2.2.2.1 2 (by decide), show (sI J 26 0 7 0) 27 0 9 = gA g 3 from gw.2.2.2.2.1 3 (by decide), show (sI J 26 0 7 0) 27 0 10 = gA g 4 from gw.2.2.2.2.1 4 (by decide)]
    exact tr_ret ⟨rfl, s0, Fm.refl _ _⟩
theorem og_11 (h : SI I s) (a1 : Int) (h1 : w32 a1 = a1) : OGW (f_L_letters a1) (f_M_letters a1) I := by
  obtain ⟨g, ps, kp, bs, rp⟩ := s
  have w : WF g := h.2.2.1
  have hb := w32_rng a1
  rw [h1] at hb
  by_cases hr : 0 ≤ a1 ∧ a1 < 26
  · refine og_W (fp := f_PR_letters a1) (s' := (g, ps, kp, bs, rp)) (u := w32 ((gTx g).count a1 : Int)) h h.2.2 ?_ (fun J sm => m_endG ?_)
    · unfold f_PR_letters
      rw [p_isLetter hb.1 hb.2, bI_pos hr, bnd_some, if_neg (by decide)]
      refine tr_call (t_unfold h.1.1 w) ?_
      rintro _ K ⟨tx, f⟩
      rw [s_times tx (LET_g w) hr, bnd_some]
      exact tr_ret ⟨⟨_, rfl, rfl⟩, h.1.sv f⟩
    · have s0 := sm.t7 (v := 0)
      unfold f_M_letters
      try dsimp only [ltI]
      rw [chk_in (sI_self _ _ _ _ _) (by rw [h1, w0, w32c 25 (by decide)]; omega)]
      refine tr_call (t_mlettersOf s0.1 w hr) ?_
      rintro x K ⟨rfl, gw, f⟩
      exact tr_ret ⟨rfl, s0.rdq (f.mono fn_u) gw⟩
  · refine og_X (fp := f_PR_letters a1) (E := xIA) (k := 1) h ?_ (if_pos rfl) (by decide) (fun J sm => ?_)
    · unfold f_PR_letters
      rw [p_isLetter hb.1 hb.2, bI_neg hr, bnd_some, if_pos (by decide)]
    · unfold f_M_letters
      exact t_outG sm (chk_out (sI_self _ _ _ _ _) (Or.inl rfl) (by rw [h1, w0, w32c 25 (by decide)]; omega))
end READS2
