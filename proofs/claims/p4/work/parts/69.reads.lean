/-! ===== every call that reads ===== -/
section READS
variable {I J : Mem} {g g' : GS} {ps : List GS} {kp : Nat → Option GS} {bs rp : List Int} {s : SS}
theorem fn_u : ∀ k i s : Nat, FUN k i s → FMn k i s := fun k i s z => by unfold FUN at z; unfold FMn; omega
theorem SM.rdq {K : Mem} (s0 : SM J s) (f : Fm FMn J K) (gw : GW K s.1) : SM K s ∧ Fm FMq J K := by
  obtain ⟨g, ps, kp, bs, rp⟩ := s
  exact ⟨s0.op (f.mono fn_p) gw, f.mono fn_q⟩
theorem SC.rd {F : FP} {K : Mem} (h : SC I (g, ps, kp, bs, rp)) (f : Fm F I K) (hF : ∀ k i s : Nat, F k i s → k = 3 ∨ k = 5 ∨ k = 17 ∨ k = 18) : SC K (g, ps, kp, bs, rp) ∧ Fm FCl I K := by
  have fo : Fm FOp I K := f.mono (fun a b c z => by have := hF a b c z; unfold FOp; omega)
  have n : ∀ t k i s : Nat, FG t k i s → ¬ F k i s := fun t k i s z q => by have := hF k i s q; unfold FG at z; omega
  exact ⟨h.op fo (h.1.fm f (n 0)) (g1_fm (h.2.1 1 (by decide)) f (n 1)) (h.2.2.1.fm f (fun i s => ⟨fun z => by have := hF 4 i s z; omega, fun z => by have := hF 16 i s z; omega⟩)), fo.mono fop_cl⟩
theorem SC.sv {K : Mem} (h : SC I (g, ps, kp, bs, rp)) (f : Fm FSV I K) : SC K (g, ps, kp, bs, rp) ∧ Fm FCl I K := h.rd f (fun k i s z => by unfold FSV at z; omega)
theorem SC.pa {K : Mem} (h : SC I (g, ps, kp, bs, rp)) (f : Fm FPA I K) (gc : GC K 0 g) (pt : PTi K) : SC K (g, ps, kp, bs, rp) ∧ Fm FCl I K := ⟨h.op (f.mono fo_p) gc (g1_fm (h.2.1 1 (by decide)) f (fun k i s z q => by unfold FG at z; unfold FPA at q; omega)) pt, (f.mono fo_p).mono fop_cl⟩
theorem LET_g (w : WF g) : LET (gTx g) := exL_let w (w.1 0 (by decide))
theorem sizeX (h : SI I s) (a1 : Int) (h1 : w32 a1 = a1) (hr : ¬ (0 ≤ a1 ∧ a1 < 12)) : OGW (f_L_size a1) (f_M_size a1) I := by
  refine og_X (fp := f_PR_size a1) (E := xIA) (k := 1) h ?_ (if_pos rfl) (by decide) (fun J sm => ?_)
  · unfold f_PR_size
    rw [h1, if_neg (by omega), if_neg (by omega), if_neg (by omega), if_neg (by omega), if_neg (by omega), if_neg (by omega), if_neg (by omega), if_neg (by omega), if_neg (by omega), if_neg (by omega), if_neg (by omega), if_neg (by omega)]
  · unfold f_M_size
    exact t_outG sm (chk_out (sI_self _ _ _ _ _) (Or.inl rfl) (by rw [h1, w0, w32c 11 (by decide)]; omega))
theorem og_4 (h : SI I s) (a1 : Int) (h1 : w32 a1 = a1) : OGW (f_L_size a1) (f_M_size a1) I := by
  refine Classical.byCases (p := 0 ≤ a1 ∧ a1 < 12) (fun hr => ?_) (sizeX h a1 h1)
  obtain ⟨g, ps, kp, bs, rp⟩ := s
  have w : WF g := h.2.2.1
  have hT : ll (gL g) (gR g 0) = (gT g).length := w.2.2.1
  have s7 := fun J : Mem => sI_self J 26 0 7 0
  rcases (show a1 = 0 ∨ a1 = 1 ∨ a1 = 2 ∨ a1 = 3 ∨ a1 = 4 ∨ a1 = 5 ∨ a1 = 6 ∨ a1 = 7 ∨ a1 = 8 ∨ a1 = 9 ∨ a1 = 10 ∨ a1 = 11 by omega) with rfl | rfl | rfl | rfl | rfl | rfl | rfl | rfl | rfl | rfl | rfl | rfl
  · refine og_W (fp := f_PR_size 0) (s' := (g, ps, kp, bs, rp)) (u := w32 ((gT g).length : Int)) h h.2.2 ?_ (fun J sm => m_endG ?_)
    · unfold f_PR_size
      rw [if_pos (by decide)]
      rw [g_textLength h.1.1 (fun i hi => w.sy hi), bnd_some, hT]
      exact tr_ret ⟨⟨_, rfl, rfl⟩, h.1, Fm.refl _ _⟩
    · have s0 := sm.t7 (v := 0)
      unfold f_M_size
      try dsimp only [ltI]
      rw [chk_in (s7 J) (by decide), if_pos (by decide)]
      generalize sI J 26 0 7 0 = J0 at s0
      refine tr_call (t_textLong s0.1 w) ?_
      rintro x K ⟨rfl, -, gw, f⟩
      exact tr_ret ⟨rfl, s0.rdq (f.mono fn_l) gw⟩
  · refine og_W (fp := f_PR_size 1) (s' := (g, ps, kp, bs, rp)) (u := w32 ((gR g 0).length : Int)) h h.2.2 ?_ (fun J sm => m_endG ?_)
    · unfold f_PR_size
      rw [if_neg (by decide), if_pos (by decide)]
      rw [show I 2 (43 * 0) 1 = ((gR g 0).length : Int) from (h.1.1.2.1 0 (by decide)).2.1]
      exact tr_ret ⟨⟨_, rfl, rfl⟩, h.1, Fm.refl _ _⟩
    · have s0 := sm.t7 (v := 0)
      unfold f_M_size
      try dsimp only [ltI]
      rw [chk_in (s7 J) (by decide), if_neg (by decide), if_pos (by decide)]
      generalize sI J 26 0 7 0 = J0 at s0
      rw [show f_M_many 0 J0 = _ from m_many s0.1 (i := 0) (by decide), bnd_some]
      exact tr_ret ⟨rfl, s0, Fm.refl _ _⟩
  · refine og_W (fp := f_PR_size 2) (s' := (g, ps, kp, bs, rp)) (u := w32 (nRules g)) h h.2.2 ?_ (fun J sm => m_endG ?_)
    · unfold f_PR_size
      rw [if_neg (by decide), if_neg (by decide), if_pos (by decide)]
      rw [g_manyRules h.1.1, bnd_some]
      exact tr_ret ⟨⟨_, rfl, rfl⟩, h.1, Fm.refl _ _⟩
    · have s0 := sm.t7 (v := 0)
      unfold f_M_size
      try dsimp only [ltI]
      rw [chk_in (s7 J) (by decide), if_neg (by decide), if_neg (by decide), if_pos (by decide)]
      generalize sI J 26 0 7 0 = J0 at s0
      rw [m_rules s0.1, bnd_some]
      exact tr_ret ⟨rfl, s0, Fm.refl _ _⟩
  · refine og_W (fp := f_PR_size 3) (s' := (g, ps, kp, bs, rp)) (u := w32 (gSize g)) h h.2.2 ?_ (fun J sm => m_endG ?_)
    · unfold f_PR_size
      rw [if_neg (by decide), if_neg (by decide), if_neg (by decide), if_pos (by decide)]
      rw [g_totalSize h.1.1, bnd_some]
      exact tr_ret ⟨⟨_, rfl, rfl⟩, h.1, Fm.refl _ _⟩
    · have s0 := sm.t7 (v := 0)
      unfold f_M_size
      try dsimp only [ltI]
      rw [chk_in (s7 J) (by decide), if_neg (by decide), if_neg (by decide), if_neg (by decide), if_pos (by decide)]
      generalize sI J 26 0 7 0 = J0 at s0
      rw [m_sizeNow s0.1, bnd_some]
      exact tr_ret ⟨rfl, s0, Fm.refl _ _⟩
  · refine og_W (fp := f_PR_size 4) (s' := (g, ps, kp, bs, rp)) (u := w32 (gN g 0)) h h.2.2 ?_ (fun J sm => m_endG ?_)
    · unfold f_PR_size
      rw [if_neg (by decide), if_neg (by decide), if_neg (by decide), if_neg (by decide), if_pos (by decide)]
      rw [show (4 : Int) = 4 + ((0 : Nat) : Int) from rfl, g_number h.1.1 (by decide), bnd_some]
      exact tr_ret ⟨⟨_, rfl, rfl⟩, h.1, Fm.refl _ _⟩
    · have s0 := sm.t7 (v := 0)
      unfold f_M_size
      try dsimp only [ltI]
      rw [chk_in (s7 J) (by decide), if_neg (by decide), if_neg (by decide), if_neg (by decide), if_neg (by decide), if_pos (by decide)]
      generalize sI J 26 0 7 0 = J0 at s0
      rw [if_pos (by decide), show (w32 (4 - 4)).toNat = 0 by decide, s0.1.2.2.2.2.2.1]
      exact tr_ret ⟨rfl, s0, Fm.refl _ _⟩
  · refine og_W (fp := f_PR_size 5) (s' := (g, ps, kp, bs, rp)) (u := w32 (gN g 1)) h h.2.2 ?_ (fun J sm => m_endG ?_)
    · unfold f_PR_size
      rw [if_neg (by decide), if_neg (by decide), if_neg (by decide), if_neg (by decide), if_neg (by decide), if_pos (by decide)]
      rw [show (5 : Int) = 4 + ((1 : Nat) : Int) from rfl, g_number h.1.1 (by decide), bnd_some]
      exact tr_ret ⟨⟨_, rfl, rfl⟩, h.1, Fm.refl _ _⟩
    · have s0 := sm.t7 (v := 0)
      unfold f_M_size
      try dsimp only [ltI]
      rw [chk_in (s7 J) (by decide), if_neg (by decide), if_neg (by decide), if_neg (by decide), if_neg (by decide), if_neg (by decide), if_pos (by decide)]
      generalize sI J 26 0 7 0 = J0 at s0
      rw [if_pos (by decide), show (w32 (5 - 4)).toNat = 1 by decide, s0.1.2.2.2.2.2.2.1]
      exact tr_ret ⟨rfl, s0, Fm.refl _ _⟩
  · refine og_W (fp := f_PR_size 6) (s' := (g, ps, kp, bs, rp)) (u := w32 (gN g 2)) h h.2.2 ?_ (fun J sm => m_endG ?_)
    · unfold f_PR_size
      rw [if_neg (by decide), if_neg (by decide), if_neg (by decide), if_neg (by decide), if_neg (by decide), if_neg (by decide), if_pos (by decide)]
      rw [show (6 : Int) = 4 + ((2 : Nat) : Int) from rfl, g_number h.1.1 (by decide), bnd_some]
      exact tr_ret ⟨⟨_, rfl, rfl⟩, h.1, Fm.refl _ _⟩
    · have s0 := sm.t7 (v := 0)
      unfold f_M_size
      try dsimp only [ltI]
      rw [chk_in (s7 J) (by decide), if_neg (by decide), if_neg (by decide), if_neg (by decide), if_neg (by decide), if_neg (by decide), if_neg (by decide), if_pos (by decide)]
      generalize sI J 26 0 7 0 = J0 at s0
      rw [if_pos (by decide), show (w32 (6 - 4)).toNat = 2 by decide, s0.1.2.2.2.2.2.2.2.1]
      exact tr_ret ⟨rfl, s0, Fm.refl _ _⟩
  · refine og_W (fp := f_PR_size 7) (s' := (g, ps, kp, bs, rp)) (u := w32 (gLongest g)) h h.2.2 ?_ (fun J sm => m_endG ?_)
    · unfold f_PR_size
      rw [if_neg (by decide), if_neg (by decide), if_neg (by decide), if_neg (by decide), if_neg (by decide), if_neg (by decide), if_neg (by decide), if_pos (by decide)]
      rw [g_longestBody h.1.1, bnd_some]
      exact tr_ret ⟨⟨_, rfl, rfl⟩, h.1, Fm.refl _ _⟩
    · have s0 := sm.t7 (v := 0)
      unfold f_M_size
      try dsimp only [ltI]
      rw [chk_in (s7 J) (by decide), if_neg (by decide), if_neg (by decide), if_neg (by decide), if_neg (by decide), if_neg (by decide), if_neg (by decide), if_neg (by decide), if_pos (by decide)]
      generalize sI J 26 0 7 0 = J0 at s0
      rw [m_longest s0.1, bnd_some]
      exact tr_ret ⟨rfl, s0, Fm.refl _ _⟩
  · refine og_W (fp := f_PR_size 8) (s' := (g, ps, kp, bs, rp)) (u := w32 (mxd (dp g) (gR g 0))) h h.2.2 ?_ (fun J sm => m_endG ?_)
    · unfold f_PR_size
      rw [if_neg (by decide), if_neg (by decide), if_neg (by decide), if_neg (by decide), if_neg (by decide), if_neg (by decide), if_neg (by decide), if_neg (by decide), if_pos (by decide)]
      refine tr_call (t_measure h.1.1 w) ?_
      rintro _ K ⟨hd, f⟩
      have hr0 := (h.1.1.fsv f).2.1 0 (by decide)
      rw [show 43 * 0 = rix 0 0 from rfl, s_deepest (d := dp g) hr0 (w.sy (by decide)) (fun x hx => dp_letter g hx) (fun x hx h26 => ?_) (fun x hx => ?_), bnd_some]
      · exact tr_ret ⟨⟨_, rfl, rfl⟩, h.1.sv f⟩
      · have sx := w.1 0 (by decide) x hx
        rw [(hd (x - 26).toNat (by have := sx.2.1; omega) (sx.2.2 h26)).1, ← dpR h26]
      · have := dp_40 w (w.1 0 (by decide) x hx)
        omega
    · have s0 := sm.t7 (v := 0)
      unfold f_M_size
      try dsimp only [ltI]
      rw [chk_in (s7 J) (by decide), if_neg (by decide), if_neg (by decide), if_neg (by decide), if_neg (by decide), if_neg (by decide), if_neg (by decide), if_neg (by decide), if_neg (by decide), if_pos (by decide)]
      generalize sI J 26 0 7 0 = J0 at s0
      unfold f_M_deepNow
      rw [tr_bnd, tr_bnd]
      have gw0 : GW J0 g := s0.1
      refine tr_mono (t_textLong gw0 w) ?_
      rintro x K ⟨rfl, h10, gw, f⟩
      have hl : (gT g).length ≤ 400 := w.2.2.2.2.1
      have hl1 : 1 ≤ (gT g).length := w.2.2.2.1
      rw [if_pos (by rw [w32_of (x := ((gT g).length : Int)) (by omega) (by omega)]; omega), h10]
      exact tr_ret (tr_ret ⟨rfl, s0.rdq (f.mono fn_l) gw⟩)
  · refine og_W (fp := f_PR_size 9) (s' := (g, ps, kp, bs, rp)) (u := w32 (unlN (gTx g))) h h.2.2 ?_ (fun J sm => m_endG ?_)
    · unfold f_PR_size
      rw [if_neg (by decide), if_neg (by decide), if_neg (by decide), if_neg (by decide), if_neg (by decide), if_neg (by decide), if_neg (by decide), if_neg (by decide), if_neg (by decide), if_pos (by decide)]
      refine tr_call (t_unfold h.1.1 w) ?_
      rintro _ K ⟨tx, f⟩
      rw [s_unlike tx (LET_g w), bnd_some]
      exact tr_ret ⟨⟨_, rfl, rfl⟩, h.1.sv f⟩
    · have s0 := sm.t7 (v := 0)
      unfold f_M_size
      try dsimp only [ltI]
      rw [chk_in (s7 J) (by decide), if_neg (by decide), if_neg (by decide), if_neg (by decide), if_neg (by decide), if_neg (by decide), if_neg (by decide), if_neg (by decide), if_neg (by decide), if_neg (by decide), if_pos (by decide)]
      generalize sI J 26 0 7 0 = J0 at s0
      refine tr_call (t_munlike s0.1 w) ?_
      rintro x K ⟨rfl, gw, f⟩
      exact tr_ret ⟨rfl, s0.rdq (f.mono fn_u) gw⟩
  · refine og_W (fp := f_PR_size 10) (s' := (g, ps, kp, bs, rp)) (u := w32 (worthN g)) h h.2.2 ?_ (fun J sm => m_endG ?_)
    · unfold f_PR_size
      rw [if_neg (by decide), if_neg (by decide), if_neg (by decide), if_neg (by decide), if_neg (by decide), if_neg (by decide), if_neg (by decide), if_neg (by decide), if_neg (by decide), if_neg (by decide), if_pos (by decide)]
      refine tr_call (t_readFrom h.1.1 w h.1.2.2.1) ?_
      rintro _ K ⟨hd, pt, gc, f⟩
      exact tr_ret ⟨⟨_, rfl, by rw [hd.2.2.1]⟩, h.1.pa f gc pt⟩
    · have s0 := sm.t7 (v := 0)
      unfold f_M_size
      try dsimp only [ltI]
      rw [chk_in (s7 J) (by decide), if_neg (by decide), if_neg (by decide), if_neg (by decide), if_neg (by decide), if_neg (by decide), if_neg (by decide), if_neg (by decide), if_neg (by decide), if_neg (by decide), if_neg (by decide), if_pos (by decide)]
      generalize sI J 26 0 7 0 = J0 at s0
      unfold f_M_worthNow
      rw [tr_bnd, tr_bnd]
      refine tr_mono (t_laysPairs s0.1 (fun i hi => w.sy hi)) ?_
      rintro _ K ⟨mp, gk, f⟩
      rw [m_worthy gk mp w (by decide), bnd_some, if_pos rfl]
      exact tr_ret (tr_ret ⟨rfl, s0.rdq (f.mono fn_mp) gk⟩)
  · refine og_W (fp := f_PR_size 11) (s' := (g, ps, kp, bs, rp)) (u := w32 (ps.length : Int)) h h.2.2 ?_ (fun J sm => m_endG ?_)
    · unfold f_PR_size
      rw [if_neg (by decide), if_neg (by decide), if_neg (by decide), if_neg (by decide), if_neg (by decide), if_neg (by decide), if_neg (by decide), if_neg (by decide), if_neg (by decide), if_neg (by decide), if_neg (by decide), if_pos (by decide)]
      rw [show I 9 0 4 = (ps.length : Int) from h.1.2.2.2.1.2.1]
      exact tr_ret ⟨⟨_, rfl, rfl⟩, h.1, Fm.refl _ _⟩
    · have s0 := sm.t7 (v := 0)
      unfold f_M_size
      try dsimp only [ltI]
      rw [chk_in (s7 J) (by decide), if_neg (by decide), if_neg (by decide), if_neg (by decide), if_neg (by decide), if_neg (by decide), if_neg (by decide), if_neg (by decide), if_neg (by decide), if_neg (by decide), if_neg (by decide), if_neg (by decide), if_pos (by decide)]
      generalize sI J 26 0 7 0 = J0 at s0
      rw [show J0 26 0 6 = (ps.length : Int) from s0.2.1.2.1]
      exact tr_ret ⟨rfl, s0, Fm.refl _ _⟩
theorem m_here (h7 : J 26 0 7 = 0) (gw : GW J g) {j : Nat} (hj : j < 40) (hn : gR g (j + 1) ≠ []) : f_M_noSuchRule (j : Int) J = some (0, J) := by
  unfold f_M_noSuchRule
  rw [m_in1 (by rw [w32_of (x := (j : Int)) (by omega) (by omega), w0, w32c 39 (by decide)]; omega), bnd_some, if_neg (by decide), m_isHere gw hj, bI_pos hn, bnd_some, if_neg (by decide), m_fz h7, bnd_some, if_pos (Or.inl rfl)]
theorem m_notHere (h7 : J 26 0 7 = 0) (gw : GW J g) {a1 : Int} (h1 : w32 a1 = a1) (hn : ¬ (0 ≤ a1 ∧ a1 < 40 ∧ gR g (a1.toNat + 1) ≠ [])) : f_M_noSuchRule a1 J = some (1, sI J 26 0 7 1) := by
  have key : f_M_noSuchRule_j19 J = some (1, sI J 26 0 7 1) := by
    unfold f_M_noSuchRule_j19
    rw [m_f1 h7 (Or.inl rfl), bnd_some, if_pos (Or.inr rfl)]
  unfold f_M_noSuchRule
  by_cases hr : 0 ≤ a1 ∧ a1 < 40
  · obtain ⟨j, rfl, hj⟩ : ∃ j : Nat, a1 = (j : Int) ∧ j < 40 := ⟨a1.toNat, by omega, by omega⟩
    rw [m_in1 (by rw [h1, w0, w32c 39 (by decide)]; omega), bnd_some, if_neg (by decide), m_isHere gw hj, bI_neg (fun z => hn ⟨hr.1, hr.2, by rw [Int.toNat_natCast]; exact z⟩), bnd_some, if_pos (by decide)]
    exact key
  · rw [m_in0 (by rw [h1, w0, w32c 39 (by decide)]; omega), bnd_some, if_pos (by decide)]
    exact key
theorem og_5 (h : SI I s) (a1 : Int) (h1 : w32 a1 = a1) : ∃ (r1 r2 : Int) (J K : Mem) (s' : SS), f_L_isRule a1 I = some (r1, J) ∧ f_M_isRule a1 J = some (r2, K) ∧ w32 (K 26 0 7) = w32 r1 ∧ (w32 r1 = 0 → w64 (K 29 0 0) = w64 (if w32 r2 = 0 then 0 else 1)) ∧ SI K s' ∧ Rm I K := by
  obtain ⟨g, ps, kp, bs, rp⟩ := s
  have hb := w32_rng a1
  rw [h1] at hb
  by_cases hr : 0 ≤ a1 ∧ a1 < 40
  · obtain ⟨j, rfl, hj⟩ : ∃ j : Nat, a1 = (j : Int) ∧ j < 40 := ⟨a1.toNat, by omega, by omega⟩
    have e1 : f_PR_isRule (j : Int) I = some (.inl (bI (gR g (j + 1) ≠ [])), I) := by
      unfold f_PR_isRule
      rw [h1, if_neg (by omega), if_pos (by omega), g_hasRule h.1.1 hj, bnd_some, if_pos (bI_01 _)]
    have hbi := bI_01 (gR g (j + 1) ≠ [])
    obtain ⟨v, hv1, hv2⟩ : ∃ v : Int, f_L_isRule (j : Int) I = some (0, sI I 29 0 0 v) ∧ (v = 0 ∨ v = 1) ∧ v = bI (gR g (j + 1) ≠ []) := by
      unfold f_L_isRule
      rw [e1]
      show ∃ v : Int, (if w32 (bI (gR g (j + 1) ≠ [])) = 0 then some ((0 : Int), sI I 29 0 0 0) else some (0, sI I 29 0 0 1)) = some (0, sI I 29 0 0 v) ∧ (v = 0 ∨ v = 1) ∧ v = bI (gR g (j + 1) ≠ [])
      rcases hbi with z | z
      · exact ⟨0, by rw [z, if_pos (by decide)], Or.inl rfl, z.symm⟩
      · exact ⟨1, by rw [z, if_neg (by decide)], Or.inr rfl, z.symm⟩
    have gw : GW (sI (sI I 29 0 0 v) 26 0 7 0) g := GWf.congr h.2.1.1 (fun q _ => by rw [sI_ne (by omega), sI_ne (by omega)])
    have e2 : f_M_isRule (j : Int) (sI I 29 0 0 v) = some (v, sI (sI I 29 0 0 v) 26 0 7 0) := by
      unfold f_M_isRule
      try dsimp only [ltI]
      rw [m_noRule1 (sI_self _ _ _ _ _) h1 hr, bnd_some, if_pos (by decide), m_isHere gw hj, ← hv2.2, bnd_some]
      rcases hv2.1 with rfl | rfl
      · rw [if_pos (by decide)]
      · rw [if_neg (by decide)]
    have f29 : Fm (fun k _ s => 26 ≤ k ∧ k < 30 ∧ ¬ (k = 26 ∧ s ≠ 7)) I (sI (sI I 29 0 0 v) 26 0 7 0) := (Fm.sI (by decide) (by omega) (by omega) ⟨by decide, by decide, by omega⟩).trans (Fm.sI (by decide) (by omega) (by omega) ⟨by decide, by decide, by omega⟩)
    have fl : ∀ k i q : Nat, ¬ (26 ≤ k ∧ k < 30 ∧ ¬ (k = 26 ∧ q ≠ 7)) → k ≠ 30 → (sI (sI I 29 0 0 v) 26 0 7 0) k i q = I k i q := fun k i q z hk => f29.at hk z
    have lk : Lk (sI I 29 0 0 v) (sI I 29 0 0 v) := fun _ _ _ _ => rfl
    have sm0 : SM (sI I 29 0 0 v) (g, ps, kp, bs, rp) := by
      have lk2 : ∀ k i q : Nat, k ≠ 29 → (sI I 29 0 0 v) k i q = I k i q := fun k i q hk => sI_ne (by omega)
      obtain ⟨a1, ⟨b1, b2, b3⟩, a3, ⟨c1, c2⟩, d1, d2⟩ := h.2.1
      refine ⟨GWf.congr a1 (fun q _ => lk2 27 0 q (by decide)), ⟨b1, by rw [lk2 26 0 6 (by decide)]; exact b2, fun k hk => GWf.congr (b3 k hk) (fun q _ => lk2 27 3 _ (by decide))⟩, fun j hj => ?_, ⟨by rw [lk2 26 0 20 (by decide)]; exact c1, fun j hj => by rw [lk2 27 14 j (by decide)]; exact c2 j hj⟩, by rw [lk2 26 0 43 (by decide)]; exact d1, fun j hj => by rw [lk2 27 22 j (by decide)]; exact d2 j hj⟩
      have hh := a3 j hj
      cases e : kp j with
      | none =>
        have hh : match kp j with | none => I 28 0 j = 0 | some x => I 28 0 j = 1 ∧ GB I 4 (16860 * j) x := hh
        show match kp j with | none => (sI I 29 0 0 v) 28 0 j = 0 | some x => (sI I 29 0 0 v) 28 0 j = 1 ∧ GB (sI I 29 0 0 v) 4 (16860 * j) x
        rw [e] at hh ⊢
        exact (lk2 28 0 j (by decide)).trans hh
      | some x =>
        have hh : match kp j with | none => I 28 0 j = 0 | some x => I 28 0 j = 1 ∧ GB I 4 (16860 * j) x := hh
        show match kp j with | none => (sI I 29 0 0 v) 28 0 j = 0 | some x => (sI I 29 0 0 v) 28 0 j = 1 ∧ GB (sI I 29 0 0 v) 4 (16860 * j) x
        rw [e] at hh ⊢
        exact ⟨(lk2 28 0 j (by decide)).trans hh.1, GWf.congr hh.2 (fun q _ => lk2 27 4 _ (by decide))⟩
    have sc : SC (sI (sI I 29 0 0 v) 26 0 7 0) (g, ps, kp, bs, rp) := by
      obtain ⟨a1, a2, a3, a4, a5, a6, a7⟩ := h.1
      exact ⟨a1.fm f29 (fun k i s z q => by unfold FG at z; omega), a2.fm f29 (fun t _ k i s z q => by unfold FG at z; omega), a3.fm f29 (fun i s => ⟨fun z => by omega, fun z => by omega⟩), a4.fm f29 (fun s z => by omega) (fun t _ _ k i s z q => by unfold FG at z; omega), a5.fm f29 (fun s z => by omega) (fun t _ _ k i s z q => by unfold FG at z; omega), a6.fm f29 (fun z => by omega) (fun s z => by omega), a7.fm f29 (fun s z => by omega) (fun s z => by omega)⟩
    refine ⟨0, v, _, _, (g, ps, kp, bs, rp), hv1, e2, by rw [sI_self], fun _ => ?_, ⟨sc, sm0.t7, h.2.2⟩, ?_⟩
    · rw [sI_ne (by decide), sI_self]
      rcases hv2.1 with rfl | rfl
      · rw [if_pos (by decide)]
      · rw [if_neg (by decide)]
    · have hc : Cap (sI (sI I 29 0 0 v) 26 0 7 0) = Cap I := by
        unfold Cap
        rw [f29.at (k := 10) (i := 0) (s := 2) (by decide) (fun z => by omega), show (fun r : Nat => (sI (sI I 29 0 0 v) 26 0 7 0) 2 r 2) = fun r => I 2 r 2 from funext (fun r => f29.at (by decide) (fun z => by omega))]
      have h2 := f29.2
      unfold Gr at h2
      unfold Rm
      omega
  · have e : f_PR_isRule a1 I = some (.inr xIO, thrw I) := by
      unfold f_PR_isRule
      rw [h1]
      by_cases q : a1 < 0
      · rw [if_pos q]
      · rw [if_neg q, if_neg (by omega)]
    have e1 : f_L_isRule a1 I = some (1, thrw I) := by
      unfold f_L_isRule
      rw [e]
      exact (if_pos rfl : (if xIO = xIO then some ((1 : Int), thrw I) else none) = some (1, thrw I))
    have e2 : f_M_isRule a1 (thrw I) = some (0, sI (sI (thrw I) 26 0 7 0) 26 0 7 1) := by
      unfold f_M_isRule
      try dsimp only [ltI]
      rw [m_noRule0 (sI_self _ _ _ _ _) h1 hr, bnd_some, if_neg (by decide)]
    have sm := (h.2.1.lk (lk_thrw (I := I))).t7 (v := 0) |>.t7 (v := 1)
    have ff : Fm FMo (thrw I) (sI (sI (thrw I) 26 0 7 0) 26 0 7 1) := f7_mo.trans f7_mo
    exact ⟨1, 0, _, _, (g, ps, kp, bs, rp), e1, e2, by rw [sI_self], fun z => absurd z (by decide), ⟨(h.1.lk lk_thrw).mo ff, sm, h.2.2⟩, rm_t ff⟩
end READS
