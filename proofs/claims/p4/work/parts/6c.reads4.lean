/-! ===== best, why, and what steps will bring ===== -/
section READS4
variable {I J : Mem} {g g' : GS} {ps : List GS} {kp : Nat → Option GS} {bs rp : List Int} {s : SS}
theorem ahd_total (w : WF g) {p o : Nat} (hp : p < 4356) (ho : o < 4356) (hne : p ≠ o) (h1 : wz g p = true) (h2 : wz g o = true) : ahd g p o ∨ ahd g o p := by
  have hk := ky_ne w hp ho hne (wz_cz w h1) (wz_cz w h2)
  unfold ahd
  omega
theorem ahd_trans {p q r : Nat} (h : ahd g p q) (k : ahd g q r) : ahd g p r := by
  unfold ahd at *
  omega
theorem best_ex (w : WF g) : ∀ n : Nat, n ≤ 4356 → (∃ p : Nat, p < n ∧ wz g p = true) → ∃ b : Nat, b < n ∧ wz g b = true ∧ ∀ q : Nat, q < n → wz g q = true → q ≠ b → ahd g b q := by
  intro n
  induction n with
  | zero => rintro _ ⟨p, hp, _⟩; omega
  | succ n ih =>
    rintro hn ⟨p, hp, hw⟩
    by_cases hex : ∃ p : Nat, p < n ∧ wz g p = true
    · obtain ⟨b, hb, hbw, hba⟩ := ih (by omega) hex
      by_cases hnw : wz g n = true
      · rcases ahd_total w (p := b) (o := n) (by omega) (by omega) (by omega) hbw hnw with z | z
        · refine ⟨b, by omega, hbw, fun q hq hqw hne => ?_⟩
          by_cases e : q = n
          · subst e; exact z
          · exact hba q (by omega) hqw hne
        · refine ⟨n, by omega, hnw, fun q hq hqw hne => ?_⟩
          by_cases e : q = b
          · subst e; exact z
          · exact ahd_trans z (hba q (by omega) hqw e)
      · refine ⟨b, by omega, hbw, fun q hq hqw hne => ?_⟩
        by_cases e : q = n
        · subst e; exact absurd hqw hnw
        · exact hba q (by omega) hqw hne
    · have e : p = n := by
        refine Classical.byContradiction fun z => hex ⟨p, by omega, hw⟩
      subst e
      refine ⟨p, by omega, hw, fun q hq hqw hne => absurd ⟨q, by omega, hqw⟩ hex⟩
theorem best_of (w : WF g) {p : Nat} (hp : p < 4356) (h : wz g p = true) : ∃ b : Nat, isB g b ∧ bestP g = (b : Int) := by
  obtain ⟨b, h1, h2, h3⟩ := best_ex w 4356 (Nat.le_refl _) ⟨p, hp, h⟩
  exact ⟨b, ⟨h1, h2, h3⟩, bestP_of ⟨h1, h2, h3⟩⟩
theorem og_19 (h : SI I s) (a1 : Int) (h1 : w32 a1 = a1) : OGW (f_L_best a1) (f_M_best a1) I := by
  obtain ⟨g, ps, kp, bs, rp⟩ := s
  have w : WF g := h.2.2.1
  by_cases hr : 0 ≤ a1 ∧ a1 < 5
  · have s7 := fun J : Mem => sI_self J 26 0 7 0
    rcases bestP_cases g with hn | ⟨m, hm, hb⟩
    · refine og_W (fp := f_PR_best a1) (s' := (g, ps, kp, bs, rp)) (u := if a1 = 4 then 0 else -1) h h.2.2 ?_ (fun J sm => m_endG ?_)
      · unfold f_PR_best
        rw [h1, if_neg (by omega), if_neg (by omega)]
        refine tr_call (t_readFrom h.1.1 w h.1.2.2.1) ?_
        rintro _ K ⟨pd, pt, gc, f⟩
        have e7 : K 4 0 7 = -1 := pd.2.1.trans hn
        rw [e7, if_pos (by decide)]
        by_cases q : a1 = 4
        · rw [if_pos q, if_pos q]
          exact tr_ret ⟨⟨_, rfl, by decide⟩, h.1.pa f gc pt⟩
        · rw [if_neg q, if_neg q]
          exact tr_ret ⟨⟨_, rfl, by decide⟩, h.1.pa f gc pt⟩
      · have s0 := sm.t7 (v := 0)
        unfold f_M_best
        try dsimp only [ltI]
        rw [chk_in (s7 J) (by rw [h1, w0, w32c 4 (by decide)]; omega)]
        refine tr_call (t_bestPair s0.1 w) ?_
        rintro x K ⟨hx, mp, -, gw, f⟩
        have hx : x = -1 := hx.trans hn
        subst hx
        rw [if_pos (by decide), h1]
        by_cases q : a1 = 4
        · rw [if_pos q, if_pos q]
          exact tr_ret ⟨by decide, s0.rdq (f.mono fn_bp) gw⟩
        · rw [if_neg q, if_neg q]
          exact tr_ret ⟨by decide, s0.rdq (f.mono fn_bp) gw⟩
    · have hm4 : m < 4356 := hm.1
      have hcz := wz_cz w hm.2.1
      have wm : w32 (m : Int) = m := w32_of (by omega) (by omega)
      refine og_W (fp := f_PR_best a1) (s' := (g, ps, kp, bs, rp)) (u := w32 (if a1 = 0 then idv (m : Int) 66 else if a1 = 1 then irm (m : Int) 66 else if a1 = 2 then cz g m zE else if a1 = 3 then kz g m 40 else alikeN g (cz g m zE))) h h.2.2 ?_ (fun J sm => m_endG ?_)
      · unfold f_PR_best
        rw [h1, if_neg (by omega), if_neg (by omega)]
        refine tr_call (t_readFrom h.1.1 w h.1.2.2.1) ?_
        rintro _ K ⟨pd, pt, gc, f⟩
        have e7 : K 4 0 7 = (m : Int) := pd.2.1.trans hb
        have e9 : K 4 0 9 = alikeN g (cz g m zE) := pd.2.2.2.2 m hb
        rw [e7, wm, if_neg (by omega)]
        rcases (show a1 = 0 ∨ a1 = 1 ∨ a1 = 2 ∨ a1 = 3 ∨ a1 = 4 by omega) with rfl | rfl | rfl | rfl | rfl
        · rw [if_pos rfl, if_pos rfl]
          exact tr_ret ⟨⟨_, rfl, rfl⟩, h.1.pa f gc pt⟩
        · rw [if_neg (by decide), if_pos rfl, if_neg (by decide), if_pos rfl]
          exact tr_ret ⟨⟨_, rfl, rfl⟩, h.1.pa f gc pt⟩
        · rw [if_neg (by decide), if_neg (by decide), if_pos rfl, if_neg (by decide), if_neg (by decide), if_pos rfl, p_countOf pd.1 hm4, bnd_some]
          exact tr_ret ⟨⟨_, rfl, rfl⟩, h.1.pa f gc pt⟩
        · rw [if_neg (by decide), if_neg (by decide), if_neg (by decide), if_pos rfl, if_neg (by decide), if_neg (by decide), if_neg (by decide), if_pos rfl, p_keptOf pd.1 hm4, bnd_some]
          exact tr_ret ⟨⟨_, rfl, rfl⟩, h.1.pa f gc pt⟩
        · rw [if_neg (by decide), if_neg (by decide), if_neg (by decide), if_neg (by decide), if_neg (by decide), if_neg (by decide), if_neg (by decide), if_neg (by decide), e9]
          exact tr_ret ⟨⟨_, rfl, rfl⟩, h.1.pa f gc pt⟩
      · have s0 := sm.t7 (v := 0)
        unfold f_M_best
        try dsimp only [ltI]
        rw [chk_in (s7 J) (by rw [h1, w0, w32c 4 (by decide)]; omega)]
        refine tr_call (t_bestPair s0.1 w) ?_
        rintro x K ⟨hx, mp, -, gw, f⟩
        have hx : x = (m : Int) := hx.trans hb
        subst hx
        have mp : MP K g := mp
        have gw : GW K g := gw
        rw [wm, if_neg (by omega), h1]
        rcases (show a1 = 0 ∨ a1 = 1 ∨ a1 = 2 ∨ a1 = 3 ∨ a1 = 4 by omega) with rfl | rfl | rfl | rfl | rfl
        · rw [if_pos rfl, if_pos rfl]
          exact tr_ret ⟨rfl, s0.rdq (f.mono fn_bp) gw⟩
        · rw [if_neg (by decide), if_pos rfl, if_neg (by decide), if_pos rfl]
          exact tr_ret ⟨rfl, s0.rdq (f.mono fn_bp) gw⟩
        · rw [if_neg (by decide), if_neg (by decide), if_pos rfl, if_pos (by omega), if_neg (by decide), if_neg (by decide), if_pos rfl, Int.toNat_natCast, (mp m hm4).1]
          exact tr_ret ⟨rfl, s0.rdq (f.mono fn_bp) gw⟩
        · rw [if_neg (by decide), if_neg (by decide), if_neg (by decide), if_pos rfl, if_pos (by omega), if_neg (by decide), if_neg (by decide), if_neg (by decide), if_pos rfl, Int.toNat_natCast, (mp m hm4).2.1]
          exact tr_ret ⟨rfl, s0.rdq (f.mono fn_bp) gw⟩
        · have cr := cz_rng g m zE
          have ez := zE_eq
          rw [if_neg (by decide), if_neg (by decide), if_neg (by decide), if_neg (by decide), if_pos (by omega), if_neg (by decide), if_neg (by decide), if_neg (by decide), if_neg (by decide), Int.toNat_natCast, (mp m hm4).1, m_worthy gw mp w (by omega), bnd_some, if_neg hcz]
          exact tr_ret ⟨rfl, s0.rdq (f.mono fn_bp) gw⟩
  · refine og_X (fp := f_PR_best a1) (E := xIA) (k := 1) h ?_ (if_pos rfl) (by decide) (fun J sm => ?_)
    · unfold f_PR_best
      rw [h1]
      by_cases q : a1 < 0
      · rw [if_pos q]
      · rw [if_neg q, if_pos (by omega)]
    · unfold f_M_best
      exact t_outG sm (chk_out (sI_self _ _ _ _ _) (Or.inl rfl) (by rw [h1, w0, w32c 4 (by decide)]; omega))
/-- the number of WHY -/
noncomputable def whyN (g : GS) (p : Nat) : Int := if cz g p zE = 0 then 1 else if wz g p = true then (if cz g p zE < cz g (bestP g).toNat zE then 4 else if bestP g = (p : Int) then 0 else 5) else if cz g p zE < gN g 0 then 2 else 3
theorem og_20 (h : SI I s) (a1 a2 : Int) (h1 : w32 a1 = a1) (h2 : w32 a2 = a2) : OGW (f_L_why a1 a2) (f_M_why a1 a2) I := by
  obtain ⟨g, ps, kp, bs, rp⟩ := s
  have w : WF g := h.2.2.1
  have n0 : 2 ≤ gN g 0 ∧ gN g 0 ≤ 9 := w.2.2.2.2.2.1
  have wn0 : w32 (gN g 0) = gN g 0 := w32_of (by omega) (by omega)
  by_cases hr : (0 ≤ a1 ∧ a1 < 66) ∧ 0 ≤ a2 ∧ a2 < 66
  · obtain ⟨p, hp, e1, e2⟩ := nat_pair hr
    have wp : w32 (p : Int) = p := w32_of (by omega) (by omega)
    have cr := cz_rng g p zE
    refine og_W (fp := f_PR_why a1 a2) (s' := (g, ps, kp, bs, rp)) (u := w32 (whyN g p)) h h.2.2 ?_ (fun J sm => m_endG ?_)
    · unfold f_PR_why
      rw [sym_in h1 hr.1, bnd_some, if_neg (by decide), sym_in h2 hr.2, bnd_some, if_neg (by decide)]
      refine tr_call (t_readFrom h.1.1 w h.1.2.2.1) ?_
      rintro _ K ⟨pd, pt, gc, f⟩
      have fin : ∀ v : Int, v = whyN g p → Tr (some (Sum.inl v, K)) (fun (x : Int ⊕ String) L => (∃ v : Int, x = .inl v ∧ w32 v = w32 (whyN g p)) ∧ SC L (g, ps, kp, bs, rp) ∧ Fm FCl I L) := fun v e => tr_ret ⟨⟨_, rfl, by rw [e]⟩, h.1.pa f gc pt⟩
      rw [p_pairOf hr.1 hr.2, bnd_some, e1, p_countOf pd.1 hp, bnd_some, cz_w]
      by_cases q : cz g p zE = 0
      · rw [if_pos q]
        exact fin 1 (by unfold whyN; rw [if_pos q])
      · rw [if_neg q, p_isWorth pd.1 w hp, bnd_some]
        by_cases q2 : wz g p = true
        · obtain ⟨m, hm, hb⟩ := best_of w hp q2
          have e7 : K 4 0 7 = (m : Int) := pd.2.1.trans hb
          rw [bI_pos q2, if_neg (by decide), e7, p_countOf pd.1 hm.1, bnd_some, p_countOf pd.1 hp, bnd_some, cz_w, cz_w, wp, w32_of (x := (m : Int)) (by have := hm.1; omega) (by have := hm.1; omega)]
          by_cases q3 : cz g p zE < cz g m zE
          · rw [if_pos q3]
            exact fin 4 (by unfold whyN; rw [if_neg q, if_pos q2, hb, Int.toNat_natCast, if_pos q3])
          · rw [if_neg q3]
            by_cases q4 : (m : Int) = (p : Int)
            · rw [if_pos q4]
              exact fin 0 (by unfold whyN; rw [if_neg q, if_pos q2, hb, Int.toNat_natCast, if_neg q3, if_pos q4])
            · rw [if_neg q4]
              exact fin 5 (by unfold whyN; rw [if_neg q, if_pos q2, hb, Int.toNat_natCast, if_neg q3, if_neg q4])
        · rw [bI_neg q2, if_pos (by decide), p_countOf pd.1 hp, bnd_some, show (4 : Int) = 4 + ((0 : Nat) : Int) from rfl, g_number gc (by decide), bnd_some, cz_w, wn0]
          by_cases q3 : cz g p zE < gN g 0
          · rw [if_pos q3]
            exact fin 2 (by unfold whyN; rw [if_neg q, if_neg q2, if_pos q3])
          · rw [if_neg q3]
            exact fin 3 (by unfold whyN; rw [if_neg q, if_neg q2, if_neg q3])
    · have s0 := sm.t7 (v := 0)
      unfold f_M_why
      try dsimp only [ltI]
      rw [m_noPair1 (sI_self _ _ _ _ _) h1 h2 hr, bnd_some, if_pos (by decide)]
      refine tr_call (t_bestPair s0.1 w) ?_
      rintro x K ⟨hx, mp, -, gw, f⟩
      have hx : x = bestP g := hx
      have gw' : GW K g := gw
      have fin : ∀ v : Int, v = whyN g p → Tr (some (v, K)) (fun x L => w32 x = w32 (whyN g p) ∧ SM L (g, ps, kp, bs, rp) ∧ Fm FMq (sI J 26 0 7 0) L) := fun v e => tr_ret ⟨by rw [e], s0.rdq (f.mono fn_bp) gw⟩
      have e00 : K 27 0 0 = gN g 0 := gw'.2.2.2.2.2.1
      have mpc : K 27 11 p = cz g p zE := (mp p hp).1
      have mpk : K 27 13 p = kz g p 40 := (mp p hp).2.1
      unfold f_M_pair
      rw [bnd_some, e2, wp, if_pos (by omega), Int.toNat_natCast, mpc, cz_w]
      by_cases q : cz g p zE = 0
      · rw [if_pos q]
        exact fin 1 (by unfold whyN; rw [if_pos q])
      · rw [if_neg q, mpk, kz_w]
        have j90 : wz g p = true → Tr (f_M_why_j90 x (p : Int) K) (fun x L => w32 x = w32 (whyN g p) ∧ SM L (g, ps, kp, bs, rp) ∧ Fm FMq (sI J 26 0 7 0) L) := fun q2 => by
          obtain ⟨m, hm, hb⟩ := best_of w hp q2
          have hm4 := hm.1
          have wm : w32 (m : Int) = m := w32_of (by omega) (by omega)
          unfold f_M_why_j90
          rw [hx, hb, wm, wp]
          by_cases q4 : (m : Int) = (p : Int)
          · rw [if_pos q4]
            refine fin 0 ?_
            have : m = p := Int.ofNat.inj q4
            unfold whyN
            rw [if_neg q, if_pos q2, hb, Int.toNat_natCast, this, if_neg (Int.lt_irrefl _), if_pos rfl]
          · rw [if_neg q4, if_pos ⟨Int.natCast_nonneg m, Int.ofNat_lt.mpr hm4⟩, if_pos ⟨Int.natCast_nonneg p, Int.ofNat_lt.mpr hp⟩, Int.toNat_natCast, Int.toNat_natCast, mpc, (mp m hm4).1]
            show Tr (if w32 (cz g p zE) < w32 (cz g m zE) then _ else _) _
            rw [cz_w, cz_w]
            by_cases q3 : cz g p zE < cz g m zE
            · rw [if_pos q3]
              exact fin 4 (by unfold whyN; rw [if_neg q, if_pos q2, hb, Int.toNat_natCast, if_pos q3])
            · rw [if_neg q3]
              exact fin 5 (by unfold whyN; rw [if_neg q, if_pos q2, hb, Int.toNat_natCast, if_neg q3, if_neg q4])
        have fr := gFree_rng g
        by_cases qk : kz g p 40 = -1
        · rw [if_pos qk, e00, wn0]
          by_cases q3 : cz g p zE < gN g 0
          · rw [if_pos q3]
            refine fin 2 ?_
            have hn : ¬ wz g p = true := fun z => by unfold wz at z; have := of_decide_eq_true z; omega
            unfold whyN
            rw [if_neg q, if_neg hn, if_pos q3]
          · rw [if_neg q3]
            unfold f_M_why_j69
            rw [wp, if_pos (by omega), Int.toNat_natCast, mpk, kz_w, if_pos qk, m_freeRule gw', bnd_some, w32_of (x := gFree g) (by omega) (by omega)]
            by_cases q5 : gFree g = -1
            · rw [if_pos q5]
              refine fin 3 ?_
              have hn : ¬ wz g p = true := fun z => by unfold wz at z; have := of_decide_eq_true z; omega
              unfold whyN
              rw [if_neg q, if_neg hn, if_neg q3]
            · rw [if_neg q5]
              exact j90 (by unfold wz; exact decide_eq_true (Or.inr ⟨qk, q5, by omega⟩))
        · rw [if_neg qk]
          unfold f_M_why_j69
          rw [wp, if_pos (by omega), Int.toNat_natCast, mpk, kz_w, if_neg qk]
          exact j90 (by unfold wz; exact decide_eq_true (Or.inl ⟨qk, by omega⟩))
  · refine pair_xG (fp := f_PR_why) (fm := f_M_why) h h1 h2 hr (fun x y ex ey z => ?_) (fun J e => ?_) (if_pos rfl)
    · unfold f_PR_why
      rw [ex, bnd_some]
      rcases z with z | ⟨z1, z2⟩
      · rw [if_pos z]
      · rw [if_neg z1, ey, bnd_some, if_pos z2]
    · unfold f_M_why
      try dsimp only [ltI]
      rw [e, bnd_some, if_neg (by decide)]
theorem gSize_w (w : WF g) : 0 ≤ gSize g ∧ gSize g ≤ 16400 := by
  have key : ∀ n : Nat, n ≤ 41 → 0 ≤ sT (fun i => ((gR g i).length : Int)) n ∧ sT (fun i => ((gR g i).length : Int)) n ≤ 400 * n := by
    intro n
    induction n with
    | zero => intro _; exact ⟨Int.le_refl 0, Int.le_refl 0⟩
    | succ n ih =>
      intro hn
      have h1 := ih (by omega)
      have h2 := w.len400 n (by omega)
      show 0 ≤ sT (fun i => ((gR g i).length : Int)) n + ((gR g n).length : Int) ∧ sT (fun i => ((gR g i).length : Int)) n + ((gR g n).length : Int) ≤ _
      omega
  exact key 41 (Nat.le_refl _)
theorem nRules_nn (g : GS) : 0 ≤ nRules g := by
  have key : ∀ n : Nat, 0 ≤ sT (fun r => if gR g (r + 1) ≠ [] then 1 else 0) n := by
    intro n
    induction n with
    | zero => exact Int.le_refl 0
    | succ n ih =>
      show 0 ≤ sT (fun r => if gR g (r + 1) ≠ [] then 1 else 0) n + (if gR g (n + 1) ≠ [] then 1 else 0)
      split <;> omega
  exact key 40
theorem mu_le (w : WF g) : mu g ≤ ((1000000 : Nat) : Int) := by
  have h1 := gSize_w w
  have h2 := nRules_nn g
  show 2 * gSize g + 40 - nRules g ≤ (1000000 : Int)
  omega
/-- the class's trial of steps -/
theorem t_trial (h : SC I (g, ps, kp, bs, rp)) (w : WF g) {n : Nat} (hn : n < 100000000) : Tr (bnd (f_G_takeFrom 1 0 I) fun _ J => f_Stp_makeSteps 1 (n : Int) J) (fun x K => x = ((stepsG n g).1 : Int) ∧ GC K 1 (stepsG n g).2 ∧ SC K (g, ps, kp, bs, rp) ∧ Fm FCl I K) := by
  obtain ⟨x1, g1⟩ := h.2.1 1 (by decide)
  refine tr_call (t_gtakeFrom g1 h.1 (by decide)) ?_
  rintro _ J1 ⟨gc, f1⟩
  refine tr_mono (t_makeSteps gc w (pt_g h.2.2.1 f1) hn) ?_
  rintro x J2 ⟨rfl, gc2, -, pt2, f2⟩
  have ff : Fm FOp I J2 := (f1.mono fo_g1).trans (f2.mono fo_s1)
  exact ⟨rfl, gc2, h.op ff ((h.1.fm f1 (fun k i s z q => by unfold FG at z q; omega)).fm f2 (fun k i s z q => by unfold FG at z; unfold FST FG FPA at q; omega)) ⟨_, gc2⟩ pt2, ff.mono fop_cl⟩
/-- the reference's: aside, something, back -/
theorem m_trial {α : Type} {act : Mem → Option (α × Mem)} {R : α → Prop} (s0 : SM J s) (hact : ∀ K : Mem, GW K s.1 → Tr (act K) (fun x L => R x ∧ Fm FMS K L)) {K : α → Mem → Option (Int × Mem)} {ans : α → Int} (hk : ∀ (x : α) (L : Mem), K x L = f_M_back (ans x) L) : Tr (bnd (f_M_aside J) fun _ J9 => bnd (act J9) K) (fun y L => (∃ x : α, R x ∧ y = ans x) ∧ SM L s ∧ Fm FMq J L) := by
  refine tr_call (P := fun _ K => (∀ s : Nat, s < 16860 → K 27 1 s = J 27 0 s) ∧ GW K s.1 ∧ Fm FMn J K) ?_ ?_
  · unfold f_M_aside
    refine tr_call (t_mlays (k := 0) (b := 0) (k' := 1) (b' := 0) (I := J) (by decide) (by decide) (by decide) (by decide) (by decide) (by decide) (by decide)) ?_
    rintro _ K ⟨hh, f⟩
    exact tr_ret ⟨fun s hs => by have := hh s hs; rwa [Nat.zero_add] at this, s0.1.fm f (fun s _ z => absurd z.2.1 (by decide)), f.mono (fun a b c z => by unfold FMn; omega)⟩
  rintro _ K1 ⟨hc, gw1, f1⟩
  refine tr_call (hact K1 gw1) ?_
  rintro x K2 ⟨hR, f2⟩
  rw [hk]
  unfold f_M_back
  refine tr_call (t_mlays (k := 1) (b := 0) (k' := 0) (b' := 0) (I := K2) (by decide) (by decide) (by decide) (by decide) (by decide) (by decide) (by decide)) ?_
  rintro _ L ⟨hh, f⟩
  have gl : GW L s.1 := GWf.congr s0.1 (fun q hq => by
    have h2 := hh q hq
    rw [Nat.zero_add] at h2
    rw [h2, f2.at (by decide) (by unfold FMS FW FBP FMP FL; omega), hc q hq])
  exact tr_ret ⟨⟨x, hR, rfl⟩, s0.rdq (f1.trans ((f2.mono fn_ms).trans (f.mono (fun a b c z => by unfold FMn; omega)))) gl⟩
theorem bb_id {e : Option (Int × Mem)} : (bnd e fun x J => some (x, J)) = e := by
  cases e with
  | none => rfl
  | some p => rfl
theorem og_22 (h : SI I s) : OGI f_PR_stepsLeft f_M_stepsLeft I := by
  obtain ⟨g, ps, kp, bs, rp⟩ := s
  have w : WF g := h.2.2.1
  refine og_I (s' := (g, ps, kp, bs, rp)) (u := w32 ((stepsG 1000000 g).1 : Int)) h h.2.2 ?_ (fun J sm => m_endI ?_)
  · unfold f_PR_stepsLeft
    rw [show (1000000 : Int) = ((1000000 : Nat) : Int) from rfl]
    simp only [bb_id]
    refine tr_mono (t_trial h.1 w (by decide)) ?_
    rintro x K ⟨rfl, -, sc, f⟩
    exact ⟨rfl, sc, f⟩
  · have s0 := sm.t7 (v := 0)
    unfold f_M_stepsLeft
    try dsimp only [ltI]
    refine tr_mono (m_trial (act := whl f_M_stepsLeft_w11 0) (R := fun x => x = ((stepsG 1000000 g).1 : Int)) (ans := fun x => x) s0 (fun K gw => tr_mono (t_mstepsAll gw w (mu_le w)) (fun _ _ z => ⟨z.1, z.2.2⟩)) (fun x L => bb_id)) ?_
    rintro y L ⟨⟨x, rfl, rfl⟩, sm', f⟩
    exact ⟨rfl, sm', f⟩
theorem og_23 (h : SI I s) (a1 : Int) (h1 : w32 a1 = a1) : OGW (f_L_sizeIn a1) (f_M_sizeIn a1) I := by
  obtain ⟨g, ps, kp, bs, rp⟩ := s
  have w : WF g := h.2.2.1
  by_cases hr : 0 ≤ a1 ∧ a1 < 101
  · obtain ⟨n, rfl, hn⟩ : ∃ n : Nat, a1 = (n : Int) ∧ n < 101 := ⟨a1.toNat, by omega, by omega⟩
    refine og_W (fp := f_PR_sizeIn (n : Int)) (s' := (g, ps, kp, bs, rp)) (u := w32 (gSize (stepsG n g).2)) h h.2.2 ?_ (fun J sm => m_endG ?_)
    · unfold f_PR_sizeIn
      rw [h1, if_neg (by omega), if_neg (by omega)]
      have ht := t_trial h.1 w (n := n) (by omega)
      rw [tr_bnd] at ht ⊢
      refine tr_mono ht ?_
      intro _ J1 ht1
      rw [tr_bnd]
      refine tr_mono ht1 ?_
      rintro x K ⟨-, gc, sc, f⟩
      rw [g_totalSize gc, bnd_some]
      exact tr_ret ⟨⟨_, rfl, rfl⟩, sc, f⟩
    · have s0 := sm.t7 (v := 0)
      unfold f_M_sizeIn
      try dsimp only [ltI]
      rw [chk_in (sI_self _ _ _ _ _) (by rw [h1, w0, w32c 100 (by decide)]; omega)]
      have hact : ∀ K : Mem, GW K g → Tr (bnd (f_M_stepsMany (n : Int) K) fun _ L => f_M_sizeNow L) (fun x L => x = gSize (stepsG n g).2 ∧ Fm FMS K L) := fun K gw => by
        refine tr_call (t_mstepsMany gw w (by omega)) ?_
        rintro x L ⟨-, gw2, f⟩
        rw [m_sizeNow gw2]
        exact tr_ret ⟨rfl, f⟩
      have hm := m_trial (act := fun K => bnd (f_M_stepsMany (n : Int) K) fun _ L => f_M_sizeNow L) (R := fun x => x = gSize (stepsG n g).2) (ans := fun x => x) (K := fun x L => f_M_back x L) s0 hact (fun x L => rfl)
      rw [tr_bnd] at hm ⊢
      refine tr_mono hm ?_
      intro _ J9 hm1
      rw [tr_bnd, tr_bnd] at hm1
      rw [tr_bnd]
      refine tr_mono hm1 ?_
      intro _ J12 hm2
      rw [tr_bnd]
      refine tr_mono hm2 ?_
      intro x16 J15 hm3
      rw [bb_id]
      refine tr_mono hm3 ?_
      rintro y L ⟨⟨x, rfl, rfl⟩, sm', f⟩
      exact ⟨rfl, sm', f⟩
  · refine og_X (fp := f_PR_sizeIn a1) (E := xIA) (k := 1) h ?_ (if_pos rfl) (by decide) (fun J sm => ?_)
    · unfold f_PR_sizeIn
      rw [h1]
      by_cases q : a1 < 0
      · rw [if_pos q]
      · rw [if_neg q, if_pos (by omega)]
    · unfold f_M_sizeIn
      exact t_outG sm (chk_out (sI_self _ _ _ _ _) (Or.inl rfl) (by rw [h1, w0, w32c 100 (by decide)]; omega))
end READS4
