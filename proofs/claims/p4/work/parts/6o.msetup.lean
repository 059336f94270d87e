/-! ===== the reference's setup; load ===== -/
section MSETUP
variable {I J : Mem} {bs : List Int} {g : GS} {i k p : Nat} {l : List Int}
abbrev FSm : FP := fun k i s => FRn k i s ∨ (k = 26 ∧ i = 0 ∧ (s = 28 ∨ s = 30 ∨ s = 31))
theorem fmx_s : ∀ k i s : Nat, FMx k i s → FSm k i s := fun _ _ _ z => Or.inl (Or.inl (Or.inr (Or.inl z)))
theorem fem_s : ∀ k i s : Nat, FEm k i s → FSm k i s := fun _ _ _ z => fmx_s _ _ _ (fem_mx _ _ _ z)
theorem frn_s : ∀ k i s : Nat, FRn k i s → FSm k i s := fun _ _ _ z => Or.inl z
theorem BfM.ss (h : BfM I bs) (f : Fm FSm I J) : BfM J bs := h.fm f (by unfold FSm FRn FRq FW FMx FL; omega) (fun s => by unfold FSm FRn FRq FW FMx FL; omega)
def OKMR (K : Mem) (bs : List Int) : Option (GS × Nat × Nat) → Prop
  | some s => BfM K bs ∧ GW K s.1 ∧ TM K bs s.2.2 ∧ K 26 0 25 = 0 ∧ K 26 0 30 = (s.2.1 : Int) ∧ PG s.1 s.2.1 ∧ s.2.2 ≤ bs.length
  | none => ERR K
abbrev FSq : FP := fun k i s => FRn k i s ∨ (k = 26 ∧ i = 0 ∧ s = 30)
theorem fmx_q : ∀ k i s : Nat, FMx k i s → FSq k i s := fun _ _ _ z => Or.inl (Or.inl (Or.inr (Or.inl z)))
theorem fem_q : ∀ k i s : Nat, FEm k i s → FSq k i s := fun _ _ _ z => fmx_q _ _ _ (fem_mx _ _ _ z)
theorem frn_q : ∀ k i s : Nat, FRn k i s → FSq k i s := fun _ _ _ z => Or.inl z
theorem fsq_s : ∀ k i s : Nat, FSq k i s → FSm k i s := fun k i s z => z.elim Or.inl (fun y => Or.inr ⟨y.1, y.2.1, Or.inr (Or.inl y.2.2)⟩)
theorem w28_err (he : w32 (I 26 0 25) ≠ 0) : whl f_M_setup_w28 () I = some ((), I) := by
  rw [whl_eq]
  unfold f_M_setup_w28
  rw [m_isKeyE he (by decide), bnd_some, if_pos (by decide)]
theorem t_ruleLine (hl : bs.length ≤ 600) (hr : ∀ b ∈ bs, 1 ≤ b ∧ b ≤ 255) (hp : p ≤ bs.length) (hP : PG g k) (hB : BfM I bs) (hG : GW I g) (hT : TM I bs p) (he : I 26 0 25 = 0) (h30 : I 26 0 30 = (k : Int)) : Tr (f_M_ruleLine I) (fun _ K => OKMR K bs (if k = 40 then none else (match rlN bs g k p with
      | none => none
      | some s => some (s.1, k + 1, s.2))) ∧ Fm FSq I K) := by
  have hE := tE_le hp
  have hk40 := hP.1
  unfold f_M_ruleLine
  rw [h30, w32_of (x := (k : Int)) (by omega) (by omega)]
  by_cases q40 : k = 40
  · rw [if_pos (by omega), if_pos q40]
    refine tr_call (mf_1 he (by decide) (by decide)) ?_
    rintro x K ⟨rfl, b, f⟩
    rw [if_neg (by decide)]
    refine tr_ret ⟨?_, f.mono fem_q⟩
    exact ERR.of b (by decide)
  · rw [if_neg (by omega), mf_0 he (by decide), bnd_some, if_pos (by decide), if_neg q40]
    refine tr_call (tm_advS hB hl hr hp hT) ?_
    rintro _ J1 ⟨t1, e1, f1⟩
    have e30 : J1 26 0 30 = (k : Int) := by rw [f1.at (by decide) (by unfold FMx; omega)]; exact h30
    rw [e30, show (k : Int) + 1 = ((k + 1 : Nat) : Int) from rfl]
    refine tr_call (t_mitems hl hr hP.lr (i := k + 1) (by omega) hE.2.1 (hB.mx f1) (hG.mx f1) hP.wp hP.ne (hP.2.2.1 k (Nat.le_refl _) (by omega)) t1 (e1.trans he)) ?_
    rintro _ J2 ⟨ok, f2⟩
    have f12 : Fm FSq I J2 := (f1.mono fmx_q).trans (f2.mono frn_q)
    have e30' : J2 26 0 30 = (k : Int) := by rw [f2.at (by decide) (by unfold FRn FRq FW FMx FL; omega)]; exact e30
    unfold rlN
    cases hc : items bs (gL g) k (tE bs p) with
    | none =>
      rw [hc] at ok
      have ok : ERR J2 := ok
      rw [m_isSignE ok.ne, bnd_some, mf_E ok.ne, bnd_some, if_neg (by decide)]
      exact tr_ret ⟨ok, f12⟩
    | some s =>
      rw [hc] at ok
      obtain ⟨cB, cG, cT, ce, c29, c5⟩ := ok
      obtain ⟨i1, i2, i3, i4⟩ := items_inv hP.lr hE.2.1 hc
      have hE2 := tE_le i3
      have hs4 := i1.len hP.lr
      have hs5 := i1.2
      rw [m_isSign cB hl hr i3 cT ce (c := 59) (k := 3) (by omega), bnd_some]
      by_cases q3 : tK bs s.2 = 3
      · rw [if_neg (wb_pos q3), mf_0 ce (by decide), bnd_some, if_pos (by decide), e30', show (k : Int) + 1 = ((k + 1 : Nat) : Int) from rfl, m_many cG (by omega), bnd_some, show gR (gsR g (k + 1) s.1) (k + 1) = s.1 from up_self _ _ _, w32_of (x := (s.1.length : Int)) (by omega) (by omega)]
        by_cases ql : s.1.length = 1
        · rw [if_pos (by omega)]
          refine tr_call (mf_1 ce (by decide) (by decide)) ?_
          rintro x K ⟨rfl, b, f⟩
          rw [if_neg (by decide)]
          refine tr_ret ⟨?_, f12.trans (f.mono fem_q)⟩
          show OKMR K bs (match (if tK bs s.2 = 3 ∧ 2 ≤ s.1.length then some (gsL (gsR g (k + 1) s.1) k (ll (gL g) s.1), tE bs s.2) else none) with
            | none => none
            | some s => some (s.1, k + 1, s.2))
          rw [if_neg (fun z => by omega)]
          exact ERR.of b (by decide)
        · rw [if_neg (by omega), mf_0 ce (by decide), bnd_some, if_pos (by decide)]
          try dsimp only [ltI]
          rw [e30']
          have f3 : Fm (fun k i s => k = 26 ∧ i = 0 ∧ s = 30) J2 (sI J2 26 0 30 ((k : Int) + 1)) := Fm.sI (by decide) (by omega) (by omega) ⟨rfl, rfl, rfl⟩
          have a30 : (sI J2 26 0 30 ((k : Int) + 1)) 26 0 30 = ((k + 1 : Nat) : Int) := by rw [sI_self]; rfl
          generalize sI J2 26 0 30 ((k : Int) + 1) = J3 at f3 a30
          have hB3 : BfM J3 bs := cB.fm f3 (by omega) (fun s => by omega)
          have hT3 : TM J3 bs s.2 := cT.fm f3 (fun s _ _ => by omega)
          refine tr_call (tm_advS hB3 hl hr i3 hT3) ?_
          rintro _ J4 ⟨t4, e4, f4⟩
          refine tr_ret ⟨?_, f12.trans ((f3.mono (fun a b c z => Or.inr (by omega))).trans (f4.mono fmx_q))⟩
          show OKMR J4 bs (match (if tK bs s.2 = 3 ∧ 2 ≤ s.1.length then some (gsL (gsR g (k + 1) s.1) k (ll (gL g) s.1), tE bs s.2) else none) with
            | none => none
            | some s => some (s.1, k + 1, s.2))
          rw [if_pos ⟨q3, by omega⟩]
          refine ⟨hB3.mx f4, ?_, t4, ?_, ?_, hP.rl (bs := bs) (p := p) (by omega) i1 (by omega), hE2.2.1⟩
          · exact GW.congr ((cG.fm f3 (fun s _ z => by omega)).mx f4) (fun _ _ => rfl) rfl (fun _ _ => rfl) (fun _ _ => rfl)
          · rw [e4, f3.at (by decide) (by omega), ce]
          · rw [f4.at (by decide) (by unfold FMx; omega), a30]
      · rw [if_pos (wb_neg q3)]
        refine tr_call (mf_1 ce (by decide) (by decide)) ?_
        rintro x K ⟨rfl, b, f⟩
        rw [if_neg (by decide)]
        refine tr_ret ⟨?_, f12.trans (f.mono fem_q)⟩
        show OKMR K bs (match (if tK bs s.2 = 3 ∧ 2 ≤ s.1.length then some (gsL (gsR g (k + 1) s.1) k (ll (gL g) s.1), tE bs s.2) else none) with
          | none => none
          | some s => some (s.1, k + 1, s.2))
        rw [if_neg (fun z => q3 z.1)]
        exact ERR.of b (by decide)
theorem t_mrules (hl : bs.length ≤ 600) (hr : ∀ b ∈ bs, 1 ≤ b ∧ b ≤ 255) : ∀ (n k p : Nat) (g : GS) (I : Mem), k + n = 41 → p ≤ bs.length → PG g k → BfM I bs → GW I g → TM I bs p → I 26 0 25 = 0 → I 26 0 30 = (k : Int) → Tr (whl f_M_setup_w28 () I) (fun _ K => OKMR K bs (rls bs n g k p) ∧ Fm FSq I K) := by
  intro n
  induction n with
  | zero => intro k p g I h _ hP; have := hP.1; omega
  | succ n ih =>
    intro k p g I hkn hp hP hB hG hT he h30
    refine tr_step ?_
    have e0 : rls bs (n + 1) g k p = if wd bs p = 0 then (if k = 40 then none else (match rlN bs g k p with
      | none => none
      | some s => rls bs n s.1 (k + 1) s.2)) else some (g, k, p) := rfl
    rw [e0]
    unfold f_M_setup_w28
    rw [m_isKey hB hl hr hp hT he (i := 0) (by decide), bnd_some]
    by_cases q : wd bs p = 0
    · rw [if_neg (wb_pos q), if_pos q]
      refine tr_call (t_ruleLine hl hr hp hP hB hG hT he h30) ?_
      rintro _ J1 ⟨ok, f1⟩
      refine tr_ret ?_
      show Tr (whl f_M_setup_w28 () J1) _
      have fail : ERR J1 → Tr (whl f_M_setup_w28 () J1) (fun _ K => OKMR K bs none ∧ Fm FSq I K) := fun z => by
        rw [w28_err z.ne]
        exact tr_ret ⟨z, f1⟩
      by_cases q40 : k = 40
      · rw [if_pos q40] at ok ⊢
        exact fail ok
      · rw [if_neg q40] at ok ⊢
        cases hc : rlN bs g k p with
        | none =>
          rw [hc] at ok
          exact fail ok
        | some s =>
          rw [hc] at ok
          obtain ⟨sB, sG, sT, se, s30, sP, sp⟩ := ok
          refine tr_mono (ih (k + 1) s.2 s.1 J1 (by omega) sp sP sB sG sT se s30) ?_
          rintro _ K ⟨a, b⟩
          exact ⟨a, f1.trans b⟩
    · rw [if_pos (wb_neg q), if_neg q]
      exact tr_ret ⟨⟨hB, hG, hT, he, h30, hP, hp⟩, Fm.refl _ _⟩
/-- the reference's bits of what was told -/
def fbv (f : Nat → Bool) : Int := (if f 0 = true then 1 else 0) + (if f 1 = true then 2 else 0) + (if f 2 = true then 4 else 0)
theorem fbv_bit : ∀ (a b c : Bool) (j : Nat), j < 3 → w32 (ian (isr ((if a = true then 1 else 0) + (if b = true then 2 else 0) + (if c = true then 4 else 0)) ((j : Nat) : Int)) 1) = if ([a, b, c].getD j false) = true then 1 else 0 := by
  intro a b c j hj
  rcases (show j = 0 ∨ j = 1 ∨ j = 2 by omega) with rfl | rfl | rfl <;> cases a <;> cases b <;> cases c <;> decide +kernel
theorem fbv_or : ∀ (a b c : Bool) (j : Nat), j < 3 → ior ((if a = true then 1 else 0) + (if b = true then 2 else 0) + (if c = true then 4 else 0)) (ish 1 ((j : Nat) : Int)) = (if (if 0 = j then true else a) = true then 1 else 0) + (if (if 1 = j then true else b) = true then 2 else 0) + (if (if 2 = j then true else c) = true then 4 else 0) := by
  intro a b c j hj
  rcases (show j = 0 ∨ j = 1 ∨ j = 2 by omega) with rfl | rfl | rfl <;> cases a <;> cases b <;> cases c <;> decide +kernel
theorem fbv_b {f : Nat → Bool} {j : Nat} (hj : j < 3) : w32 (ian (isr (fbv f) (j : Int)) 1) = if f j = true then 1 else 0 := by
  have h := fbv_bit (f 0) (f 1) (f 2) j hj
  rcases (show j = 0 ∨ j = 1 ∨ j = 2 by omega) with rfl | rfl | rfl <;> exact h
theorem fbv_o {f : Nat → Bool} {j : Nat} (hj : j < 3) : ior (fbv f) (ish 1 (j : Int)) = fbv (fun m => if m = j then true else f m) := fbv_or (f 0) (f 1) (f 2) j hj
def OKMS (K : Mem) (bs : List Int) : Option (GS × (Nat → Bool) × Nat) → Prop
  | some s => BfM K bs ∧ GW K s.1 ∧ TM K bs s.2.2 ∧ K 26 0 25 = 0 ∧ K 26 0 28 = fbv s.2.1
  | none => ERR K
theorem m_least {j : Nat} (hj : j < 3) : f_M_leastOf (j : Int) I = some (wLow ([3, 4, 2].getD j 0), I) := by
  unfold f_M_leastOf
  rcases (show j = 0 ∨ j = 1 ∨ j = 2 by omega) with rfl | rfl | rfl
  · rw [if_pos (by decide)]; rfl
  · rw [if_neg (by decide)]; rfl
  · rw [if_neg (by decide)]; rfl
theorem m_most {j : Nat} (hj : j < 3) : f_M_mostOf (j : Int) I = some (wHig ([3, 4, 2].getD j 0), I) := by
  unfold f_M_mostOf
  rcases (show j = 0 ∨ j = 1 ∨ j = 2 by omega) with rfl | rfl | rfl
  · rw [if_pos (by decide)]; rfl
  · rw [if_neg (by decide), if_pos (by decide)]; rfl
  · rw [if_neg (by decide), if_neg (by decide)]; rfl
theorem t_mstm (hl : bs.length ≤ 600) (hr : ∀ b ∈ bs, 1 ≤ b ∧ b ≤ 255) {f : Nat → Bool} (hp : p ≤ bs.length) (hB : BfM I bs) (hG : GW I g) (hT : TM I bs p) (he : I 26 0 25 = 0) (h28 : I 26 0 28 = fbv f) : Tr (f_M_statement I) (fun _ K => OKMS K bs (stm bs g f p) ∧ Fm FSm I K) := by
  have hE := tE_le hp
  have hE2 := tE_le hE.2.1
  have bad : ∀ K : Mem, ERR K → ¬ ((wd bs p = 3 ∨ wd bs p = 4 ∨ wd bs p = 2) ∧ f (wj (wd bs p)) = false ∧ nbE bs (tE bs p) (wLow (wd bs p)) (wHig (wd bs p)) = 0) → OKMS K bs (stm bs g f p) := fun K hK hn => by
    unfold stm
    rw [if_neg hn]
    exact hK
  have j43 : ∀ j : Nat, j < 3 → wd bs p = [3, 4, 2].getD j 0 → Tr (f_M_statement_j43 (j : Int) I) (fun _ K => OKMS K bs (stm bs g f p) ∧ Fm FSm I K) := by
    intro j hj hw
    have hwj : wj (wd bs p) = j := by
      rw [hw]
      rcases (show j = 0 ∨ j = 1 ∨ j = 2 by omega) with rfl | rfl | rfl <;> rfl
    have hw3 : wd bs p = 3 ∨ wd bs p = 4 ∨ wd bs p = 2 := by
      rw [hw]
      rcases (show j = 0 ∨ j = 1 ∨ j = 2 by omega) with rfl | rfl | rfl <;> decide
    have hlo : 0 ≤ wLow (wd bs p) ∧ wLow (wd bs p) ≤ 1000 ∧ 0 ≤ wHig (wd bs p) ∧ wHig (wd bs p) ≤ 1000 := by
      rcases hw3 with z | z | z <;> rw [z] <;> decide
    unfold f_M_statement_j43
    rw [w32_of (x := (j : Int)) (by omega) (by omega), if_neg (by omega), mf_0 he (by decide), bnd_some, if_pos (by decide)]
    unfold f_M_isOnce
    rw [h28, fbv_b hj]
    by_cases qf : f j = true
    · rw [if_pos qf, if_pos rfl]
      refine tr_call (P := fun x K => x = 0 ∧ K 26 0 25 = 3 ∧ Fm FEm I K) ?_ ?_
      · refine tr_call (mf_1 he (by decide) (by decide)) ?_
        rintro x K ⟨rfl, b, f⟩
        rw [if_neg (by decide)]
        exact tr_ret ⟨rfl, b, f⟩
      · rintro x K ⟨rfl, b, fk⟩
        rw [if_pos (by decide)]
        refine tr_ret ⟨bad _ (ERR.of b (by decide)) (fun z => ?_), fk.mono fem_s⟩
        rw [hwj, qf] at z
        exact absurd z.2.1 (by decide)
    · have qf' : f j = false := by
        cases e : f j with
        | true => exact absurd e qf
        | false => rfl
      rw [if_neg qf, if_neg (by decide), mf_0 he (by decide), bnd_some, if_pos (by decide)]
      try dsimp only [ltI]
      rw [h28, fbv_o hj]
      have f1 : Fm (fun k i s => k = 26 ∧ i = 0 ∧ s = 28) I (sI I 26 0 28 (fbv (fun m => if m = j then true else f m))) := Fm.sI (by decide) (by omega) (by omega) ⟨rfl, rfl, rfl⟩
      have a28 : (sI I 26 0 28 (fbv (fun m => if m = j then true else f m))) 26 0 28 = fbv (fun m => if m = j then true else f m) := sI_self _ _ _ _ _
      generalize sI I 26 0 28 (fbv (fun m => if m = j then true else f m)) = J1 at f1 a28
      have hB1 : BfM J1 bs := hB.fm f1 (by omega) (fun s => by omega)
      have hT1 : TM J1 bs p := hT.fm f1 (fun s _ _ => by omega)
      refine tr_call (P := fun x K => x = 1 ∧ TM K bs (tE bs p) ∧ K 26 0 25 = 0 ∧ Fm FMx J1 K) ?_ ?_
      · refine tr_call (tm_advS hB1 hl hr hp hT1) ?_
        rintro _ K ⟨a, b, c⟩
        exact tr_ret ⟨rfl, a, by rw [b, f1.at (by decide) (by omega), he], c⟩
      · rintro x J2 ⟨rfl, t2, e2, f2⟩
        rw [if_neg (by decide), m_least hj, bnd_some, m_most hj, bnd_some, ← hw]
        refine tr_call (t_mnumber (hB1.mx f2) hl hr hE.2.1 t2 e2 ⟨hlo.1, hlo.2.1⟩ ⟨hlo.2.2.1, hlo.2.2.2⟩) ?_
        rintro x J3 ⟨n1, n2, f3⟩
        have f13 : Fm FSm I J3 := (f1.mono (fun a b c z => Or.inr (by omega))).trans ((f2.trans f3).mono fmx_s)
        rw [if_pos (by omega), Int.toNat_natCast]
        try dsimp only [ltI]
        refine tr_ret ⟨?_, f13.trans (sIW.mono (fun a b c z => Or.inl (Or.inl (Or.inl z))))⟩
        by_cases c1 : nbE bs (tE bs p) (wLow (wd bs p)) (wHig (wd bs p)) = 0
        · obtain ⟨v1, v2, v3⟩ := n1 c1
          have hG3 : GW J3 g := ((hG.fm f1 (fun s _ z => by omega)).mx f2).mx f3
          unfold stm
          rw [if_pos ⟨hw3, by rw [hwj]; exact qf', c1⟩, hwj, v1]
          refine ⟨(hB.ss f13).fm sIW (by unfold FW; omega) (fun s => by unfold FW; omega), hG3.num hj, v2.fm sIW (fun s _ _ => by unfold FW; omega), ?_, ?_⟩
          · rw [sI_ne (by omega)]; exact v3
          · rw [sI_ne (by omega), (f2.trans f3).at (by decide) (by unfold FMx; omega), a28]
        · refine bad _ ?_ (fun z => c1 z.2.2)
          refine ERR.of (by rw [sI_ne (by omega), n2 c1]) ?_
          unfold nbE at c1 ⊢
          by_cases z : tK bs (tE bs p) ≠ 2
          · rw [if_pos z]; decide
          · rw [if_neg z] at c1 ⊢
            by_cases z2 : wLow (wd bs p) ≤ nV bs (tE bs p) ∧ nV bs (tE bs p) ≤ wHig (wd bs p)
            · rw [if_pos z2] at c1; exact absurd rfl c1
            · rw [if_neg z2]; decide
  unfold f_M_statement
  rw [m_isKey hB hl hr hp hT he (i := 3) (by decide), bnd_some]
  by_cases q3 : wd bs p = 3
  · rw [if_neg (wb_pos q3)]
    exact j43 0 (by decide) q3
  · rw [if_pos (wb_neg q3), m_isKey hB hl hr hp hT he (i := 4) (by decide), bnd_some]
    by_cases q4 : wd bs p = 4
    · rw [if_neg (wb_pos q4)]
      exact j43 1 (by decide) q4
    · rw [if_pos (wb_neg q4), m_isKey hB hl hr hp hT he (i := 2) (by decide), bnd_some]
      by_cases q2 : wd bs p = 2
      · rw [if_neg (wb_pos q2)]
        exact j43 2 (by decide) q2
      · rw [if_pos (wb_neg q2)]
        unfold f_M_statement_j43
        rw [if_pos (by decide)]
        refine tr_call (mf_1 he (by decide) (by decide)) ?_
        rintro x K ⟨rfl, b, fk⟩
        rw [if_neg (by decide)]
        exact tr_ret ⟨bad _ (ERR.of b (by decide)) (fun z => by omega), fk.mono fem_s⟩
theorem w89_err (he : w32 (I 26 0 25) ≠ 0) : whl f_M_setup_w89 () I = some ((), I) := by
  rw [whl_eq]
  unfold f_M_setup_w89
  rw [m_isSignE he, bnd_some, if_pos (by decide)]
def OKML (K : Mem) (bs : List Int) : Option GS → Prop
  | some g => BfM K bs ∧ GW K g ∧ TG g ∧ K 26 0 25 = 0 ∧ w32 (K 26 0 23) = 0
  | none => ERR K ∨ (K 26 0 25 = 0 ∧ w32 (K 26 0 23) ≠ 0)
theorem t_mstms (hl : bs.length ≤ 600) (hr : ∀ b ∈ bs, 1 ≤ b ∧ b ≤ 255) : ∀ (n p : Nat) (g : GS) (f : Nat → Bool) (I : Mem), p ≤ bs.length → bs.length - p < n → TG g → BfM I bs → GW I g → TM I bs p → I 26 0 25 = 0 → I 26 0 28 = fbv f → Tr (whl f_M_setup_w89 () I) (fun _ K => OKML K bs (sts bs n g f p) ∧ Fm FSm I K) := by
  intro n
  induction n with
  | zero => intro p g f I _ h; omega
  | succ n ih =>
    intro p g f I hp hn hW hB hG hT he h28
    have hE := tE_le hp
    refine tr_step ?_
    have e0 : sts bs (n + 1) g f p = if tK bs p = 0 then some g else if tK bs p = 3 then (match stm bs g f (tE bs p) with
      | none => none
      | some s => sts bs n s.1 s.2.1 s.2.2) else none := rfl
    rw [e0]
    unfold f_M_setup_w89
    rw [m_isSign hB hl hr hp hT he (c := 59) (k := 3) (by omega), bnd_some]
    by_cases q3 : tK bs p = 3
    · have hgt := tE_gt (bs := bs) (p := p) (by omega) hp
      rw [if_neg (wb_pos q3), if_neg (by omega), if_pos q3]
      refine tr_call (tm_advS hB hl hr hp hT) ?_
      rintro _ J1 ⟨t1, e1, f1⟩
      refine tr_call (t_mstm hl hr hE.2.1 (hB.mx f1) (hG.mx f1) t1 (e1.trans he) (f := f) (by rw [f1.at (by decide) (by unfold FMx; omega)]; exact h28)) ?_
      rintro _ J2 ⟨ok, f2⟩
      have f12 := (f1.mono fmx_s).trans f2
      refine tr_ret ?_
      show Tr (whl f_M_setup_w89 () J2) _
      cases hc : stm bs g f (tE bs p) with
      | none =>
        rw [hc] at ok
        have ok : ERR J2 := ok
        rw [w89_err ok.ne]
        exact tr_ret ⟨Or.inl ok, f12⟩
      | some s =>
        rw [hc] at ok
        obtain ⟨sB, sG, sT, se, s28⟩ := ok
        obtain ⟨w1, w2, w3⟩ := hW.stmP hE.2.1 hc
        refine tr_mono (ih s.2.2 s.1 s.2.1 J2 w3 (by omega) w1 sB sG sT se s28) ?_
        rintro _ K ⟨a, b⟩
        exact ⟨a, f12.trans b⟩
    · rw [if_pos (wb_neg q3)]
      refine tr_ret ?_
      show OKML I bs _ ∧ Fm FSm I I
      by_cases q0 : tK bs p = 0
      · rw [if_pos q0]
        exact ⟨⟨hB, hG, hW, he, by rw [hT.1]; exact (km_0 bs p).mpr q0⟩, Fm.refl _ _⟩
      · rw [if_neg q0, if_neg q3]
        exact ⟨Or.inr ⟨he, by rw [hT.1]; exact fun z => q0 ((km_0 bs p).mp z)⟩, Fm.refl _ _⟩
/-- the text is told -/
theorem t_tellsG (h : GW I g) (w : PWF g) : Tr (f_M_tellsText I) (fun _ J => GW J (gBegin g (gTx g)) ∧ Fm FMC I J) := by
  have hlen := gTx_lenP w
  have h4 := w.2.2
  unfold f_M_tellsText
  refine tr_call (t_munfoldsP h w) ?_
  rintro x J0 ⟨rfl, hU, f0⟩
  try dsimp only [ltI]
  have hG0 : GW J0 g := h.fm f0 (fun s _ z => by unfold FUN at z; omega)
  have f1 : Fm FWT J0 (sI J0 27 0 3 ((gTx g).length : Int)) := Fm.sI (by decide) (by omega) (by omega) ⟨rfl, rfl, Or.inl rfl⟩
  have a3 : (sI J0 27 0 3 ((gTx g).length : Int)) 27 0 3 = ((gTx g).length : Int) := sI_self _ _ _ _ _
  have a7 : ∀ q : Nat, q < (gTx g).length → (sI J0 27 0 3 ((gTx g).length : Int)) 27 7 q = (gTx g).getD q (-1) := fun q hq => by rw [sI_ne (by omega)]; exact (hU q hq).1
  generalize sI J0 27 0 3 ((gTx g).length : Int) = J1 at f1 a3 a7
  refine tr_call (P := fun _ K => (∀ j : Nat, j < (gTx g).length → K 27 0 (16460 + j) = (gTx g).getD j (-1)) ∧ K 27 0 3 = ((gTx g).length : Int) ∧ Fm FWT J1 K) (tr_cnt (fun j => (j : Int)) (fun k K => (∀ j : Nat, j < k → K 27 0 (16460 + j) = (gTx g).getD j (-1)) ∧ K 27 0 3 = ((gTx g).length : Int) ∧ Fm FWT J1 K) (gTx g).length rfl ⟨fun j hj => absurd hj (by omega), a3, Fm.refl _ _⟩ ?_ ?_) ?_
  · rintro k K hk ⟨b1, b2, f⟩
    unfold f_M_tellsText_w12
    rw [b2, w32_of (x := (k : Int)) (by omega) (by omega), w32_of (x := ((gTx g).length : Int)) (by omega) (by omega), if_pos (by omega), if_pos (by omega), w32_of (x := 16460 + (k : Int)) (by omega) (by omega), if_pos (by omega), Int.toNat_natCast, show (16460 + (k : Int)).toNat = 16460 + k by omega]
    try dsimp only [ltI]
    refine tr_ret ⟨rfl, fun j hj => ?_, by rw [sI_ne (by omega)]; exact b2, f.trans (Fm.sI (by decide) (by omega) (by omega) ⟨rfl, rfl, Or.inr (by omega)⟩)⟩
    by_cases q : j = k
    · rw [q, sI_self, f.at (by decide) (by unfold FWT; omega)]
      exact a7 k hk
    · rw [sI_ne (by omega)]
      exact b1 j (by omega)
  · rintro K ⟨b1, b2, f⟩
    unfold f_M_tellsText_w12
    rw [b2, w32_of (x := ((gTx g).length : Int)) (by omega) (by omega), if_neg (by omega)]
    exact tr_ret ⟨b1, b2, f⟩
  · rintro _ K ⟨b1, b2, f⟩
    have hT : GW K (gsT g (gTx g)) := GW.told (l := gTx g) hG0 (by omega) b2 b1 (f1.trans f)
    rw [m_rules hT, bnd_some]
    try dsimp only [ltI]
    refine tr_ret ⟨hT.first, (f0.mono (fun a b c z => by unfold FUN at z; exact Or.inr z)).trans (((f1.trans f).mono (fun a b c z => Or.inl ⟨z.1, z.2.1⟩)).trans (sIW.mono (fun a b c z => Or.inl z)))⟩
abbrev FSt : FP := fun k i s => FSm k i s ∨ FMC k i s
theorem t_msetup (hl : bs.length ≤ 600) (hr : ∀ b ∈ bs, 1 ≤ b ∧ b ≤ 255) (hB : BfM I bs) : Tr (f_M_setup I) (fun _ K => (match setP bs with
    | some g => K 26 0 25 = 0 ∧ GW K (gBegin g (gTx g)) ∧ TG g
    | none => ERR K) ∧ Fm FSt I K) := by
  unfold f_M_setup
  try dsimp only [ltI]
  have f1 : Fm FSt I (sI (sI (sI (sI I 26 0 22 0) 26 0 25 0) 26 0 28 0) 26 0 30 0) := (((Fm.sI (by decide) (by omega) (by omega) (Or.inl (fmx_s _ _ _ ⟨rfl, rfl, by omega, by omega⟩))).trans (Fm.sI (by decide) (by omega) (by omega) (Or.inl (fmx_s _ _ _ ⟨rfl, rfl, by omega, by omega⟩)))).trans (Fm.sI (by decide) (by omega) (by omega) (Or.inl (Or.inr ⟨rfl, rfl, by omega⟩)))).trans (Fm.sI (by decide) (by omega) (by omega) (Or.inl (Or.inr ⟨rfl, rfl, by omega⟩)))
  have a22 : (sI (sI (sI (sI I 26 0 22 0) 26 0 25 0) 26 0 28 0) 26 0 30 0) 26 0 22 = ((0 : Nat) : Int) := by rw [sI_ne (by omega), sI_ne (by omega), sI_ne (by omega), sI_self]; rfl
  have a25 : (sI (sI (sI (sI I 26 0 22 0) 26 0 25 0) 26 0 28 0) 26 0 30 0) 26 0 25 = 0 := by rw [sI_ne (by omega), sI_ne (by omega), sI_self]
  have a28 : (sI (sI (sI (sI I 26 0 22 0) 26 0 25 0) 26 0 28 0) 26 0 30 0) 26 0 28 = 0 := by rw [sI_ne (by omega), sI_self]
  have a30 : (sI (sI (sI (sI I 26 0 22 0) 26 0 25 0) 26 0 28 0) 26 0 30 0) 26 0 30 = ((0 : Nat) : Int) := sI_self _ _ _ _ _
  have hB1 : BfM (sI (sI (sI (sI I 26 0 22 0) 26 0 25 0) 26 0 28 0) 26 0 30 0) bs := (((hB.m22 (by decide)).m22 (by decide)).m22 (by decide)).m22 (by decide)
  generalize sI (sI (sI (sI I 26 0 22 0) 26 0 25 0) 26 0 28 0) 26 0 30 0 = J1 at f1 a22 a25 a28 a30 hB1
  refine tr_call t_begins ?_
  rintro _ J2 ⟨hG2, f2⟩
  have k2 : ∀ s : Nat, J2 26 0 s = J1 26 0 s := fun s => f2.at (by decide) (by unfold FW; omega)
  have hB2 : BfM J2 bs := hB1.fm f2 (by unfold FW; omega) (fun s => by unfold FW; omega)
  refine tr_call (tm_adv hB2 hl hr (p := 0) (Nat.zero_le _) (by rw [k2]; exact a22)) ?_
  rintro _ J3 ⟨t3, f3⟩
  have f13 : Fm FSt I J3 := f1.trans ((f2.mono (fun a b c z => Or.inl (Or.inl (Or.inl (Or.inl z))))).trans (f3.mono (fun a b c z => Or.inl (fmx_s _ _ _ (fam_mx _ _ _ z)))))
  have k3 : ∀ s : Nat, 24 < s → J3 26 0 s = J1 26 0 s := fun s hs => by rw [f3.at (by decide) (by unfold FAm; omega), k2]
  refine tr_call (t_mrules hl hr 41 0 0 g0 J3 rfl (Nat.zero_le _) g0_pg (hB2.mx (f3.mono fam_mx)) (hG2.mx (f3.mono fam_mx)) t3 (by rw [k3 _ (by decide)]; exact a25) (by rw [k3 _ (by decide)]; exact a30)) ?_
  rintro _ J4 ⟨ok, f4⟩
  have f14 : Fm FSt I J4 := f13.trans (f4.mono (fun a b c z => Or.inl (fsq_s _ _ _ z)))
  unfold setP
  cases hc : rls bs 41 g0 0 0 with
  | none =>
    rw [hc] at ok
    have ok : ERR J4 := ok
    rw [if_neg ok.ne]
    exact tr_ret ⟨ok, f14⟩
  | some s =>
    rw [hc] at ok
    obtain ⟨sB, sG, sT, se, s30, sP, sp⟩ := ok
    have hE := tE_le sp
    show Tr _ (fun _ K => (match (match stP bs s.1 s.2.1 s.2.2 with
        | none => none
        | some t => sts bs 601 t.1 (fun _ => false) t.2) with
      | some g => K 26 0 25 = 0 ∧ GW K (gBegin g (gTx g)) ∧ TG g
      | none => ERR K) ∧ Fm FSt I K)
    rw [se, if_pos (by decide), m_isKey sB hl hr sp sT se (i := 1) (by decide), bnd_some]
    unfold stP
    by_cases q1 : wd bs s.2.2 = 1
    · rw [if_neg (wb_pos q1), mf_0 se (by decide), bnd_some, if_pos (by decide), if_pos q1]
      refine tr_call (tm_advS sB hl hr sp sT) ?_
      rintro _ J5 ⟨t5, e5, f5⟩
      have e30 : J5 26 0 30 = (s.2.1 : Int) := by rw [f5.at (by decide) (by unfold FMx; omega)]; exact s30
      have a28' : J5 26 0 28 = 0 := by
        rw [f5.at (by decide) (by unfold FMx; omega), f4.at (by decide) (by unfold FSq FRn FRq FW FMx FL; omega), k3 _ (by decide)]
        exact a28
      rw [e30, show (0 : Int) = ((0 : Nat) : Int) from rfl]
      refine tr_call (t_mitems hl hr sP.lr (i := 0) (by omega) hE.2.1 (sB.mx f5) (sG.mx f5) sP.wp sP.ne sP.2.2.2.1 t5 (e5.trans se)) ?_
      rintro _ J6 ⟨ok, f6⟩
      have f16 : Fm FSt I J6 := f14.trans ((f5.mono (fun a b c z => Or.inl (fmx_s _ _ _ z))).trans (f6.mono (fun a b c z => Or.inl (frn_s _ _ _ z))))
      have b28 : J6 26 0 28 = fbv (fun _ => false) := by rw [f6.at (by decide) (by unfold FRn FRq FW FMx FL; omega), a28']; rfl
      -- the end of it
      have fin : ∀ (o : Option GS) (K : Mem), Fm FSt I K → OKML K bs o → Tr (bnd (f_M_faulty (if w32 (K 26 0 23) = 0 then 0 else 1) 1 K) fun x79 J78 => if x79 = 0 ∨ x79 = 1 then ltI (sI J78 26 0 31 x79) fun J80 => if w32 (J80 26 0 25) = 0 then bnd (f_M_tellsText J80) fun _ J83 => some ((), J83) else some ((), J80) else none) (fun _ K => (match o with
          | some g => K 26 0 25 = 0 ∧ GW K (gBegin g (gTx g)) ∧ TG g
          | none => ERR K) ∧ Fm FSt I K) := by
        intro o K fK hK
        have s31 : ∀ (M : Mem) (v : Int), Fm FSt M (sI M 26 0 31 v) := fun M v => Fm.sI (by decide) (by omega) (by omega) (Or.inl (Or.inr ⟨rfl, rfl, by omega⟩))
        cases o with
        | some g =>
          obtain ⟨kB, kG, kW, ke, k23⟩ := hK
          rw [if_pos k23, mf_0 ke (by decide), bnd_some, if_pos (Or.inl rfl)]
          try dsimp only [ltI]
          have e25 : (sI K 26 0 31 0) 26 0 25 = 0 := by rw [sI_ne (by omega)]; exact ke
          rw [e25, if_pos (by decide)]
          have hG31 : GW (sI K 26 0 31 0) g := GWf.congr kG (fun s hs => sI_ne (by omega))
          refine tr_call (t_tellsG hG31 kW.1) ?_
          rintro _ M ⟨hGM, fM⟩
          exact tr_ret ⟨⟨by rw [fM.at (by decide) (by unfold FMC FW; omega)]; exact e25, hGM, kW⟩, fK.trans ((s31 _ _).trans (fM.mono (fun a b c z => Or.inr z)))⟩
        | none =>
          have done : ∀ M : Mem, Fm FSt I M → ERR M → Tr (ltI (sI M 26 0 31 1) fun J80 => if w32 (J80 26 0 25) = 0 then bnd (f_M_tellsText J80) fun _ J83 => some ((), J83) else some ((), J80)) (fun _ K => ERR K ∧ Fm FSt I K) := fun M fM hM => by
            try dsimp only [ltI]
            have e25 : (sI M 26 0 31 1) 26 0 25 = M 26 0 25 := sI_ne (by omega)
            rw [e25, if_neg hM.ne]
            exact tr_ret ⟨by unfold ERR; rw [e25]; exact hM, fM.trans (s31 _ _)⟩
          by_cases z : ERR K
          · rw [mf_E z.ne, bnd_some, if_pos (Or.inr rfl)]
            exact done K fK z
          · have hK : ERR K ∨ (K 26 0 25 = 0 ∧ w32 (K 26 0 23) ≠ 0) := hK
            obtain ⟨ke, k23⟩ := hK.resolve_left z
            rw [if_neg k23]
            refine tr_call (mf_1 ke (by decide) (by decide)) ?_
            rintro x M ⟨rfl, b, f⟩
            rw [if_pos (Or.inr rfl)]
            exact done M (fK.trans (f.mono (fun a b c z => Or.inl (fem_s _ _ _ z)))) (ERR.of b (by decide))
      cases hc2 : items bs (gL s.1) s.2.1 (tE bs s.2.2) with
      | none =>
        rw [hc2] at ok
        have ok : ERR J6 := ok
        rw [w89_err ok.ne, bnd_some]
        exact fin none J6 f16 (Or.inl ok)
      | some t =>
        rw [hc2] at ok
        obtain ⟨cB, cG, cT, ce, c29, c5⟩ := ok
        obtain ⟨i1, i2, i3, i4⟩ := items_inv sP.lr hE.2.1 hc2
        show Tr _ (fun _ K => (match sts bs 601 (gsR s.1 0 t.1) (fun _ => false) t.2 with
          | some g => K 26 0 25 = 0 ∧ GW K (gBegin g (gTx g)) ∧ TG g
          | none => ERR K) ∧ Fm FSt I K)
        refine tr_call (t_mstms hl hr 601 t.2 (gsR s.1 0 t.1) (fun _ => false) J6 i3 (by omega) (sP.tg hE.2.1 hc2) cB cG cT ce b28) ?_
        rintro _ J7 ⟨ok, f7⟩
        exact fin _ J7 (f16.trans (f7.mono (fun a b c z => Or.inl z))) ok
    · rw [if_pos (wb_neg q1), if_neg q1]
      refine tr_call (mf_1 se (by decide) (by decide)) ?_
      rintro x K ⟨rfl, b, f⟩
      rw [if_neg (by decide)]
      refine tr_ret ⟨?_, f14.trans (f.mono (fun a b c z => Or.inl (fem_s _ _ _ z)))⟩
      exact ERR.of b (by decide)
end MSETUP
