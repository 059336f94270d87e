/-! ===== calls one by one: report, feed ===== -/
section OPS6
variable {I J : Mem} {g : GS}
/-- a call of the class that grows nothing -/
theorem CP_c {F : FP} (f : Fm F I J) (hF : ∀ k i s : Nat, F k i s → k < 26 ∧ ¬ (k = 2 ∧ s = 2) ∧ ¬ (k = 10 ∧ s = 2)) : CP I J := by
  have h2 : ∀ r : Nat, J 2 r 2 = I 2 r 2 := fun r => f.at (by decide) (fun z => (hF _ _ _ z).2.1 ⟨rfl, rfl⟩)
  have h10 : J 10 0 2 = I 10 0 2 := f.at (by decide) (fun z => (hF _ _ _ z).2.2 ⟨rfl, rfl⟩)
  have hc : Cap J = Cap I := by
    unfold Cap
    rw [h10, show (fun r : Nat => J 2 r 2) = fun r => I 2 r 2 from funext h2]
  have g := f.2
  unfold Gr at g
  refine ⟨fun k i s h1 h2 => f.at (by omega) (fun z => by have := (hF _ _ _ z).1; omega), ⟨g.1, g.2.1⟩, ?_, ?_⟩
  · unfold dC; omega
  · unfold dS; omega
abbrev FRep : FP := fun k _ s => k = 25 ∨ (k = 10 ∧ s = 1)
abbrev FMR : FP := fun k i s => (k = 27 ∧ i = 22) ∨ (k = 26 ∧ s = 43)
theorem ok_34 (hI : FS I) : ∃ (r1 r2 : Int) (J K : Mem), f_PR_report I = some (r1, J) ∧ f_M_report J = some (r2, K) ∧ w32 r1 = w32 r2 ∧ dC I K ≤ 210600 ∧ dS I K ≤ 631700 := by
  refine ok_I (u := 1) ?_ (fun J cp => m7_I ?_)
  · have f1 : Fm FRep I (sI I 10 0 1 0) := Fm.sI (by decide) (by omega) (by omega) (Or.inr ⟨rfl, rfl⟩)
    have e1 : (sI I 10 0 1 0) 10 0 1 = 0 := sI_self _ _ _ _ _
    generalize hJ1 : sI I 10 0 1 0 = J1 at f1 e1
    have e2 : J1 10 0 2 = 64 := (f1.at (by decide) (by decide)).trans hI.h10
    have gc : GC J1 0 gF := hI.1.fm f1 (fun k i s z q => by unfold FG at z; unfold FRep at q; omega)
    have r0 : RW J1 0 [0] := gc.2.1 0 (by decide)
    have ep : ∀ v : Int, f_Rep_put v J1 = some ((), sI (sI J1 25 0 0 (i2b v)) 10 0 1 ((sI J1 25 0 0 (i2b v)) 10 0 1 + 1)) := fun v => by
      unfold f_Rep_put f_Rep_put_j51
      rw [e2, e1, if_pos (by decide), if_pos (by decide), if_pos (by decide), if_pos (by decide), if_pos (by decide)]
      rfl
    obtain ⟨J2, ep2, e12, f2⟩ : ∃ J2 : Mem, f_Rep_put (97 + 0) J1 = some ((), J2) ∧ J2 10 0 1 = 1 ∧ Fm FRep J1 J2 := by
      refine ⟨_, ep _, by rw [sI_self, sI_ne (by decide), e1]; rfl, (Fm.sI (by decide) (by omega) (by omega) (Or.inl rfl)).trans (Fm.sI (by decide) (by omega) (by omega) (Or.inr ⟨rfl, rfl⟩))⟩
    have gc2 : GC J2 0 gF := gc.fm f2 (fun k i s z q => by unfold FG at z; unfold FRep at q; omega)
    have r02 : RW J2 0 [0] := gc2.2.1 0 (by decide)
    have er : f_Rep_putRow 0 J1 = some ((), J2) := by
      unfold f_Rep_putRow
      rw [if_pos (by decide), whl_eq]
      have s1 : f_Rep_putRow_w2 0 0 J1 = some (.inl (0 + 1), J2) := by
        have ec : J1 2 0 1 = 1 := r0.2.1
        unfold f_Rep_putRow_w2
        rw [ec, if_pos (by decide), row_atI r0 (by decide) (by decide), bnd_some]
        show (if w32 0 < 26 then bnd (f_Rep_put (97 + 0) J1) _ else _) = _
        rw [if_pos (by decide), ep2]
        rfl
      rw [s1]
      dsimp only
      rw [whl_eq]
      have s2 : f_Rep_putRow_w2 0 (0 + 1) J2 = some (.inr (), J2) := by
        have ec : J2 2 0 1 = 1 := r02.2.1
        unfold f_Rep_putRow_w2
        rw [ec, if_neg (by decide)]
      rw [s2]
      rfl
    have ew : whl (f_Rep_writeOf_w15 0) 0 J2 = some ((), J2) := by
      refine whl_ro (fun k => (k : Int)) 40 rfl (fun k hk => ?_) ?_
      · unfold f_Rep_writeOf_w15
        rw [w32_of (by omega) (by omega), if_pos (by omega), g_hasRule gc2 hk, bI_neg (fun z => z (gF_Rs _)), bnd_some, if_pos (by decide), Int.natCast_succ]
      · unfold f_Rep_writeOf_w15
        rw [if_neg (by decide)]
    have e12' : f_Rep_writeOf 0 I = some ((), J2) := by
      unfold f_Rep_writeOf
      rw [if_pos (by decide)]
      show bnd (f_Rep_putRow 0 (sI I 10 0 1 0)) _ = _
      rw [hJ1, er, bnd_some, ew]
      rfl
    unfold f_PR_report
    rw [e12', bnd_some, e12]
    exact tr_ret ⟨by decide, CP_c (f1.trans f2) (fun k i s z => by unfold FRep at z; omega)⟩
  · have gw := (hI.2.2.1.cp cp).t0 (v := 0)
    have f1 : Fm FM7 (sI J 26 0 7 0) (sI (sI J 26 0 7 0) 26 0 43 0) := Fm.sI (by decide) (by omega) (by omega) (Or.inr (Or.inr ⟨rfl, by decide⟩))
    have e1 : (sI (sI J 26 0 7 0) 26 0 43 0) 26 0 43 = 0 := sI_self _ _ _ _ _
    have g1 : GW (sI (sI J 26 0 7 0) 26 0 43 0) gF := GWf.congr gw (fun s _ => sI_ne (by omega))
    unfold f_M_report
    try dsimp only [ltI]
    generalize sI (sI J 26 0 7 0) 26 0 43 0 = J1 at f1 e1 g1
    obtain ⟨J2, ew, e2, f2⟩ : ∃ J2 : Mem, f_M_writes (97 + 0) J1 = some ((), J2) ∧ J2 26 0 43 = 1 ∧ Fm FMR J1 J2 := by
      refine ⟨sI (sI J1 27 22 0 (97 + 0)) 26 0 43 ((sI J1 27 22 0 (97 + 0)) 26 0 43 + 1), ?_, by rw [sI_self, sI_ne (by decide), e1]; rfl, (Fm.sI (by decide) (by omega) (by omega) (Or.inl ⟨rfl, rfl⟩)).trans (Fm.sI (by decide) (by omega) (by omega) (Or.inr ⟨rfl, rfl⟩))⟩
      unfold f_M_writes
      rw [e1, if_pos (by decide)]
      rfl
    have g2 : GW J2 gF := g1.fm f2 (fun s _ z => by unfold FMR at z; omega)
    have er : f_M_writesRow 0 J1 = some ((), J2) := by
      unfold f_M_writesRow
      rw [whl_eq]
      have s1 : f_M_writesRow_w2 0 0 J1 = some (.inl (0 + 1), J2) := by
        unfold f_M_writesRow_w2
        rw [m_many0 (g1.1 0 (by decide)).1, bnd_some, if_pos (by decide)]
        have ea : f_M_at 0 0 J1 = some (0, J1) := m_at g1 (i := 0) (j := 0) (by decide) (by decide)
        rw [ea, bnd_some, if_pos (by decide), ew]
        rfl
      rw [s1]
      dsimp only
      rw [whl_eq]
      have s2 : f_M_writesRow_w2 0 (0 + 1) J2 = some (.inr (), J2) := by
        unfold f_M_writesRow_w2
        rw [m_many0 (g2.1 0 (by decide)).1, bnd_some, if_neg (by decide)]
      rw [s2]
      rfl
    have el : whl f_M_report_w17 0 J2 = some ((), J2) := by
      refine whl_ro (fun k => (k : Int)) 40 rfl (fun k hk => ?_) ?_
      · unfold f_M_report_w17
        rw [w32_of (by omega) (by omega), if_pos (by omega), m_isHere0 g2 hk, bnd_some, if_pos (by decide), Int.natCast_succ]
      · unfold f_M_report_w17
        rw [if_neg (by decide)]
    rw [er, bnd_some, el, bnd_some, e2]
    exact tr_ret ⟨by decide, f1.trans (f2.mono (fun a b c z => by unfold FMR at z; unfold FM7; omega))⟩
theorem bv255 (x : BitVec 32) (n : Nat) (h : n ≤ 24) : (x >>> n) &&& 255#32 = (x.sshiftRight n) &&& 255#32 := by
  apply BitVec.eq_of_getLsbD_eq
  intro i hi
  rw [BitVec.getLsbD_and, BitVec.getLsbD_and, BitVec.getLsbD_ushiftRight, BitVec.getLsbD_sshiftRight]
  by_cases q : i < 8
  · have h2 : n + i < 32 := by omega
    rw [if_pos h2, decide_eq_false (by omega : ¬ 32 ≤ i)]
    rfl
  · have e : ∀ i : Nat, i < 32 → ¬ i < 8 → (255#32).getLsbD i = false := by decide
    rw [e i hi q, Bool.and_false, Bool.and_false]
theorem by_eq (v : Int) {k : Nat} (hk : k < 4) : ian (ius v (24 - 8 * (k : Int))) 255 = ian (isr v (24 - 8 * (k : Int))) 255 := by
  unfold ian ius isr
  rw [Int32.ofInt_toInt, Int32.ofInt_toInt]
  refine congrArg Int32.toInt (Int32.toBitVec_inj.mp ?_)
  rcases (show k = 0 ∨ k = 1 ∨ k = 2 ∨ k = 3 by omega) with rfl | rfl | rfl | rfl
  · exact bv255 _ 24 (by decide)
  · exact bv255 _ 16 (by decide)
  · exact bv255 _ 8 (by decide)
  · exact bv255 _ 0 (by decide)
theorem by_0 (v : Int) : ian (isr v (24 - 8 * ((3 : Nat) : Int))) 255 = ian v 255 := by
  unfold ian isr
  rw [Int32.ofInt_toInt]
  refine congrArg Int32.toInt (Int32.toBitVec_inj.mp ?_)
  exact (bv255 (Int32.ofInt v).toBitVec 0 (by decide)).symm.trans rfl
theorem by_nn (v : Int) : 0 ≤ ian v 255 := by
  unfold ian
  have h : ((Int32.ofInt v).toBitVec &&& 255#32).msb = false := by
    rw [BitVec.msb_and]
    exact Bool.and_false _
  show 0 ≤ ((Int32.ofInt v).toBitVec &&& 255#32).toInt
  rw [BitVec.toInt_eq_toNat_of_msb h]
  exact Int.natCast_nonneg _
theorem wx (x : Int32) : w32 x.toInt = x.toInt := by rw [← w_toInt, Int32.ofInt_toInt]
abbrev byK (v : Int) (k : Nat) : Int := ian (isr v (24 - 8 * (k : Int))) 255
theorem by_w (v : Int) (k : Nat) : w32 (byK v k) = byK v k := wx _
def nbk (v : Int) : Nat → Nat
  | 0 => 0
  | k + 1 => nbk v k + (if byK v k = 0 then 0 else 1)
theorem nbk_s (v : Int) (k : Nat) : ((nbk v (k + 1) : Nat) : Int) = (nbk v k : Int) + (if byK v k = 0 then 0 else 1) := by
  show ((nbk v k + (if byK v k = 0 then 0 else 1) : Nat) : Int) = _
  by_cases q : byK v k = 0
  · rw [if_pos q, if_pos q]; rfl
  · rw [if_neg q, if_neg q]; rfl
theorem nbk_le (v : Int) : ∀ k : Nat, nbk v k ≤ k
  | 0 => Nat.le_refl 0
  | k + 1 => by
    have := nbk_le v k
    show nbk v k + (if byK v k = 0 then 0 else 1) ≤ k + 1
    split <;> omega
theorem s_bytesIn (v : Int) (J : Mem) : f_Src_bytesIn v J = some ((nbk v 4 : Int), J) := by
  have h : whl (f_Src_bytesIn_w5 v) (0, 24) J = some ((nbk v 4 : Int), J) := by
    refine whl_ro (fun k => ((nbk v k : Int), 24 - 8 * (k : Int))) 4 rfl (fun k hk => ?_) ?_
    · unfold f_Src_bytesIn_w5
      show (if w32 (24 - 8 * (k : Int)) < 0 then _ else some (Sum.inl ((nbk v k : Int) + (if w32 (ian (ius v (24 - 8 * (k : Int))) 255) = 0 then 0 else 1), 24 - 8 * (k : Int) + (-8)), J)) = _
      rw [w32_of (by omega) (by omega), if_neg (by omega), by_eq v hk, by_w, nbk_s, Int.natCast_succ, show 24 - 8 * (k : Int) + (-8) = 24 - 8 * ((k : Int) + 1) by omega]
    · unfold f_Src_bytesIn_w5
      show (if w32 (24 - 8 * ((4 : Nat) : Int)) < 0 then _ else _) = _
      rw [if_pos (by decide)]
  unfold f_Src_bytesIn
  rw [h]
  rfl
theorem bI_by (v : Int) (k : Nat) : bI (0 < w32 (byK v k)) = if byK v k = 0 then 0 else 1 := by
  have h := by_nn (isr v (24 - 8 * (k : Int)))
  rw [by_w]
  by_cases q : byK v k = 0
  · rw [if_pos q, bI_neg (by omega)]
  · rw [if_neg q, bI_pos (by show 0 < ian _ 255; have q' : ¬ ian (isr v (24 - 8 * (k : Int))) 255 = 0 := q; omega)]
theorem m_bytesIn (v : Int) (J : Mem) : f_M_bytesIn v J = some ((nbk v 4 : Int), J) := by
  have e3 : ian v 255 = byK v 3 := (by_0 v).symm
  unfold f_M_bytesIn
  rw [e3, m_oneI, bnd_some, m_oneI, bnd_some, m_oneI, bnd_some, m_oneI, bnd_some]
  rw [show ian (isr v 24) 255 = byK v 0 from rfl, show ian (isr v 16) 255 = byK v 1 from rfl, show ian (isr v 8) 255 = byK v 2 from rfl, bI_by, bI_by, bI_by, bI_by, nbk_s, nbk_s, nbk_s, nbk_s]
  rw [show ((nbk v 0 : Nat) : Int) = 0 from rfl, Int.zero_add]
abbrev FSrc : FP := fun k _ s => k = 19 ∨ (k = 6 ∧ s = 1)
theorem t_take (v : Int) {c : Nat} (hc : c + 4 ≤ 600) (h : I 6 0 1 = (c : Int)) : Tr (f_Src_take v I) (fun _ J => J 6 0 1 = ((c + nbk v 4 : Nat) : Int) ∧ Fm FSrc I J) := by
  unfold f_Src_take
  refine tr_call (P := fun _ J => J 6 0 1 = ((c + nbk v 4 : Nat) : Int) ∧ Fm FSrc I J) (tr_cnt (fun k => 24 - 8 * (k : Int)) (fun k J => J 6 0 1 = ((c + nbk v k : Nat) : Int) ∧ Fm FSrc I J) 4 rfl ⟨h, Fm.refl _ _⟩ ?_ ?_) (fun _ _ q => tr_ret q)
  · rintro k J hk ⟨e, f⟩
    have hb := nbk_le v k
    have hs := nbk_s v k
    unfold f_Src_take_w3
    rw [w32_of (x := 24 - 8 * (k : Int)) (by omega) (by omega), if_neg (by omega), by_eq v hk, by_w]
    by_cases q : byK v k = 0
    · rw [if_pos q] at hs
      rw [if_pos q]
      exact tr_ret ⟨by omega, by rw [e]; omega, f⟩
    · rw [if_neg q] at hs
      rw [if_neg q, e, w32_of (x := ((c + nbk v k : Nat) : Int)) (by omega) (by omega), if_pos (by omega), if_pos (by omega)]
      try dsimp only [ltI]
      refine tr_ret ⟨by omega, ?_, f.trans ((Fm.sI (by decide) (by omega) (by omega) (Or.inl rfl)).trans (Fm.sI (by decide) (by omega) (by omega) (Or.inr ⟨rfl, rfl⟩)))⟩
      rw [sI_self, sI_ne (by omega), e]
      omega
  · rintro J ⟨e, f⟩
    unfold f_Src_take_w3
    rw [if_pos (by decide)]
    exact tr_ret ⟨e, f⟩
abbrev FMf : FP := fun k i s => (k = 27 ∧ i = 14) ∨ (k = 26 ∧ s = 20)
theorem t_feeds (v : Int) {c : Nat} (hc : c + 4 ≤ 600) (h : I 26 0 20 = (c : Int)) : Tr (f_M_feeds v I) (fun _ J => J 26 0 20 = ((c + nbk v 4 : Nat) : Int) ∧ Fm FMf I J) := by
  unfold f_M_feeds
  refine tr_call (P := fun _ J => J 26 0 20 = ((c + nbk v 4 : Nat) : Int) ∧ Fm FMf I J) (tr_cnt (fun k => 24 - 8 * (k : Int)) (fun k J => J 26 0 20 = ((c + nbk v k : Nat) : Int) ∧ Fm FMf I J) 4 rfl ⟨h, Fm.refl _ _⟩ ?_ ?_) (fun _ _ q => tr_ret q)
  · rintro k J hk ⟨e, f⟩
    have hb := nbk_le v k
    have hs := nbk_s v k
    unfold f_M_feeds_w3
    rw [w32_of (x := 24 - 8 * (k : Int)) (by omega) (by omega), if_neg (by omega), by_w]
    by_cases q : byK v k = 0
    · rw [if_pos q] at hs
      rw [if_pos q]
      exact tr_ret ⟨by omega, by rw [e]; omega, f⟩
    · rw [if_neg q] at hs
      rw [if_neg q, e, w32_of (x := ((c + nbk v k : Nat) : Int)) (by omega) (by omega), if_pos (by omega)]
      try dsimp only [ltI]
      refine tr_ret ⟨by omega, ?_, f.trans ((Fm.sI (by decide) (by omega) (by omega) (Or.inl ⟨rfl, rfl⟩)).trans (Fm.sI (by decide) (by omega) (by omega) (Or.inr ⟨rfl, rfl⟩)))⟩
      rw [sI_self, sI_ne (by omega), e]
      omega
  · rintro J ⟨e, f⟩
    unfold f_M_feeds_w3
    rw [if_pos (by decide)]
    exact tr_ret ⟨e, f⟩
theorem ok_0 (hI : FS I) (a1 a2 a3 a4 a5 : Int) (_h1 : w32 a1 = a1) (_h2 : w32 a2 = a2) (_h3 : w32 a3 = a3) (_h4 : w32 a4 = a4) (_h5 : w32 a5 = a5) : ∃ (r1 r2 : Int) (J K : Mem), f_PR_feed a1 a2 a3 a4 a5 I = some (r1, J) ∧ f_M_feed a1 a2 a3 a4 a5 J = some (r2, K) ∧ w32 r1 = w32 r2 ∧ dC I K ≤ 210600 ∧ dS I K ≤ 631700 := by
  have n1 := nbk_le a1 4
  have n2 := nbk_le a2 4
  have n3 := nbk_le a3 4
  have n4 := nbk_le a4 4
  have n5 := nbk_le a5 4
  refine ok_I (u := w32 ((0 + nbk a1 4 + nbk a2 4 + nbk a3 4 + nbk a4 4 + nbk a5 4 : Nat) : Int)) ?_ (fun J cp => m7_I ?_)
  · have e6 : I 6 0 1 = ((0 : Nat) : Int) := (hI.at (by decide) (by decide)).trans rfl
    have er : f_Src_hasRoomFor (((((nbk a1 4 : Int) + (nbk a2 4 : Int)) + (nbk a3 4 : Int)) + (nbk a4 4 : Int)) + (nbk a5 4 : Int)) I = some (1, I) := by
      unfold f_Src_hasRoomFor
      rw [e6, w32_of (by omega) (by omega), if_neg (by omega)]
    unfold f_PR_feed
    rw [s_bytesIn, bnd_some, s_bytesIn, bnd_some, s_bytesIn, bnd_some, s_bytesIn, bnd_some, s_bytesIn, bnd_some, er, bnd_some, if_neg (by decide)]
    refine tr_call (t_take a1 (by omega) e6) ?_
    rintro _ J1 ⟨e, f1⟩
    refine tr_call (t_take a2 (by omega) e) ?_
    rintro _ J2 ⟨e, f2⟩
    refine tr_call (t_take a3 (by omega) e) ?_
    rintro _ J3 ⟨e, f3⟩
    refine tr_call (t_take a4 (by omega) e) ?_
    rintro _ J4 ⟨e, f4⟩
    refine tr_call (t_take a5 (by omega) e) ?_
    rintro _ J5 ⟨e, f5⟩
    exact tr_ret ⟨by rw [e], CP_c (f1.trans (f2.trans (f3.trans (f4.trans f5)))) (fun k i s z => by unfold FSrc at z; omega)⟩
  · have e20 : (sI J 26 0 7 0) 26 0 20 = ((0 : Nat) : Int) := by rw [sI_ne (by decide), cp.1 26 0 20 (by decide) (by decide), hI.at (by decide) (by decide)]; rfl
    unfold f_M_feed
    try dsimp only [ltI]
    rw [m_bytesIn, bnd_some, m_bytesIn, bnd_some, m_bytesIn, bnd_some, m_bytesIn, bnd_some, m_bytesIn, bnd_some, e20, w32_of (by omega) (by omega), if_neg (by omega)]
    refine tr_call (t_feeds a1 (by omega) e20) ?_
    rintro _ J1 ⟨e, f1⟩
    refine tr_call (t_feeds a2 (by omega) e) ?_
    rintro _ J2 ⟨e, f2⟩
    refine tr_call (t_feeds a3 (by omega) e) ?_
    rintro _ J3 ⟨e, f3⟩
    refine tr_call (t_feeds a4 (by omega) e) ?_
    rintro _ J4 ⟨e, f4⟩
    refine tr_call (t_feeds a5 (by omega) e) ?_
    rintro _ J5 ⟨e, f5⟩
    exact tr_ret ⟨by rw [e], (f1.trans (f2.trans (f3.trans (f4.trans f5)))).mono (fun k i s z => by unfold FMf at z; unfold FM7; omega)⟩
end OPS6
