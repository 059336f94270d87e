/-! ===== scripts: the reference reads ===== -/
def oc (w : Nat) : Int := [0, 0, 0, 0, 1, 2, 10, 11, 12, 13, 14, 15, 16, 17].getD w 0
theorem oc_rng : ∀ w : Nat, w < 15 → 0 ≤ oc w ∧ oc w ≤ 17 := by decide
theorem oc_16 : ∀ w : Nat, w < 15 → (oc w = 16 ↔ w = 12) := by decide
theorem wOrd_no : ∀ w : Nat, w < 15 → w ≠ 3 → w ≠ 4 → w ≠ 5 → w ≠ 6 → w ≠ 7 → w ≠ 8 → w ≠ 9 → w ≠ 10 → w ≠ 11 → w ≠ 12 → wOrd w = 0 := by
  intro w hw n3 n4 n5 n6 n7 n8 n9 n10 n11 n12
  rcases (show w = 0 ∨ w = 1 ∨ w = 2 ∨ w = 13 ∨ w = 14 by omega) with rfl | rfl | rfl | rfl | rfl <;> rfl
section MSCR
variable {I J : Mem} {bs : List Int} {E : List EN} {c p : Nat}
def EMl (I : Mem) (j : Nat) (e : EN) : Prop := I 27 15 j = oc e.1 ∧ (e.1 ≠ 7 → e.1 ≠ 13 → I 27 16 j = e.2.1) ∧ (e.1 = 8 ∨ e.1 = 10 → I 27 17 j = (e.2.2 : Int))
def SMl (I : Mem) (E : List EN) : Prop := I 26 0 38 = (E.length : Int) ∧ (∀ j : Nat, j < E.length → EMl I j (eD E j)) ∧ ∀ k : Nat, k < E.length → ew E k = 13 → ∀ (a : Nat) (t : List Nat), enc E k = a :: t → I 27 18 a = (k : Int)
def OPm (I : Mem) (E : List EN) : Prop := I 26 0 40 = ((enc E E.length).length : Int) ∧ ∀ d : Nat, d < (enc E E.length).length → I 27 19 d = (((enc E E.length).getD ((enc E E.length).length - 1 - d) 0 : Nat) : Int)
def PMl (I : Mem) (bs : List Int) (E : List EN) (c p : Nat) : Prop := BfM I bs ∧ TM I bs p ∧ SMl I E ∧ OPm I E ∧ I 26 0 39 = (c : Int) ∧ I 26 0 25 = 0
abbrev FSn : FP := fun k i s => FMx k i s ∨ (k = 26 ∧ i = 0 ∧ (s = 31 ∨ (38 ≤ s ∧ s ≤ 40))) ∨ (k = 27 ∧ 15 ≤ i ∧ i ≤ 19)
def OKn (K : Mem) (bs : List Int) : Int ⊕ PS → Prop
  | .inl e => K 26 0 25 = e ∧ ERR K
  | .inr s => PMl K bs s.1 s.2.1 s.2.2
theorem fmx_sn : ∀ k i s : Nat, FMx k i s → FSn k i s := fun _ _ _ z => Or.inl z
theorem fem_sn : ∀ k i s : Nat, FEm k i s → FSn k i s := fun _ _ _ z => Or.inl (fem_mx _ _ _ z)
theorem BfM.sn (h : BfM I bs) (f : Fm FSn I J) : BfM J bs := h.fm f (by unfold FSn FMx; omega) (fun s => by unfold FSn FMx; omega)
theorem nbE_err {lo hi : Int} (h : nbE bs p lo hi ≠ 0) : 1 ≤ nbE bs p lo hi ∧ nbE bs p lo hi ≤ 5 := by
  unfold nbE at h ⊢
  by_cases z : tK bs p ≠ 2
  · rw [if_pos z]; decide
  · rw [if_neg z] at h ⊢
    by_cases z2 : lo ≤ nV bs p ∧ nV bs p ≤ hi
    · rw [if_pos z2] at h; exact absurd rfl h
    · rw [if_neg z2]; decide
theorem SMl.app {e : EN} (h : SMl I E) (h8 : J 26 0 38 = ((E.length + 1 : Nat) : Int)) (hk : ∀ j : Nat, j < E.length → J 27 15 j = I 27 15 j ∧ J 27 16 j = I 27 16 j ∧ J 27 17 j = I 27 17 j) (he : EMl J E.length e) (h3 : ∀ k : Nat, k < E.length → ew E k = 13 → ∀ (a : Nat) (t : List Nat), enc E k = a :: t → J 27 18 a = I 27 18 a) (h13 : e.1 = 13 → ∀ (a : Nat) (t : List Nat), enc E E.length = a :: t → J 27 18 a = (E.length : Int)) : SMl J (E ++ [e]) := by
  have hl : (E ++ [e]).length = E.length + 1 := by rw [List.length_append]; rfl
  obtain ⟨a1, a2, a3⟩ := h
  refine ⟨by rw [hl]; exact h8, fun j hj => ?_, fun k hkk hw a t ee => ?_⟩
  · by_cases q : j = E.length
    · rw [q, eD_last]; exact he
    · have hj : j < E.length := by omega
      obtain ⟨k1, k2, k3⟩ := hk j hj
      obtain ⟨b1, b2, b3⟩ := a2 j hj
      rw [eD_app hj]
      exact ⟨k1.trans b1, fun z1 z2 => k2.trans (b2 z1 z2), fun z => k3.trans (b3 z)⟩
  · by_cases q : k = E.length
    · subst q
      rw [ew_last] at hw
      rw [enc_app (Nat.le_refl _)] at ee
      exact h13 hw a t ee
    · have hk2 : k < E.length := by omega
      rw [ew_app hk2] at hw
      rw [enc_app (by omega)] at ee
      exact (h3 k hk2 hw a t ee).trans (a3 k hk2 hw a t ee)
theorem m_orderHere (hB : BfM I bs) (hl : bs.length ≤ 600) (hr : ∀ b ∈ bs, 1 ≤ b ∧ b ≤ 255) (hp : p ≤ bs.length) (ht : TM I bs p) (he : I 26 0 25 = 0) : f_M_orderHere I = some (if wOrd (wd bs p) = 0 then -1 else oc (wd bs p), I) := by
  have hwl := wd_lt bs p
  have key : ∀ {i : Nat}, i < 14 → f_M_isKey i I = some (bI (wd bs p = i), I) := fun hi => m_isKey hB hl hr hp ht he hi
  unfold f_M_orderHere
  rw [key (i := 6) (by decide), bnd_some]
  by_cases q6 : wd bs p = 6
  · rw [if_neg (wb_pos q6), q6, if_neg (by decide)]; rfl
  rw [if_pos (wb_neg q6), key (i := 7) (by decide), bnd_some]
  by_cases q7 : wd bs p = 7
  · rw [if_neg (wb_pos q7), q7, if_neg (by decide)]; rfl
  rw [if_pos (wb_neg q7), key (i := 8) (by decide), bnd_some]
  by_cases q8 : wd bs p = 8
  · rw [if_neg (wb_pos q8), q8, if_neg (by decide)]; rfl
  rw [if_pos (wb_neg q8), key (i := 9) (by decide), bnd_some]
  by_cases q9 : wd bs p = 9
  · rw [if_neg (wb_pos q9), q9, if_neg (by decide)]; rfl
  rw [if_pos (wb_neg q9), key (i := 10) (by decide), bnd_some]
  by_cases q10 : wd bs p = 10
  · rw [if_neg (wb_pos q10), q10, if_neg (by decide)]; rfl
  rw [if_pos (wb_neg q10), key (i := 11) (by decide), bnd_some]
  by_cases q11 : wd bs p = 11
  · rw [if_neg (wb_pos q11), q11, if_neg (by decide)]; rfl
  rw [if_pos (wb_neg q11), key (i := 3) (by decide), bnd_some]
  by_cases q3 : wd bs p = 3
  · rw [if_neg (wb_pos q3), q3, if_neg (by decide)]; rfl
  rw [if_pos (wb_neg q3), key (i := 4) (by decide), bnd_some]
  by_cases q4 : wd bs p = 4
  · rw [if_neg (wb_pos q4), q4, if_neg (by decide)]; rfl
  rw [if_pos (wb_neg q4), key (i := 5) (by decide), bnd_some]
  by_cases q5 : wd bs p = 5
  · rw [if_neg (wb_pos q5), q5, if_neg (by decide)]; rfl
  rw [if_pos (wb_neg q5), key (i := 12) (by decide), bnd_some]
  by_cases q12 : wd bs p = 12
  · rw [if_neg (wb_pos q12), q12, if_neg (by decide)]; rfl
  rw [if_pos (wb_neg q12), if_pos (wOrd_no _ hwl q3 q4 q5 q6 q7 q8 q9 q10 q11 q12)]
theorem t_mfnum {w : Nat} (hB : BfM I bs) (hl : bs.length ≤ 600) (hr : ∀ b ∈ bs, 1 ≤ b ∧ b ≤ 255) (hp : p ≤ bs.length) (ht : TM I bs p) (he : I 26 0 25 = 0) (hw : w = 3 ∨ w = 4 ∨ w = 5 ∨ w = 6 ∨ w = 9 ∨ w = 11 ∨ w = 12) : Tr (f_M_firstHere (oc w) I) (fun x K => (nbE bs p (wLow w) (wHig w) = 0 → x = nV bs p ∧ TM K bs (tE bs p) ∧ K 26 0 25 = 0) ∧ (nbE bs p (wLow w) (wHig w) ≠ 0 → K 26 0 25 = nbE bs p (wLow w) (wHig w)) ∧ Fm FMx I K) := by
  have num : ∀ {lo hi : Int}, lo = wLow w → hi = wHig w → 0 ≤ lo ∧ lo ≤ 1000 → 0 ≤ hi ∧ hi ≤ 1000 → Tr (bnd (f_M_number lo hi I) fun x J => some (x, J)) (fun x K => (nbE bs p (wLow w) (wHig w) = 0 → x = nV bs p ∧ TM K bs (tE bs p) ∧ K 26 0 25 = 0) ∧ (nbE bs p (wLow w) (wHig w) ≠ 0 → K 26 0 25 = nbE bs p (wLow w) (wHig w)) ∧ Fm FMx I K) := by
    intro lo hi e1 e2 h1 h2
    refine tr_call (t_mnumber hB hl hr hp ht he h1 h2) ?_
    rintro x K z
    rw [e1, e2] at z
    exact tr_ret z
  unfold f_M_firstHere
  rcases hw with rfl | rfl | rfl | rfl | rfl | rfl | rfl
  · rw [if_neg (by decide), if_neg (by decide), if_neg (by decide), if_neg (by decide), if_neg (by decide), if_neg (by decide), if_neg (by decide), show oc 3 = ((0 : Nat) : Int) from rfl, m_least (by decide), bnd_some, m_most (by decide), bnd_some]
    exact num rfl rfl (by decide) (by decide)
  · rw [if_neg (by decide), if_neg (by decide), if_neg (by decide), if_neg (by decide), if_neg (by decide), if_neg (by decide), if_neg (by decide), show oc 4 = ((1 : Nat) : Int) from rfl, m_least (by decide), bnd_some, m_most (by decide), bnd_some]
    exact num rfl rfl (by decide) (by decide)
  · rw [if_neg (by decide), if_neg (by decide), if_neg (by decide), if_neg (by decide), if_neg (by decide), if_neg (by decide), if_neg (by decide), show oc 5 = ((2 : Nat) : Int) from rfl, m_least (by decide), bnd_some, m_most (by decide), bnd_some]
    exact num rfl rfl (by decide) (by decide)
  · rw [if_pos (by decide)]
    exact num rfl rfl (by decide) (by decide)
  · rw [if_neg (by decide), if_neg (by decide), if_neg (by decide), if_pos (by decide)]
    exact num rfl rfl (by decide) (by decide)
  · rw [if_neg (by decide), if_neg (by decide), if_neg (by decide), if_neg (by decide), if_neg (by decide), if_pos (by decide)]
    exact num rfl rfl (by decide) (by decide)
  · rw [if_neg (by decide), if_neg (by decide), if_neg (by decide), if_neg (by decide), if_neg (by decide), if_neg (by decide), if_pos (by decide)]
    exact num rfl rfl (by decide) (by decide)
theorem t_mflet {w : Nat} {L : Nat} (hL : L < 60) (h38 : I 26 0 38 = (L : Int)) (hB : BfM I bs) (hl : bs.length ≤ 600) (hr : ∀ b ∈ bs, 1 ≤ b ∧ b ≤ 255) (hp : p ≤ bs.length) (ht : TM I bs p) (he : I 26 0 25 = 0) (hw : w = 8 ∨ w = 10) : Tr (f_M_firstHere (oc w) I) (fun x K => (tK bs p ≠ 1 → K 26 0 25 = 1) ∧ (tK bs p = 1 → w = 8 ∧ tE bs p - tF bs p ≠ 2 → K 26 0 25 = 4) ∧ (tK bs p = 1 → ¬ (w = 8 ∧ tE bs p - tF bs p ≠ 2) → x = (tF bs p : Int) ∧ K 27 17 L = ((tE bs p - tF bs p : Nat) : Int) ∧ TM K bs (tE bs p) ∧ K 26 0 25 = 0) ∧ Fm (fun k i s => FMx k i s ∨ (k = 27 ∧ i = 17 ∧ s = L)) I K) := by
  have hE := tE_le hp
  have j38 : tK bs p = 1 → ¬ (w = 8 ∧ tE bs p - tF bs p ≠ 2) → Tr (f_M_wordHere_j38 I) (fun x K => (tK bs p ≠ 1 → K 26 0 25 = 1) ∧ (tK bs p = 1 → w = 8 ∧ tE bs p - tF bs p ≠ 2 → K 26 0 25 = 4) ∧ (tK bs p = 1 → ¬ (w = 8 ∧ tE bs p - tF bs p ≠ 2) → x = (tF bs p : Int) ∧ K 27 17 L = ((tE bs p - tF bs p : Nat) : Int) ∧ TM K bs (tE bs p) ∧ K 26 0 25 = 0) ∧ Fm (fun k i s => FMx k i s ∨ (k = 27 ∧ i = 17 ∧ s = L)) I K) := by
    intro q1 q2
    unfold f_M_wordHere_j38 f_M_wordHere_j39
    rw [mf_0 he (by decide), bnd_some, if_pos (by decide), h38, w32_of (x := (L : Int)) (by omega) (by omega), if_pos (by omega), Int.toNat_natCast, ht.2.1, ht.2.2.1]
    try dsimp only [ltI]
    have f1 : Fm (fun k i s => k = 27 ∧ i = 17 ∧ s = L) I (sI I 27 17 L (((tE bs p : Nat) : Int) - ((tF bs p : Nat) : Int))) := Fm.sI (by decide) (by omega) (by omega) ⟨rfl, rfl, rfl⟩
    have e1 : (sI I 27 17 L (((tE bs p : Nat) : Int) - ((tF bs p : Nat) : Int))) 27 17 L = ((tE bs p - tF bs p : Nat) : Int) := by rw [sI_self]; omega
    generalize sI I 27 17 L (((tE bs p : Nat) : Int) - ((tF bs p : Nat) : Int)) = J1 at f1 e1
    refine tr_call (tm_advS (hB.fm f1 (by omega) (fun s => by omega)) hl hr hp (ht.fm f1 (fun s _ _ => by omega))) ?_
    rintro _ K ⟨t2, e2, f2⟩
    exact tr_ret ⟨fun y => absurd q1 y, fun _ y => absurd y q2, fun _ _ => ⟨rfl, by rw [f2.at (by decide) (by unfold FMx; omega)]; exact e1, t2, by rw [e2, f1.at (by decide) (by omega)]; exact he⟩, (f1.mono (fun a b c z => Or.inr z)).trans (f2.mono (fun a b c z => Or.inl z))⟩
  have key : ∀ b : Int, (b = 1 ∧ w = 8 ∨ b = 0 ∧ w = 10) → Tr (bnd (f_M_wordHere b I) fun x J => some (x, J)) (fun x K => (tK bs p ≠ 1 → K 26 0 25 = 1) ∧ (tK bs p = 1 → w = 8 ∧ tE bs p - tF bs p ≠ 2 → K 26 0 25 = 4) ∧ (tK bs p = 1 → ¬ (w = 8 ∧ tE bs p - tF bs p ≠ 2) → x = (tF bs p : Int) ∧ K 27 17 L = ((tE bs p - tF bs p : Nat) : Int) ∧ TM K bs (tE bs p) ∧ K 26 0 25 = 0) ∧ Fm (fun k i s => FMx k i s ∨ (k = 27 ∧ i = 17 ∧ s = L)) I K) := by
    intro b hb
    refine tr_call (P := fun x K => (tK bs p ≠ 1 → K 26 0 25 = 1) ∧ (tK bs p = 1 → w = 8 ∧ tE bs p - tF bs p ≠ 2 → K 26 0 25 = 4) ∧ (tK bs p = 1 → ¬ (w = 8 ∧ tE bs p - tF bs p ≠ 2) → x = (tF bs p : Int) ∧ K 27 17 L = ((tE bs p - tF bs p : Nat) : Int) ∧ TM K bs (tE bs p) ∧ K 26 0 25 = 0) ∧ Fm (fun k i s => FMx k i s ∨ (k = 27 ∧ i = 17 ∧ s = L)) I K) ?_ (fun x K z => tr_ret z)
    unfold f_M_wordHere
    rw [ht.1]
    by_cases q1 : tK bs p = 1
    · rw [if_pos ((km_1 bs p).mpr q1), mf_0 he (by decide), bnd_some, if_pos (by decide)]
      rcases hb with ⟨rfl, h8⟩ | ⟨rfl, h10⟩
      · rw [if_neg (by decide), ht.2.1, ht.2.2.1, w32_of (x := ((tE bs p : Nat) : Int) - ((tF bs p : Nat) : Int)) (by omega) (by omega)]
        by_cases q2 : tE bs p - tF bs p = 2
        · rw [if_pos (by omega)]
          exact j38 q1 (fun y => y.2 q2)
        · rw [if_neg (by omega)]
          unfold f_M_wordHere_j39
          refine tr_call (mf_1 he (by decide) (by decide)) ?_
          rintro x K ⟨rfl, b, f⟩
          rw [if_neg (by decide)]
          exact tr_ret ⟨fun y => absurd q1 y, fun _ _ => b, fun _ y => absurd ⟨h8, q2⟩ y, f.mono (fun a b c z => Or.inl (fem_mx _ _ _ z))⟩
      · rw [if_pos (by decide)]
        exact j38 q1 (fun y => by omega)
    · rw [if_neg (fun z => q1 ((km_1 bs p).mp z))]
      refine tr_call (mf_1 he (by decide) (by decide)) ?_
      rintro x K ⟨rfl, b, f⟩
      rw [if_neg (by decide)]
      exact tr_ret ⟨fun _ => b, fun y => absurd y q1, fun y => absurd y q1, f.mono (fun a b c z => Or.inl (fem_mx _ _ _ z))⟩
  unfold f_M_firstHere
  rcases hw with h8 | h10
  · rw [show oc w = 12 by rw [h8]; rfl, if_neg (by decide), if_neg (by decide), if_pos (by decide)]
    exact key 1 (Or.inl ⟨rfl, h8⟩)
  · rw [show oc w = 14 by rw [h10]; rfl, if_neg (by decide), if_neg (by decide), if_neg (by decide), if_neg (by decide), if_pos (by decide)]
    exact key 0 (Or.inr ⟨rfl, h10⟩)
/-- an entry added -/
theorem PMl.add {e : EN} {q c' : Nat} (h : PMl I bs E c p) (hB : BfM J bs) (hT : TM J bs q) (h8 : J 26 0 38 = ((E.length + 1 : Nat) : Int)) (h9 : J 26 0 39 = (c' : Int)) (he0 : J 26 0 25 = 0) (f : Fm (fun k i s => FMx k i s ∨ (k = 26 ∧ i = 0 ∧ (s = 38 ∨ s = 39)) ∨ (k = 27 ∧ 15 ≤ i ∧ i ≤ 17 ∧ s = E.length)) I J) (he : EMl J E.length e) (h12 : e.1 ≠ 12) (h13 : e.1 ≠ 13) : PMl J bs (E ++ [e]) c' q := by
  have heq : enc (E ++ [e]) (E ++ [e]).length = enc E E.length := by rw [enc_next, if_neg h12, if_neg h13]
  refine ⟨hB, hT, h.2.2.1.app h8 (fun j hj => ⟨?_, ?_, ?_⟩) he (fun k hk hw a t ee => ?_) (fun z => absurd z h13), ?_, h9, he0⟩
  · exact f.at (by decide) (by unfold FMx; omega)
  · exact f.at (by decide) (by unfold FMx; omega)
  · exact f.at (by decide) (by unfold FMx; omega)
  · exact f.at (by decide) (by unfold FMx; omega)
  · unfold OPm
    rw [heq]
    exact ⟨by rw [f.at (by decide) (by unfold FMx; omega)]; exact h.2.2.2.1.1, fun d hd => by rw [f.at (by decide) (by unfold FMx; omega)]; exact h.2.2.2.1.2 d hd⟩
theorem t_takesE (he : ERR I) (a : Int) : f_M_takesSign a I = some ((), I) := by
  unfold f_M_takesSign
  rw [m_isSignE he.ne, bnd_some, mf_E he.ne, bnd_some, if_neg (by decide)]
theorem t_mreadsOrder (hl : bs.length ≤ 600) (hr : ∀ b ∈ bs, 1 ≤ b ∧ b ≤ 255) (hS : SEI bs E c p) (h : PMl I bs E c p) : Tr (f_M_readsOrder I) (fun _ K => OKn K bs (ordP bs E c p) ∧ Fm FSn I K) := by
  obtain ⟨hB, hT, hSM, hO, h9, he⟩ := id h
  have hp := hS.1
  have hE := tE_le hp
  have hE2 := tE_le hE.2.1
  have hwl := wd_lt bs p
  have hc30 := hS.2.1
  have hcc := hS.2.2.1
  have h22 := hS.2.2.2.1 E.length (Nat.le_refl _)
  have hor := oc_rng _ hwl
  unfold f_M_readsOrder
  rw [m_orderHere hB hl hr hp hT he, bnd_some]
  by_cases q0 : wOrd (wd bs p) = 0
  · have eo : ordP bs E c p = .inl 1 := by unfold ordP; rw [if_pos q0]
    rw [if_pos q0, if_pos (by decide), eo]
    refine tr_call (mf_1 he (by decide) (by decide)) ?_
    rintro x K ⟨rfl, b, f⟩
    rw [if_neg (by decide)]
    exact tr_ret ⟨⟨b, ERR.of b (by decide)⟩, f.mono fem_sn⟩
  have hwr := wOrd_1 _ hwl q0
  rw [if_neg q0, w32_of (x := oc (wd bs p)) (by omega) (by omega), if_neg (by omega), mf_0 he (by decide), bnd_some, if_pos (by decide), h9, w32_of (x := (c : Int)) (by omega) (by omega)]
  by_cases qc : 30 ≤ c
  · have eo : ordP bs E c p = .inl 5 := by unfold ordP; rw [if_neg q0, if_pos qc]
    rw [if_pos (by omega), eo]
    refine tr_call (mf_1 he (by decide) (by decide)) ?_
    rintro x K ⟨rfl, b, f⟩
    rw [if_neg (by decide)]
    exact tr_ret ⟨⟨b, ERR.of b (by decide)⟩, f.mono fem_sn⟩
  have hL : E.length < 60 := by omega
  rw [if_neg (by omega), mf_0 he (by decide), bnd_some, if_pos (by decide)]
  try dsimp only [ltI]
  try rw [h9]
  have f1 : Fm (fun k i s => k = 26 ∧ i = 0 ∧ s = 39) I (sI I 26 0 39 ((c : Int) + 1)) := Fm.sI (by decide) (by omega) (by omega) ⟨rfl, rfl, rfl⟩
  have a9 : (sI I 26 0 39 ((c : Int) + 1)) 26 0 39 = ((c + 1 : Nat) : Int) := by rw [sI_self]; rfl
  generalize sI I 26 0 39 ((c : Int) + 1) = J1 at f1 a9
  have hB1 : BfM J1 bs := hB.fm f1 (by omega) (fun s => by omega)
  have hT1 : TM J1 bs p := hT.fm f1 (fun s _ _ => by omega)
  refine tr_call (tm_advS hB1 hl hr hp hT1) ?_
  rintro _ J2 ⟨t2, e2, f2⟩
  have he2 : J2 26 0 25 = 0 := by rw [e2, f1.at (by decide) (by omega)]; exact he
  have b8 : J2 26 0 38 = (E.length : Int) := by rw [f2.at (by decide) (by unfold FMx; omega), f1.at (by decide) (by omega)]; exact hSM.1
  have b9 : J2 26 0 39 = ((c + 1 : Nat) : Int) := by rw [f2.at (by decide) (by unfold FMx; omega)]; exact a9
  rw [b8, w32_of (x := (E.length : Int)) (by omega) (by omega), if_pos (by omega), Int.toNat_natCast]
  try dsimp only [ltI]
  have f3 : Fm (fun k i s => k = 27 ∧ i = 15 ∧ s = E.length) J2 (sI J2 27 15 E.length (oc (wd bs p))) := Fm.sI (by decide) (by omega) (by omega) ⟨rfl, rfl, rfl⟩
  have c15 : (sI J2 27 15 E.length (oc (wd bs p))) 27 15 E.length = oc (wd bs p) := sI_self _ _ _ _ _
  have c8 : (sI J2 27 15 E.length (oc (wd bs p))) 26 0 38 = (E.length : Int) := by rw [sI_ne (by omega)]; exact b8
  have c9 : (sI J2 27 15 E.length (oc (wd bs p))) 26 0 39 = ((c + 1 : Nat) : Int) := by rw [sI_ne (by omega)]; exact b9
  have he3 : (sI J2 27 15 E.length (oc (wd bs p))) 26 0 25 = 0 := by rw [sI_ne (by omega)]; exact he2
  generalize sI J2 27 15 E.length (oc (wd bs p)) = J3 at f3 c15 c8 c9 he3
  have hB3 : BfM J3 bs := (hB1.mx f2).fm f3 (by omega) (fun s => by omega)
  have hT3 : TM J3 bs (tE bs p) := t2.fm f3 (fun s _ _ => by omega)
  have f13 : Fm (fun k i s => FMx k i s ∨ (k = 26 ∧ i = 0 ∧ (s = 38 ∨ s = 39)) ∨ (k = 27 ∧ 15 ≤ i ∧ i ≤ 17 ∧ s = E.length)) I J3 := (f1.mono (fun a b c z => Or.inr (Or.inl ⟨z.1, z.2.1, Or.inr z.2.2⟩))).trans ((f2.mono (fun a b c z => Or.inl z)).trans (f3.mono (fun a b c z => Or.inr (Or.inr ⟨z.1, by omega, by omega, z.2.2⟩))))
  have fsn : ∀ {K : Mem}, Fm (fun k i s => FMx k i s ∨ (k = 26 ∧ i = 0 ∧ (s = 38 ∨ s = 39)) ∨ (k = 27 ∧ 15 ≤ i ∧ i ≤ 17 ∧ s = E.length)) I K → Fm FSn I K := fun f => f.mono (fun a b c z => by
    rcases z with z | z | z
    · exact Or.inl z
    · exact Or.inr (Or.inl ⟨z.1, z.2.1, by omega⟩)
    · exact Or.inr (Or.inr ⟨z.1, by omega, by omega⟩))
  rw [c8, w32_of (x := (E.length : Int)) (by omega) (by omega)]
  -- behind firstHere: an order that is no again
  have tail : ∀ (x : Int) (K : Mem) (o : Int ⊕ (EN × Nat)), wd bs p ≠ 12 → Fm (fun k i s => FMx k i s ∨ (k = 26 ∧ i = 0 ∧ (s = 38 ∨ s = 39)) ∨ (k = 27 ∧ 15 ≤ i ∧ i ≤ 17 ∧ s = E.length)) I K → K 26 0 38 = (E.length : Int) → K 26 0 39 = ((c + 1 : Nat) : Int) → K 27 15 E.length = oc (wd bs p) → (match o with
      | .inl e => K 26 0 25 = e ∧ ERR K
      | .inr t => t.2 ≤ bs.length ∧ TM K bs t.2 ∧ K 26 0 25 = 0 ∧ t.1.1 = wd bs p ∧ (t.1.1 ≠ 7 → x = t.1.2.1) ∧ (t.1.1 = 8 ∨ t.1.1 = 10 → K 27 17 E.length = (t.1.2.2 : Int))) → (ordP bs E c p = (match o with
      | .inl e => .inl e
      | .inr t => if tK bs t.2 = 3 then .inr (E ++ [t.1], c + 1, tE bs t.2) else .inl 1)) → Tr (if 0 ≤ (E.length : Int) ∧ (E.length : Int) < 64 then ltI (sI K 27 16 (E.length : Int).toNat x) fun J20 => if oc (wd bs p) = 16 then bnd (f_M_isSign 40 J20) fun x23 J22 => if w32 x23 = 0 then f_M_readsOrder_j129 J22 else if w32 (J22 26 0 40) = 2 then f_M_readsOrder_j130 1 J22 else f_M_readsOrder_j129 J22 else ltI (sI J20 26 0 38 (J20 26 0 38 + 1)) fun J54 => bnd (f_M_takesSign 59 J54) fun _ J56 => some ((), J56) else none) (fun _ K => OKn K bs (ordP bs E c p) ∧ Fm FSn I K) := by
    intro x K o n12 f k8 k9 k15 ho eo
    rw [if_pos (by omega), Int.toNat_natCast]
    try dsimp only [ltI]
    rw [if_neg (fun z => n12 ((oc_16 _ hwl).mp z))]
    try dsimp only [ltI]
    rw [sI_ne (k' := 26) (s' := 38) (by omega), k8]
    have g1 : Fm (fun k i s => FMx k i s ∨ (k = 26 ∧ i = 0 ∧ (s = 38 ∨ s = 39)) ∨ (k = 27 ∧ 15 ≤ i ∧ i ≤ 17 ∧ s = E.length)) I (sI (sI K 27 16 E.length x) 26 0 38 ((E.length : Int) + 1)) := f.trans ((Fm.sI (by decide) (by omega) (by omega) (Or.inr (Or.inr ⟨rfl, by decide, by decide, rfl⟩))).trans (Fm.sI (by decide) (by omega) (by omega) (Or.inr (Or.inl ⟨rfl, rfl, Or.inl rfl⟩))))
    have m8 : (sI (sI K 27 16 E.length x) 26 0 38 ((E.length : Int) + 1)) 26 0 38 = ((E.length + 1 : Nat) : Int) := by rw [sI_self]; rfl
    have m9 : (sI (sI K 27 16 E.length x) 26 0 38 ((E.length : Int) + 1)) 26 0 39 = ((c + 1 : Nat) : Int) := by rw [sI_ne (by omega), sI_ne (by omega)]; exact k9
    have m25 : (sI (sI K 27 16 E.length x) 26 0 38 ((E.length : Int) + 1)) 26 0 25 = K 26 0 25 := by rw [sI_ne (by omega), sI_ne (by omega)]
    have m15 : (sI (sI K 27 16 E.length x) 26 0 38 ((E.length : Int) + 1)) 27 15 E.length = oc (wd bs p) := by rw [sI_ne (by omega), sI_ne (by omega)]; exact k15
    have m16 : (sI (sI K 27 16 E.length x) 26 0 38 ((E.length : Int) + 1)) 27 16 E.length = x := by rw [sI_ne (by omega), sI_self]
    have m17 : (sI (sI K 27 16 E.length x) 26 0 38 ((E.length : Int) + 1)) 27 17 E.length = K 27 17 E.length := by rw [sI_ne (by omega), sI_ne (by omega)]
    have mT : ∀ q : Nat, TM K bs q → TM (sI (sI K 27 16 E.length x) 26 0 38 ((E.length : Int) + 1)) bs q := fun q hq => ⟨by rw [sI_ne (by omega), sI_ne (by omega)]; exact hq.1, by rw [sI_ne (by omega), sI_ne (by omega)]; exact hq.2.1, by rw [sI_ne (by omega), sI_ne (by omega)]; exact hq.2.2.1, fun z => by rw [sI_ne (by omega), sI_ne (by omega)]; exact hq.2.2.2 z⟩
    generalize sI (sI K 27 16 E.length x) 26 0 38 ((E.length : Int) + 1) = M at g1 m8 m9 m25 m15 m16 m17 mT
    have hBM : BfM M bs := hB.fm g1 (by unfold FMx; omega) (fun s => by unfold FMx; omega)
    cases o with
    | inl e =>
      have hE : ERR M := by unfold ERR; rw [m25]; exact ho.2
      rw [t_takesE hE, bnd_some, eo]
      exact tr_ret ⟨⟨by rw [m25]; exact ho.1, hE⟩, fsn g1⟩
    | inr t =>
      obtain ⟨h1, h2, h3, h4, h5, h6⟩ := ho
      refine tr_call (t_takesSign hBM hl hr h1 (mT _ h2) (by rw [m25]; exact h3) (c := 59) (k := 3) (by omega)) ?_
      rintro _ N ⟨y1, y2, f5⟩
      have gN := g1.trans (f5.mono (fun a b c z => Or.inl z))
      have nat : ∀ {k i s : Nat}, k ≠ 30 → ¬ FMx k i s → N k i s = M k i s := fun h1 h2 => f5.at h1 h2
      refine tr_ret ⟨?_, fsn gN⟩
      rw [eo]
      show OKn N bs (if tK bs t.2 = 3 then .inr (E ++ [t.1], c + 1, tE bs t.2) else .inl 1)
      by_cases q3 : tK bs t.2 = 3
      · rw [if_pos q3]
        obtain ⟨y3, y4⟩ := y1 q3
        refine h.add (hBM.mx f5) y3 (by rw [nat (by decide) (by unfold FMx; omega)]; exact m8) (by rw [nat (by decide) (by unfold FMx; omega)]; exact m9) y4 gN ⟨?_, fun z1 z2 => ?_, fun z => ?_⟩ (by omega) (by omega)
        · rw [nat (by decide) (by unfold FMx; omega), h4]; exact m15
        · rw [nat (by decide) (by unfold FMx; omega), m16]; exact h5 z1
        · rw [nat (by decide) (by unfold FMx; omega), m17]; exact h6 z
      · rw [if_neg q3]
        exact ⟨y2 q3, ERR.of (y2 q3) (by decide)⟩
  by_cases q7 : wd bs p = 7
  · have ef : f_M_firstHere (oc (wd bs p)) J3 = some (0, J3) := by
      unfold f_M_firstHere
      rw [show oc (wd bs p) = 11 by rw [q7]; rfl, if_neg (by decide), if_pos (by decide)]
    rw [ef, bnd_some]
    refine tail 0 J3 (.inr ((7, 0, 0), tE bs p)) (by omega) f13 c8 c9 c15 ⟨hE.2.1, hT3, he3, q7.symm, fun y => absurd rfl y, fun y => absurd (show (7 : Nat) = 8 ∨ (7 : Nat) = 10 from y) (by decide)⟩ ?_
    unfold ordP
    rw [if_neg q0, if_neg qc, if_pos q7]
  by_cases q8 : wd bs p = 8 ∨ wd bs p = 10
  · refine tr_call (t_mflet hL c8 hB3 hl hr hE.2.1 hT3 he3 q8) ?_
    rintro x J4 ⟨y1, y2, y3, f4⟩
    have f14 : Fm (fun k i s => FMx k i s ∨ (k = 26 ∧ i = 0 ∧ (s = 38 ∨ s = 39)) ∨ (k = 27 ∧ 15 ≤ i ∧ i ≤ 17 ∧ s = E.length)) I J4 := f13.trans (f4.mono (fun a b c z => z.elim Or.inl (fun y => Or.inr (Or.inr ⟨y.1, by omega, by omega, y.2.2⟩))))
    have k8 : J4 26 0 38 = (E.length : Int) := by rw [f4.at (by decide) (by unfold FMx; omega)]; exact c8
    have k9 : J4 26 0 39 = ((c + 1 : Nat) : Int) := by rw [f4.at (by decide) (by unfold FMx; omega)]; exact c9
    have k15 : J4 27 15 E.length = oc (wd bs p) := by rw [f4.at (by decide) (by unfold FMx; omega)]; exact c15
    by_cases z1 : tK bs (tE bs p) = 1
    · by_cases z2 : wd bs p = 8 ∧ tE bs (tE bs p) - tF bs (tE bs p) ≠ 2
      · refine tail x J4 (.inl 4) (by omega) f14 k8 k9 k15 ⟨y2 z1 z2, ERR.of (y2 z1 z2) (by decide)⟩ ?_
        unfold ordP
        rw [if_neg q0, if_neg qc, if_neg q7, if_pos q8, if_neg (fun z => z z1), if_pos z2]
      · obtain ⟨v1, v2, v3, v4⟩ := y3 z1 z2
        refine tail x J4 (.inr ((wd bs p, (tF bs (tE bs p) : Int), tE bs (tE bs p) - tF bs (tE bs p)), tE bs (tE bs p))) (by omega) f14 k8 k9 k15 ⟨hE2.2.1, v3, v4, rfl, fun _ => v1, fun _ => v2⟩ ?_
        unfold ordP
        rw [if_neg q0, if_neg qc, if_neg q7, if_pos q8, if_neg (fun z => z z1), if_neg z2]
    · refine tail x J4 (.inl 1) (by omega) f14 k8 k9 k15 ⟨y1 z1, ERR.of (y1 z1) (by decide)⟩ ?_
      unfold ordP
      rw [if_neg q0, if_neg qc, if_neg q7, if_pos q8, if_pos z1]
  refine tr_call (t_mfnum hB3 hl hr hE.2.1 hT3 he3 (w := wd bs p) (by omega)) ?_
  rintro x J4 ⟨y1, y2, f4⟩
  have f14 : Fm (fun k i s => FMx k i s ∨ (k = 26 ∧ i = 0 ∧ (s = 38 ∨ s = 39)) ∨ (k = 27 ∧ 15 ≤ i ∧ i ≤ 17 ∧ s = E.length)) I J4 := f13.trans (f4.mono (fun a b c z => Or.inl z))
  have k8 : J4 26 0 38 = (E.length : Int) := by rw [f4.at (by decide) (by unfold FMx; omega)]; exact c8
  have k9 : J4 26 0 39 = ((c + 1 : Nat) : Int) := by rw [f4.at (by decide) (by unfold FMx; omega)]; exact c9
  have k15 : J4 27 15 E.length = oc (wd bs p) := by rw [f4.at (by decide) (by unfold FMx; omega)]; exact c15
  by_cases q12 : wd bs p = 12
  · have e0 : ordP bs E c p = (if nbE bs (tE bs p) (wLow (wd bs p)) (wHig (wd bs p)) ≠ 0 then .inl (nbE bs (tE bs p) (wLow (wd bs p)) (wHig (wd bs p))) else if tK bs (tE bs (tE bs p)) = 4 ∧ 2 ≤ (enc E E.length).length then .inl 5 else if tK bs (tE bs (tE bs p)) ≠ 4 then .inl 1 else .inr (E ++ [(12, nV bs (tE bs p), 0)], c + 1, tE bs (tE bs (tE bs p)))) := by
      unfold ordP
      rw [if_neg q0, if_neg qc, if_neg q7, if_neg q8]
      by_cases qn : nbE bs (tE bs p) (wLow (wd bs p)) (wHig (wd bs p)) ≠ 0
      · rw [if_pos qn, if_pos qn]
      · rw [if_neg qn, if_neg qn, if_pos q12]
    rw [e0, if_pos (by omega), Int.toNat_natCast, q12]
    try dsimp only [ltI]
    rw [show oc 12 = 16 from rfl, if_pos rfl]
    have g1 : Fm (fun k i s => FMx k i s ∨ (k = 26 ∧ i = 0 ∧ (s = 38 ∨ s = 39)) ∨ (k = 27 ∧ 15 ≤ i ∧ i ≤ 17 ∧ s = E.length)) I (sI J4 27 16 E.length x) := f14.trans (Fm.sI (by decide) (by omega) (by omega) (Or.inr (Or.inr ⟨rfl, by decide, by decide, rfl⟩)))
    have ms : ∀ s : Nat, (sI J4 27 16 E.length x) 26 0 s = J4 26 0 s := fun s => sI_ne (by omega)
    have m16 : (sI J4 27 16 E.length x) 27 16 E.length = x := sI_self _ _ _ _ _
    have m15 : (sI J4 27 16 E.length x) 27 15 E.length = 16 := by rw [sI_ne (by omega), k15, q12]; rfl
    generalize sI J4 27 16 E.length x = M at g1 ms m16 m15
    have hBM : BfM M bs := hB.fm g1 (by unfold FMx; omega) (fun s => by unfold FMx; omega)
    rw [q12] at y1 y2
    by_cases qn : nbE bs (tE bs p) (wLow 12) (wHig 12) = 0
    · obtain ⟨v1, v2, v3⟩ := y1 qn
      have hTM : TM M bs (tE bs (tE bs p)) := ⟨by rw [ms]; exact v2.1, by rw [ms]; exact v2.2.1, by rw [ms]; exact v2.2.2.1, fun z => by rw [ms]; exact v2.2.2.2 z⟩
      have heM : M 26 0 25 = 0 := (ms 25).trans v3
      have hOM : OPm M E := ⟨by rw [g1.at (by decide) (by unfold FMx; omega)]; exact hO.1, fun d hd => by rw [g1.at (by decide) (by unfold FMx; omega)]; exact hO.2 d hd⟩
      rw [if_neg (fun z => z qn), m_isSign hBM hl hr hE2.2.1 hTM heM (c := 40) (k := 4) (by omega), bnd_some]
      have j129 : ¬ (tK bs (tE bs (tE bs p)) = 4 ∧ 2 ≤ (enc E E.length).length) → Tr (f_M_readsOrder_j129 M) (fun _ K => OKn K bs (if tK bs (tE bs (tE bs p)) ≠ 4 then .inl 1 else .inr (E ++ [(12, nV bs (tE bs p), 0)], c + 1, tE bs (tE bs (tE bs p)))) ∧ Fm FSn I K) := by
        intro hno
        unfold f_M_readsOrder_j129 f_M_readsOrder_j130
        rw [mf_0 heM (by decide), bnd_some, if_pos (by decide)]
        refine tr_call (t_takesSign hBM hl hr hE2.2.1 hTM heM (c := 40) (k := 4) (by omega)) ?_
        rintro _ N ⟨w1, w2, f5⟩
        have n10 : N 26 0 40 = ((enc E E.length).length : Int) := by rw [f5.at (by decide) (by unfold FMx; omega)]; exact hOM.1
        have n38 : N 26 0 38 = (E.length : Int) := by rw [f5.at (by decide) (by unfold FMx; omega), ms]; exact k8
        have emin : imn ((enc E E.length).length : Int) 1 = ((min (enc E E.length).length 1 : Nat) : Int) := by
          rw [show (1 : Int) = ((1 : Nat) : Int) from rfl, imn_nat _ _ (by omega) (by omega)]
        rw [n10, emin, w32_of (x := ((min (enc E E.length).length 1 : Nat) : Int)) (by omega) (by omega), if_pos (by omega), Int.toNat_natCast, n38]
        try dsimp only [ltI]
        rw [sI_ne (k' := 26) (s' := 40) (by omega), n10, sI_ne (k' := 26) (s' := 38) (by omega), sI_ne (k' := 26) (s' := 38) (by omega), n38]
        have g2 : Fm FSn N (sI (sI (sI N 27 19 (min (enc E E.length).length 1) (E.length : Int)) 26 0 40 (((enc E E.length).length : Int) + 1)) 26 0 38 ((E.length : Int) + 1)) := ((Fm.sI (by decide) (by omega) (by omega) (Or.inr (Or.inr ⟨rfl, by decide, by decide⟩))).trans (Fm.sI (by decide) (by omega) (by omega) (Or.inr (Or.inl ⟨rfl, rfl, by omega⟩)))).trans (Fm.sI (by decide) (by omega) (by omega) (Or.inr (Or.inl ⟨rfl, rfl, by omega⟩)))
        have gat : ∀ {k i s : Nat}, ¬ (k = 27 ∧ i = 19 ∧ s = min (enc E E.length).length 1) → ¬ (k = 26 ∧ i = 0 ∧ s = 40) → ¬ (k = 26 ∧ i = 0 ∧ s = 38) → (sI (sI (sI N 27 19 (min (enc E E.length).length 1) (E.length : Int)) 26 0 40 (((enc E E.length).length : Int) + 1)) 26 0 38 ((E.length : Int) + 1)) k i s = N k i s := fun h1 h2 h3 => by rw [sI_ne h3, sI_ne h2, sI_ne h1]
        have p38 : (sI (sI (sI N 27 19 (min (enc E E.length).length 1) (E.length : Int)) 26 0 40 (((enc E E.length).length : Int) + 1)) 26 0 38 ((E.length : Int) + 1)) 26 0 38 = ((E.length + 1 : Nat) : Int) := by rw [sI_self]; rfl
        have p40 : (sI (sI (sI N 27 19 (min (enc E E.length).length 1) (E.length : Int)) 26 0 40 (((enc E E.length).length : Int) + 1)) 26 0 38 ((E.length : Int) + 1)) 26 0 40 = (((enc E E.length).length + 1 : Nat) : Int) := by rw [sI_ne (by omega), sI_self]; rfl
        have p19 : (sI (sI (sI N 27 19 (min (enc E E.length).length 1) (E.length : Int)) 26 0 40 (((enc E E.length).length : Int) + 1)) 26 0 38 ((E.length : Int) + 1)) 27 19 (min (enc E E.length).length 1) = (E.length : Int) := by rw [sI_ne (by omega), sI_ne (by omega), sI_self]
        generalize sI (sI (sI N 27 19 (min (enc E E.length).length 1) (E.length : Int)) 26 0 40 (((enc E E.length).length : Int) + 1)) 26 0 38 ((E.length : Int) + 1) = R at g2 gat p38 p40 p19
        have gend : Fm FSn I R := (fsn g1).trans ((f5.mono fmx_sn).trans g2)
        refine tr_ret ⟨?_, gend⟩
        by_cases q4 : tK bs (tE bs (tE bs p)) = 4
        · obtain ⟨w3, w4⟩ := w1 q4
          have hl1 : (enc E E.length).length ≤ 1 := by
            refine Classical.byContradiction fun y => hno ⟨q4, by omega⟩
          have emin : min (enc E E.length).length 1 = (enc E E.length).length := by omega
          rw [emin] at gat p19
          have heq : enc (E ++ [((12, nV bs (tE bs p), 0) : EN)]) (E ++ [((12, nV bs (tE bs p), 0) : EN)]).length = E.length :: enc E E.length := by rw [enc_next, if_pos rfl]
          rw [if_neg (fun y => y q4)]
          have rIN : ∀ {k i s : Nat}, k ≠ 30 → ¬ FMx k i s → N k i s = M k i s := fun h1 h2 => f5.at h1 h2
          refine ⟨hB.sn gend, ?_, ?_, ⟨by rw [heq]; exact p40, fun d hd => ?_⟩, ?_, ?_⟩
          · exact ⟨by rw [gat (by omega) (by omega) (by omega)]; exact w3.1, by rw [gat (by omega) (by omega) (by omega)]; exact w3.2.1, by rw [gat (by omega) (by omega) (by omega)]; exact w3.2.2.1, fun z => by rw [gat (by omega) (by omega) (by omega)]; exact w3.2.2.2 z⟩
          · refine hSM.app p38 (fun j hj => ⟨?_, ?_, ?_⟩) ⟨?_, fun _ _ => ?_, fun y => absurd (show (12 : Nat) = 8 ∨ (12 : Nat) = 10 from y) (by decide)⟩ (fun k hk hw a t ee => ?_) (fun y => absurd (show (12 : Nat) = 13 from y) (by decide))
            · rw [gat (by omega) (by omega) (by omega), rIN (by decide) (by unfold FMx; omega), g1.at (by decide) (by unfold FMx; omega)]
            · rw [gat (by omega) (by omega) (by omega), rIN (by decide) (by unfold FMx; omega), g1.at (by decide) (by unfold FMx; omega)]
            · rw [gat (by omega) (by omega) (by omega), rIN (by decide) (by unfold FMx; omega), g1.at (by decide) (by unfold FMx; omega)]
            · rw [gat (by omega) (by omega) (by omega), rIN (by decide) (by unfold FMx; omega)]; exact m15
            · rw [gat (by omega) (by omega) (by omega), rIN (by decide) (by unfold FMx; omega), m16]; exact v1
            · rw [gat (by omega) (by omega) (by omega), rIN (by decide) (by unfold FMx; omega), g1.at (by decide) (by unfold FMx; omega)]
          · rw [heq] at hd ⊢
            have hd : d < (enc E E.length).length + 1 := hd
            show R 27 19 d = (((E.length :: enc E E.length).getD ((enc E E.length).length + 1 - 1 - d) 0 : Nat) : Int)
            by_cases qd : d = (enc E E.length).length
            · rw [qd, p19, show (enc E E.length).length + 1 - 1 - (enc E E.length).length = 0 by omega]
              rfl
            · rw [gat (by omega) (by omega) (by omega), rIN (by decide) (by unfold FMx; omega), hOM.2 d (by omega)]
              obtain ⟨u, hu⟩ : ∃ u : Nat, (enc E E.length).length + 1 - 1 - d = u + 1 := ⟨(enc E E.length).length - 1 - d, by omega⟩
              rw [hu, show (enc E E.length).length - 1 - d = u by omega]
              rfl
          · show R 26 0 39 = ((c + 1 : Nat) : Int)
            rw [gat (by omega) (by omega) (by omega), rIN (by decide) (by unfold FMx; omega), ms]
            exact k9
          · rw [gat (by omega) (by omega) (by omega)]; exact w4
        · rw [if_pos q4]
          have e25 : R 26 0 25 = 1 := by rw [gat (by omega) (by omega) (by omega)]; exact w2 q4
          exact ⟨e25, ERR.of e25 (by decide)⟩
      by_cases q4 : tK bs (tE bs (tE bs p)) = 4
      · rw [if_neg (wb_pos q4), hOM.1, w32_of (x := ((enc E E.length).length : Int)) (by omega) (by omega)]
        by_cases q2 : 2 ≤ (enc E E.length).length
        · rw [if_pos (by omega), if_pos ⟨q4, q2⟩]
          unfold f_M_readsOrder_j130
          refine tr_call (mf_1 heM (by decide) (by decide)) ?_
          rintro x K ⟨rfl, b, f⟩
          rw [if_neg (by decide)]
          exact tr_ret ⟨⟨b, ERR.of b (by decide)⟩, (fsn g1).trans (f.mono fem_sn)⟩
        · rw [if_neg (by omega), if_neg (fun y => q2 y.2)]
          exact j129 (fun y => q2 y.2)
      · rw [if_pos (wb_neg q4), if_neg (fun y => q4 y.1)]
        exact j129 (fun y => q4 y.1)
    · have heM : M 26 0 25 = nbE bs (tE bs p) (wLow 12) (wHig 12) := (ms 25).trans (y2 qn)
      have hEM : ERR M := ERR.of heM (nbE_err qn)
      rw [if_pos qn, m_isSignE hEM.ne, bnd_some, if_pos (by decide)]
      unfold f_M_readsOrder_j129 f_M_readsOrder_j130
      rw [mf_E hEM.ne, bnd_some, if_neg (by decide)]
      exact tr_ret ⟨⟨heM, hEM⟩, fsn g1⟩
  · by_cases qn : nbE bs (tE bs p) (wLow (wd bs p)) (wHig (wd bs p)) = 0
    · obtain ⟨v1, v2, v3⟩ := y1 qn
      refine tail x J4 (.inr ((wd bs p, nV bs (tE bs p), 0), tE bs (tE bs p))) q12 f14 k8 k9 k15 ⟨hE2.2.1, v2, v3, rfl, fun _ => v1, fun y => absurd y q8⟩ ?_
      unfold ordP
      rw [if_neg q0, if_neg qc, if_neg q7, if_neg q8, if_neg (fun z => z qn), if_neg q12]
    · refine tail x J4 (.inl (nbE bs (tE bs p) (wLow (wd bs p)) (wHig (wd bs p)))) q12 f14 k8 k9 k15 ⟨y2 qn, ERR.of (y2 qn) (nbE_err qn)⟩ ?_
      unfold ordP
      rw [if_neg q0, if_neg qc, if_neg q7, if_neg q8, if_pos qn]
end MSCR
