/-! ===== scripts: the class reads, second part ===== -/
theorem enc_lt {E : List EN} : ∀ (k x : Nat), x ∈ enc E k → x < k
  | 0, x, h => absurd h List.not_mem_nil
  | k + 1, x, h => by
    have h : x ∈ (if ew E k = 12 then k :: enc E k else if ew E k = 13 then (enc E k).tail else enc E k) := h
    by_cases q : ew E k = 12
    · rw [if_pos q] at h
      rcases List.mem_cons.mp h with z | z
      · omega
      · have := enc_lt k x z; omega
    · rw [if_neg q] at h
      by_cases q2 : ew E k = 13
      · rw [if_pos q2] at h
        have := enc_lt k x (List.mem_of_mem_tail h); omega
      · rw [if_neg q2] at h
        have := enc_lt k x h; omega
theorem enc_gone {E : List EN} {k a : Nat} {t : List Nat} (hw : ew E k = 13) (h : enc E k = a :: t) : ∀ m : Nat, k < m → a ∉ enc E m := by
  obtain ⟨h1, h2, h3⟩ := enc_cons k a t h
  intro m
  induction m with
  | zero => intro hm; omega
  | succ m ih =>
    intro hm hx
    have hx : a ∈ (if ew E m = 12 then m :: enc E m else if ew E m = 13 then (enc E m).tail else enc E m) := hx
    by_cases e : m = k
    · subst e
      rw [if_neg (by omega), if_pos hw, h] at hx
      have hx : a ∈ t := hx
      rw [h3] at hx
      have := enc_lt a a hx
      omega
    · by_cases q : ew E m = 12
      · rw [if_pos q] at hx
        rcases List.mem_cons.mp hx with z | z
        · omega
        · exact ih (by omega) z
      · rw [if_neg q] at hx
        by_cases q2 : ew E m = 13
        · rw [if_pos q2] at hx
          exact ih (by omega) (List.mem_of_mem_tail hx)
        · rw [if_neg q2] at hx
          exact ih (by omega) hx
section CSCR2
variable {I J : Mem} {bs : List Int} {E : List EN} {c p : Nat}
theorem t_readOrder (hl : bs.length ≤ 600) (hr : ∀ b ∈ bs, 1 ≤ b ∧ b ≤ 255) (hS : SEI bs E c p) (h : PCl I bs E c p) : Tr (f_Scr_readOrder I) (fun x K => OKo K bs x (ordP bs E c p) ∧ Fm FSc I K) := by
  obtain ⟨hB, hT, hSC, hO, h9⟩ := id h
  have hp := hS.1
  have hE := tE_le hp
  have hE2 := tE_le hE.2.1
  have hwl := wd_lt bs p
  have hc30 := hS.2.1
  have hcc := hS.2.2.1
  have h22 := hS.2.2.2.1 E.length (Nat.le_refl _)
  unfold f_Scr_readOrder
  rw [c_word hB hl hr hp hT, bnd_some, if_pos hwl, wOrd_01 _ hwl]
  by_cases q0 : wOrd (wd bs p) = 0
  · have eo : ordP bs E c p = .inl 1 := by unfold ordP; rw [if_pos q0]
    rw [if_pos q0, eo]
    refine tr_call (t_fail 1) ?_
    rintro x K ⟨rfl, g1, g2⟩
    rw [if_pos (Or.inl rfl)]
    exact tr_ret ⟨⟨rfl, g1⟩, g2.mono fec_sc⟩
  have hwr := wOrd_1 _ hwl q0
  rw [if_neg q0, h9, w32_of (x := (c : Int)) (by omega) (by omega)]
  by_cases qc : 30 ≤ c
  · have eo : ordP bs E c p = .inl 5 := by unfold ordP; rw [if_neg q0, if_pos qc]
    rw [if_neg (by omega), eo]
    refine tr_call (t_fail 5) ?_
    rintro x K ⟨rfl, g1, g2⟩
    rw [if_pos (Or.inl rfl)]
    exact tr_ret ⟨⟨rfl, g1⟩, g2.mono fec_sc⟩
  have hL : E.length < 60 := by omega
  rw [if_pos (by omega)]
  try dsimp only [ltI]
  rw [c_addEntry (E := E) (by rw [sI_ne (by omega)]; exact hSC.1) (by omega) hwl, bnd_some]
  have f1 : Fm (fun k i s => (k = 8 ∧ (s = 8 ∨ s = 9)) ∨ (k = 20 ∧ s = E.length)) I (sI (sI (sI I 8 0 9 ((c : Int) + 1)) 20 0 E.length (wd bs p : Int)) 8 0 8 ((E.length : Int) + 1)) := ((Fm.sI (by decide) (by omega) (by omega) (Or.inl ⟨rfl, Or.inr rfl⟩)).trans (Fm.sI (by decide) (by omega) (by omega) (Or.inr ⟨rfl, rfl⟩))).trans (Fm.sI (by decide) (by omega) (by omega) (Or.inl ⟨rfl, Or.inl rfl⟩))
  have a8 : (sI (sI (sI I 8 0 9 ((c : Int) + 1)) 20 0 E.length (wd bs p : Int)) 8 0 8 ((E.length : Int) + 1)) 8 0 8 = ((E.length + 1 : Nat) : Int) := by rw [sI_self]; rfl
  have a9 : (sI (sI (sI I 8 0 9 ((c : Int) + 1)) 20 0 E.length (wd bs p : Int)) 8 0 8 ((E.length : Int) + 1)) 8 0 9 = ((c + 1 : Nat) : Int) := by rw [sI_ne (by omega), sI_ne (by omega), sI_self]; rfl
  have a20 : (sI (sI (sI I 8 0 9 ((c : Int) + 1)) 20 0 E.length (wd bs p : Int)) 8 0 8 ((E.length : Int) + 1)) 20 0 E.length = (wd bs p : Int) := by rw [sI_ne (by omega), sI_self]
  generalize sI (sI (sI I 8 0 9 ((c : Int) + 1)) 20 0 E.length (wd bs p : Int)) 8 0 8 ((E.length : Int) + 1) = J1 at f1 a8 a9 a20
  have hB1 : BfC J1 bs := hB.fm f1 (by omega) (fun s => by omega)
  have hT1 : TC J1 bs p := hT.fm f1 (fun s _ _ => by omega)
  refine tr_call (t_advS hB1 hl hr hp hT1) ?_
  rintro _ J2 ⟨t2, f2⟩
  have f12 : Fm (fun k i s => FSx k i s ∨ (k = 8 ∧ (s = 8 ∨ s = 9)) ∨ (k = 20 ∧ s = E.length) ∨ (k = 21 ∧ i < 3 ∧ s = E.length)) I J2 := (f1.mono (fun a b c z => z.elim (fun y => Or.inr (Or.inl y)) (fun y => Or.inr (Or.inr (Or.inl y))))).trans (f2.mono (fun a b c z => Or.inl z))
  have b8 : J2 8 0 8 = ((E.length + 1 : Nat) : Int) := by rw [f2.at (by decide) (by unfold FSx; omega)]; exact a8
  have b9 : J2 8 0 9 = ((c + 1 : Nat) : Int) := by rw [f2.at (by decide) (by unfold FSx; omega)]; exact a9
  have b20 : J2 20 0 E.length = (wd bs p : Int) := by rw [f2.at (by decide) (by unfold FSx; omega)]; exact a20
  have hB2 := hB1.sx f2
  have fsc : ∀ {K : Mem}, Fm (fun k i s => FSx k i s ∨ (k = 8 ∧ (s = 8 ∨ s = 9)) ∨ (k = 20 ∧ s = E.length) ∨ (k = 21 ∧ i < 3 ∧ s = E.length)) I K → Fm FSc I K := fun f => f.mono (fun a b c z => by
    rcases z with z | z | z | z
    · exact Or.inl z
    · exact Or.inr (Or.inl ⟨z.1, by omega⟩)
    · exact Or.inr (Or.inr (Or.inl z.1))
    · exact Or.inr (Or.inr (Or.inr z.1)))
  -- a semicolon behind all, and the entry stands
  have semi : ∀ (q : Nat) (e : EN) (K : Mem), q ≤ bs.length → Fm (fun k i s => FSx k i s ∨ (k = 8 ∧ (s = 8 ∨ s = 9)) ∨ (k = 20 ∧ s = E.length) ∨ (k = 21 ∧ i < 3 ∧ s = E.length)) I K → K 8 0 8 = ((E.length + 1 : Nat) : Int) → K 8 0 9 = ((c + 1 : Nat) : Int) → TC K bs q → ECl K E.length e → e.1 ≠ 12 → e.1 ≠ 13 → ordP bs E c p = (if tK bs q = 3 then .inr (E ++ [e], c + 1, tE bs q) else .inl 1) → Tr (f_Src_pass 3 K) (fun x L => (x = 0 ∨ x = 1) ∧ OKo L bs x (ordP bs E c p) ∧ Fm FSc I L) := by
    intro q e K hq f k8 k9 tK' he n12 n13 eo
    have hBK : BfC K bs := hB.fm f (by unfold FSx; omega) (fun s => by unfold FSx; omega)
    refine tr_mono (t_pass hBK hl hr hq tK' (a := 3) (by omega)) ?_
    rintro x L ⟨rfl, y1, y2, f3⟩
    have fL := f.trans (f3.mono (fun a b c z => Or.inl z))
    refine ⟨bI_01 _, ?_, fsc fL⟩
    rw [eo]
    by_cases z : tK bs q = 3
    · rw [if_pos z]
      refine ⟨bI_pos z, h.add (hBK.sx f3) (y1 z) ?_ ?_ fL ?_ n12 n13⟩
      · rw [f3.at (by decide) (by unfold FSx; omega)]; exact k8
      · rw [f3.at (by decide) (by unfold FSx; omega)]; exact k9
      · obtain ⟨c1, c2, c3⟩ := he
        refine ⟨by rw [f3.at (by decide) (by unfold FSx; omega)]; exact c1, fun z => ?_, fun z1 z2 z3 z4 => by rw [f3.at (by decide) (by unfold FSx; omega)]; exact c3 z1 z2 z3 z4⟩
        rw [f3.at (by decide) (by unfold FSx; omega), f3.at (by decide) (by unfold FSx; omega)]
        exact c2 z
    · rw [if_neg z]
      exact ⟨bI_neg z, y2 z⟩
  have wrap : ∀ {K : Mem}, Tr (f_Src_pass 3 K) (fun x L => (x = 0 ∨ x = 1) ∧ OKo L bs x (ordP bs E c p) ∧ Fm FSc I L) → Tr (bnd (f_Src_pass 3 K) fun x J => if w32 x = 0 then some ((0 : Int), J) else some (1, J)) (fun x L => OKo L bs x (ordP bs E c p) ∧ Fm FSc I L) := fun hk => by
    refine tr_call hk ?_
    rintro x L ⟨z | z, hx⟩
    · rw [z, if_pos (by decide)]; rw [z] at hx; exact tr_ret hx
    · rw [z, if_neg (by decide)]; rw [z] at hx; exact tr_ret hx
  -- a number, then a semicolon
  have num : wd bs p ≠ 7 → ¬ (wd bs p = 8 ∨ wd bs p = 10) → wd bs p ≠ 12 → Tr (bnd (f_Scr_readNumber (E.length : Int) J2) fun x J => if w32 x = 0 then some (0, J) else bnd (f_Src_pass 3 J) fun x J => if w32 x = 0 then some (0, J) else some (1, J)) (fun x L => OKo L bs x (ordP bs E c p) ∧ Fm FSc I L) := by
    intro n7 n8 n12
    refine tr_call (t_cnum hl hr hE.2.1 hwl hL hB2 t2 b20) ?_
    rintro x J3 ⟨rfl, y1, y2, f3⟩
    have f13 : Fm (fun k i s => FSx k i s ∨ (k = 8 ∧ (s = 8 ∨ s = 9)) ∨ (k = 20 ∧ s = E.length) ∨ (k = 21 ∧ i < 3 ∧ s = E.length)) I J3 := f12.trans (f3.mono (fun a b c z => z.elim Or.inl (fun y => Or.inr (Or.inr (Or.inr ⟨y.1, by omega, y.2.2⟩)))))
    by_cases qn : nbE bs (tE bs p) (wLow (wd bs p)) (wHig (wd bs p)) = 0
    · obtain ⟨v1, v2⟩ := y1 qn
      rw [if_neg (wb_pos qn)]
      refine wrap (semi (tE bs (tE bs p)) (wd bs p, nV bs (tE bs p), 0) J3 hE2.2.1 f13 ?_ ?_ v2 ⟨?_, fun z => absurd z n8, fun _ _ _ _ => v1⟩ n12 (by show wd bs p ≠ 13; omega) ?_)
      · rw [f3.at (by decide) (by unfold FSx; omega)]; exact b8
      · rw [f3.at (by decide) (by unfold FSx; omega)]; exact b9
      · rw [f3.at (by decide) (by unfold FSx; omega)]; exact b20
      · unfold ordP
        rw [if_neg q0, if_neg qc, if_neg n7, if_neg n8, if_neg (fun z => z qn), if_neg n12]
    · have eo : ordP bs E c p = .inl (nbE bs (tE bs p) (wLow (wd bs p)) (wHig (wd bs p))) := by
        unfold ordP
        rw [if_neg q0, if_neg qc, if_neg n7, if_neg n8, if_pos qn]
      rw [if_pos (wb_neg qn), eo]
      exact tr_ret ⟨⟨rfl, y2 qn⟩, fsc f13⟩
  -- letters, then a semicolon
  have letr : wd bs p = 8 ∨ wd bs p = 10 → Tr (bnd (f_Scr_readLetters (E.length : Int) J2) fun x J => if w32 x = 0 then some (0, J) else bnd (f_Src_pass 3 J) fun x J => if w32 x = 0 then some (0, J) else some (1, J)) (fun x L => OKo L bs x (ordP bs E c p) ∧ Fm FSc I L) := by
    intro q8
    refine tr_call (t_clet hl hr hE.2.1 hwl hL hB2 t2 b20) ?_
    rintro x J3 ⟨y1, y2, y3, f3⟩
    have f13 : Fm (fun k i s => FSx k i s ∨ (k = 8 ∧ (s = 8 ∨ s = 9)) ∨ (k = 20 ∧ s = E.length) ∨ (k = 21 ∧ i < 3 ∧ s = E.length)) I J3 := f12.trans (f3.mono (fun a b c z => z.elim Or.inl (fun y => Or.inr (Or.inr (Or.inr ⟨y.1, by omega, y.2.2⟩)))))
    by_cases z1 : tK bs (tE bs p) = 1
    · by_cases z2 : wd bs p = 8 ∧ tE bs (tE bs p) - tF bs (tE bs p) ≠ 2
      · obtain ⟨rfl, v⟩ := y2 z1 z2
        have eo : ordP bs E c p = .inl 4 := by
          unfold ordP
          rw [if_neg q0, if_neg qc, if_neg (by omega), if_pos q8, if_neg (fun z => z z1), if_pos z2]
        rw [if_pos (by decide), eo]
        exact tr_ret ⟨⟨rfl, v⟩, fsc f13⟩
      · obtain ⟨rfl, v1, v2, v3⟩ := y3 z1 z2
        rw [if_neg (by decide)]
        refine wrap (semi (tE bs (tE bs p)) (wd bs p, (tF bs (tE bs p) : Int), tE bs (tE bs p) - tF bs (tE bs p)) J3 hE2.2.1 f13 ?_ ?_ v3 ⟨?_, fun _ => ⟨v1, v2⟩, fun _ n8 n10 => absurd q8 (fun z => z.elim n8 n10)⟩ (by show wd bs p ≠ 12; omega) (by show wd bs p ≠ 13; omega) ?_)
        · rw [f3.at (by decide) (by unfold FSx; omega)]; exact b8
        · rw [f3.at (by decide) (by unfold FSx; omega)]; exact b9
        · rw [f3.at (by decide) (by unfold FSx; omega)]; exact b20
        · unfold ordP
          rw [if_neg q0, if_neg qc, if_neg (by omega), if_pos q8, if_neg (fun z => z z1), if_neg z2]
    · obtain ⟨rfl, v⟩ := y1 z1
      have eo : ordP bs E c p = .inl 1 := by
        unfold ordP
        rw [if_neg q0, if_neg qc, if_neg (by omega), if_pos q8, if_pos z1]
      rw [if_pos (by decide), eo]
      exact tr_ret ⟨⟨rfl, v⟩, fsc f13⟩
  rw [w32_of (x := ((wd bs p : Nat) : Int)) (by omega) (by omega), if_pos (by omega), Int.toNat_natCast]
  rcases (show wd bs p = 3 ∨ wd bs p = 4 ∨ wd bs p = 5 ∨ wd bs p = 6 ∨ wd bs p = 7 ∨ wd bs p = 8 ∨ wd bs p = 9 ∨ wd bs p = 10 ∨ wd bs p = 11 ∨ wd bs p = 12 by omega) with z | z | z | z | z | z | z | z | z | z
  · rw [show w32 (wSm.getD (wd bs p) 0) = 7 by rw [z]; decide, if_neg (by decide), if_neg (by decide), if_neg (by decide), if_neg (by decide), if_neg (by decide), if_pos rfl]
    exact num (by omega) (by omega) (by omega)
  · rw [show w32 (wSm.getD (wd bs p) 0) = 8 by rw [z]; decide, if_neg (by decide), if_neg (by decide), if_neg (by decide), if_neg (by decide), if_neg (by decide), if_neg (by decide), if_pos rfl]
    exact num (by omega) (by omega) (by omega)
  · rw [show w32 (wSm.getD (wd bs p) 0) = 9 by rw [z]; decide, if_neg (by decide), if_neg (by decide), if_neg (by decide), if_neg (by decide), if_neg (by decide), if_neg (by decide), if_neg (by decide), if_pos rfl]
    exact num (by omega) (by omega) (by omega)
  · rw [show w32 (wSm.getD (wd bs p) 0) = 1 by rw [z]; decide, if_neg (by decide), if_neg (by decide), if_neg (by decide), if_neg (by decide), if_neg (by decide), if_neg (by decide), if_neg (by decide), if_neg (by decide), if_neg (by decide)]
    exact num (by omega) (by omega) (by omega)
  · rw [show w32 (wSm.getD (wd bs p) 0) = 2 by rw [z]; decide, if_pos rfl]
    refine tr_call (semi (tE bs p) (7, 0, 0) J2 hE.2.1 f12 b8 b9 t2 ⟨by rw [b20, z], fun y => absurd (show (7 : Nat) = 8 ∨ (7 : Nat) = 10 from y) (by decide), fun y => absurd rfl y⟩ (by decide) (by decide) ?_) ?_
    · unfold ordP
      rw [if_neg q0, if_neg qc, if_pos z]
    · rintro x L ⟨h01, hx⟩
      rw [if_pos h01]
      exact tr_ret hx
  · rw [show w32 (wSm.getD (wd bs p) 0) = 3 by rw [z]; decide, if_neg (by decide), if_pos rfl]
    exact letr (Or.inl z)
  · rw [show w32 (wSm.getD (wd bs p) 0) = 4 by rw [z]; decide, if_neg (by decide), if_neg (by decide), if_pos rfl]
    exact num (by omega) (by omega) (by omega)
  · rw [show w32 (wSm.getD (wd bs p) 0) = 5 by rw [z]; decide, if_neg (by decide), if_neg (by decide), if_neg (by decide), if_pos rfl]
    exact letr (Or.inr z)
  · rw [show w32 (wSm.getD (wd bs p) 0) = 6 by rw [z]; decide, if_neg (by decide), if_neg (by decide), if_neg (by decide), if_neg (by decide), if_pos rfl]
    exact num (by omega) (by omega) (by omega)
  · rw [show w32 (wSm.getD (wd bs p) 0) = 10 by rw [z]; decide, if_neg (by decide), if_neg (by decide), if_neg (by decide), if_neg (by decide), if_neg (by decide), if_neg (by decide), if_neg (by decide), if_neg (by decide), if_pos rfl]
    have e0 : ordP bs E c p = (if nbE bs (tE bs p) (wLow (wd bs p)) (wHig (wd bs p)) ≠ 0 then .inl (nbE bs (tE bs p) (wLow (wd bs p)) (wHig (wd bs p))) else if tK bs (tE bs (tE bs p)) = 4 ∧ 2 ≤ (enc E E.length).length then .inl 5 else if tK bs (tE bs (tE bs p)) ≠ 4 then .inl 1 else .inr (E ++ [(12, nV bs (tE bs p), 0)], c + 1, tE bs (tE bs (tE bs p)))) := by
      unfold ordP
      rw [if_neg q0, if_neg qc, if_neg (by omega), if_neg (by omega)]
      by_cases qn : nbE bs (tE bs p) (wLow (wd bs p)) (wHig (wd bs p)) ≠ 0
      · rw [if_pos qn, if_pos qn]
      · rw [if_neg qn, if_neg qn, if_pos z]
    rw [e0]
    refine tr_call (t_cnum hl hr hE.2.1 hwl hL hB2 t2 b20) ?_
    rintro x J3 ⟨rfl, y1, y2, f3⟩
    have f13 : Fm (fun k i s => FSx k i s ∨ (k = 8 ∧ (s = 8 ∨ s = 9)) ∨ (k = 20 ∧ s = E.length) ∨ (k = 21 ∧ i < 3 ∧ s = E.length)) I J3 := f12.trans (f3.mono (fun a b c z => z.elim Or.inl (fun y => Or.inr (Or.inr (Or.inr ⟨y.1, by omega, y.2.2⟩)))))
    by_cases qn : nbE bs (tE bs p) (wLow (wd bs p)) (wHig (wd bs p)) = 0
    · obtain ⟨v1, v2⟩ := y1 qn
      rw [if_neg (wb_pos qn), if_neg (fun z => z qn)]
      have hB3 : BfC J3 bs := hB.fm f13 (by unfold FSx; omega) (fun s => by unfold FSx; omega)
      have hO3 : OPc J3 E := hO.fm f13 (by unfold FSx; omega) (fun s => by unfold FSx; omega)
      have k8 : J3 8 0 8 = ((E.length + 1 : Nat) : Int) := by rw [f3.at (by decide) (by unfold FSx; omega)]; exact b8
      have k9 : J3 8 0 9 = ((c + 1 : Nat) : Int) := by rw [f3.at (by decide) (by unfold FSx; omega)]; exact b9
      have k20 : J3 20 0 E.length = 12 := by rw [f3.at (by decide) (by unfold FSx; omega), b20, z]; rfl
      unfold f_Scr_readOpen
      rw [c_is v2 (by omega), bnd_some]
      -- the bracket
      have j28 : ¬ (tK bs (tE bs (tE bs p)) = 4 ∧ 2 ≤ (enc E E.length).length) → Tr (f_Scr_readOpen_j28 (E.length : Int) J3) (fun x K => (x = 0 ∨ x = 1) ∧ OKo K bs x (if tK bs (tE bs (tE bs p)) ≠ 4 then .inl 1 else .inr (E ++ [(12, nV bs (tE bs p), 0)], c + 1, tE bs (tE bs (tE bs p)))) ∧ Fm FSc I K) := by
        intro hno
        unfold f_Scr_readOpen_j28
        refine tr_call (t_pass hB3 hl hr hE2.2.1 v2 (a := 4) (by omega)) ?_
        rintro x J4 ⟨rfl, w1, w2, f4⟩
        by_cases q4 : tK bs (tE bs (tE bs p)) = 4
        · have e10 : J4 8 0 10 = ((enc E E.length).length : Int) := by rw [f4.at (by decide) (by unfold FSx; omega)]; exact hO3.1
          rw [if_neg (wb_pos q4), e10, w32_of (x := ((enc E E.length).length : Int)) (by omega) (by omega), if_pos (by omega), Int.toNat_natCast, if_neg (fun y => y q4)]
          try dsimp only [ltI]
          rw [sI_ne (k' := 8) (by omega), e10]
          have f5 : Fm (fun k i s => (k = 21 ∧ i = 5 ∧ s = (enc E E.length).length) ∨ (k = 8 ∧ s = 10)) J4 (sI (sI J4 21 5 (enc E E.length).length (E.length : Int)) 8 0 10 (((enc E E.length).length : Int) + 1)) := (Fm.sI (by decide) (by omega) (by omega) (Or.inl ⟨rfl, rfl, rfl⟩)).trans (Fm.sI (by decide) (by omega) (by omega) (Or.inr ⟨rfl, rfl⟩))
          have c10 : (sI (sI J4 21 5 (enc E E.length).length (E.length : Int)) 8 0 10 (((enc E E.length).length : Int) + 1)) 8 0 10 = (((enc E E.length).length + 1 : Nat) : Int) := by rw [sI_self]; rfl
          have c21 : (sI (sI J4 21 5 (enc E E.length).length (E.length : Int)) 8 0 10 (((enc E E.length).length : Int) + 1)) 21 5 (enc E E.length).length = (E.length : Int) := by rw [sI_ne (by omega), sI_self]
          generalize sI (sI J4 21 5 (enc E E.length).length (E.length : Int)) 8 0 10 (((enc E E.length).length : Int) + 1) = J5 at f5 c10 c21
          have fend : Fm (fun k i s => FSx k i s ∨ (k = 8 ∧ 8 ≤ s) ∨ (k = 20 ∧ s = E.length) ∨ (k = 21 ∧ i < 3 ∧ s = E.length) ∨ (k = 21 ∧ i = 5 ∧ s = (enc E E.length).length)) I J5 := (f13.mono (fun a b c z => by
            rcases z with z | z | z | z
            · exact Or.inl z
            · exact Or.inr (Or.inl ⟨z.1, by omega⟩)
            · exact Or.inr (Or.inr (Or.inl z))
            · exact Or.inr (Or.inr (Or.inr (Or.inl z))))).trans ((f4.mono (fun a b c z => Or.inl z)).trans (f5.mono (fun a b c z => z.elim (fun y => Or.inr (Or.inr (Or.inr (Or.inr y)))) (fun y => Or.inr (Or.inl ⟨y.1, by omega⟩)))))
          have heq : enc (E ++ [((12, nV bs (tE bs p), 0) : EN)]) (E ++ [((12, nV bs (tE bs p), 0) : EN)]).length = E.length :: enc E E.length := by rw [enc_next, if_pos rfl]
          refine tr_ret ⟨Or.inr rfl, ⟨rfl, ((hB3.sx f4).fm f5 (by omega) (fun s => by omega)), (w1 q4).fm f5 (fun s _ _ => by omega), ?_, ?_, ?_⟩, fend.mono (fun a b c z => by
            rcases z with z | z | z | z | z
            · exact Or.inl z
            · exact Or.inr (Or.inl z)
            · exact Or.inr (Or.inr (Or.inl z.1))
            · exact Or.inr (Or.inr (Or.inr z.1))
            · exact Or.inr (Or.inr (Or.inr z.1)))⟩
          · have at45 : ∀ {k i s : Nat}, k ≠ 30 → ¬ FSx k i s → ¬ ((k = 21 ∧ i = 5 ∧ s = (enc E E.length).length) ∨ (k = 8 ∧ s = 10)) → J5 k i s = J3 k i s := fun h1 h2 h3 => (f5.at h1 h3).trans (f4.at h1 h2)
            refine hSC.app ?_ (fun j hj => ⟨?_, ?_, ?_, ?_⟩) ⟨?_, fun y => absurd (show (12 : Nat) = 8 ∨ (12 : Nat) = 10 from y) (by decide), fun _ _ _ _ => ?_⟩ (fun k hk hw a t ee => ⟨?_, ?_⟩) (fun y => absurd (show (12 : Nat) = 13 from y) (by decide))
            · rw [at45 (by decide) (by unfold FSx; omega) (by omega)]; exact k8
            · exact fend.at (by decide) (by unfold FSx; omega)
            · exact fend.at (by decide) (by unfold FSx; omega)
            · exact fend.at (by decide) (by unfold FSx; omega)
            · exact fend.at (by decide) (by unfold FSx; omega)
            · rw [at45 (by decide) (by unfold FSx; omega) (by omega)]; exact k20
            · rw [at45 (by decide) (by unfold FSx; omega) (by omega)]; exact v1
            · exact fend.at (by decide) (by unfold FSx; omega)
            · exact fend.at (by decide) (by unfold FSx; omega)
          · refine ⟨by rw [heq]; exact c10, fun d hd => ?_⟩
            rw [heq] at hd ⊢
            have hd : d < (enc E E.length).length + 1 := hd
            show J5 21 5 d = (((E.length :: enc E E.length).getD ((enc E E.length).length + 1 - 1 - d) 0 : Nat) : Int)
            by_cases qd : d = (enc E E.length).length
            · rw [qd, c21, show (enc E E.length).length + 1 - 1 - (enc E E.length).length = 0 by omega]
              rfl
            · rw [f5.at (by decide) (by omega), f4.at (by decide) (by unfold FSx; omega), hO3.2 d (by omega)]
              obtain ⟨u, hu⟩ : ∃ u : Nat, (enc E E.length).length + 1 - 1 - d = u + 1 := ⟨(enc E E.length).length - 1 - d, by omega⟩
              rw [hu, show (enc E E.length).length - 1 - d = u by omega]
              rfl
          · show J5 8 0 9 = ((c + 1 : Nat) : Int)
            rw [f5.at (by decide) (by omega), f4.at (by decide) (by unfold FSx; omega)]
            exact k9
        · rw [if_pos (wb_neg q4), if_pos q4]
          exact tr_ret ⟨Or.inl rfl, ⟨rfl, w2 q4⟩, fsc (f13.trans (f4.mono (fun a b c z => Or.inl z)))⟩
      have wrapO : ∀ {K : Mem} {o : Int ⊕ PS} {e : Option (Int × Mem)}, Tr e (fun x L => (x = 0 ∨ x = 1) ∧ OKo L bs x o ∧ Fm FSc I L) → Tr (bnd e fun x J => if w32 x = 0 then some ((0 : Int), J) else some (1, J)) (fun x L => OKo L bs x o ∧ Fm FSc I L) := fun hk => by
        refine tr_call hk ?_
        rintro x L ⟨z | z, hx⟩
        · rw [z, if_pos (by decide)]; rw [z] at hx; exact tr_ret hx
        · rw [z, if_neg (by decide)]; rw [z] at hx; exact tr_ret hx
      refine wrapO (K := I) ?_
      by_cases q4 : tK bs (tE bs (tE bs p)) = 4
      · rw [if_neg (wb_pos q4), hO3.1, w32_of (x := ((enc E E.length).length : Int)) (by omega) (by omega)]
        by_cases q2 : 2 ≤ (enc E E.length).length
        · rw [if_neg (by omega), if_pos ⟨q4, q2⟩]
          refine tr_call (t_fail 5) ?_
          rintro x K ⟨rfl, g1, g2⟩
          rw [if_pos (Or.inl rfl)]
          exact tr_ret ⟨Or.inl rfl, ⟨rfl, g1⟩, fsc (f13.trans (g2.mono (fun a b c z => Or.inl (fec_sx _ _ _ z))))⟩
        · rw [if_pos (by omega), if_neg (fun y => q2 y.2)]
          exact j28 (fun y => q2 y.2)
      · rw [if_pos (wb_neg q4), if_neg (fun y => q4 y.1)]
        exact j28 (fun y => q4 y.1)
    · rw [if_pos (wb_neg qn), if_pos qn]
      exact tr_ret ⟨⟨rfl, y2 qn⟩, fsc f13⟩
end CSCR2
