/-! ===== scripts: the class reads ===== -/
section CSCR
variable {I J : Mem} {bs : List Int} {E : List EN} {c p : Nat}
/-- the class holds an entry -/
def ECl (I : Mem) (j : Nat) (e : EN) : Prop := I 20 0 j = (e.1 : Int) ∧ (e.1 = 8 ∨ e.1 = 10 → I 21 1 j = e.2.1 ∧ I 21 2 j = (e.2.2 : Int)) ∧ (e.1 ≠ 7 → e.1 ≠ 8 → e.1 ≠ 10 → e.1 ≠ 13 → I 21 0 j = e.2.1)
def SCl (I : Mem) (E : List EN) : Prop := I 8 0 8 = (E.length : Int) ∧ (∀ j : Nat, j < E.length → ECl I j (eD E j)) ∧ ∀ k : Nat, k < E.length → ew E k = 13 → ∀ (a : Nat) (t : List Nat), enc E k = a :: t → I 21 3 k = (a : Int) ∧ I 21 3 a = (k : Int)
def OPc (I : Mem) (E : List EN) : Prop := I 8 0 10 = ((enc E E.length).length : Int) ∧ ∀ d : Nat, d < (enc E E.length).length → I 21 5 d = (((enc E E.length).getD ((enc E E.length).length - 1 - d) 0 : Nat) : Int)
def PCl (I : Mem) (bs : List Int) (E : List EN) (c p : Nat) : Prop := BfC I bs ∧ TC I bs p ∧ SCl I E ∧ OPc I E ∧ I 8 0 9 = (c : Int)
abbrev FSc : FP := fun k i s => FSx k i s ∨ (k = 8 ∧ 8 ≤ s) ∨ k = 20 ∨ k = 21
def OKo (K : Mem) (bs : List Int) (x : Int) : Int ⊕ PS → Prop
  | .inl e => x = 0 ∧ K 6 0 6 = e
  | .inr s => x = 1 ∧ PCl K bs s.1 s.2.1 s.2.2
theorem fsx_sc : ∀ k i s : Nat, FSx k i s → FSc k i s := fun _ _ _ z => Or.inl z
theorem fec_sc : ∀ k i s : Nat, FEc k i s → FSc k i s := fun _ _ _ z => Or.inl (fec_sx _ _ _ z)
theorem BfC.scr (h : BfC I bs) (f : Fm FSc I J) : BfC J bs := h.fm f (by unfold FSc FSx; omega) (fun s => by unfold FSc FSx; omega)
theorem SCl.fm {F : FP} (h : SCl I E) (f : Fm F I J) (h8 : ¬ F 8 0 8) (hn : ∀ k i s : Nat, k = 20 ∨ (k = 21 ∧ i < 4) → ¬ F k i s) : SCl J E := by
  obtain ⟨a1, a2, a3⟩ := h
  refine ⟨by rw [f.at (by decide) h8]; exact a1, fun j hj => ?_, fun k hk hw a t e => ?_⟩
  · obtain ⟨b1, b2, b3⟩ := a2 j hj
    refine ⟨by rw [f.at (by decide) (hn _ _ _ (Or.inl rfl))]; exact b1, fun z => ?_, fun z1 z2 z3 z4 => by rw [f.at (by decide) (hn _ _ _ (Or.inr ⟨rfl, by decide⟩))]; exact b3 z1 z2 z3 z4⟩
    rw [f.at (by decide) (hn _ _ _ (Or.inr ⟨rfl, by decide⟩)), f.at (by decide) (hn _ _ _ (Or.inr ⟨rfl, by decide⟩))]
    exact b2 z
  · rw [f.at (by decide) (hn _ _ _ (Or.inr ⟨rfl, by decide⟩)), f.at (by decide) (hn _ _ _ (Or.inr ⟨rfl, by decide⟩))]
    exact a3 k hk hw a t e
theorem OPc.fm {F : FP} (h : OPc I E) (f : Fm F I J) (h8 : ¬ F 8 0 10) (hn : ∀ s : Nat, ¬ F 21 5 s) : OPc J E := ⟨by rw [f.at (by decide) h8]; exact h.1, fun d hd => by rw [f.at (by decide) (hn d)]; exact h.2 d hd⟩
theorem PCl.sx (h : PCl I bs E c p) {q : Nat} (f : Fm FSx I J) (hT : TC J bs q) : PCl J bs E c q := ⟨h.1.sx f, hT, h.2.2.1.fm f (by unfold FSx; omega) (fun k i s z => by unfold FSx; omega), h.2.2.2.1.fm f (by unfold FSx; omega) (fun s => by unfold FSx; omega), by rw [f.at (by decide) (by unfold FSx; omega)]; exact h.2.2.2.2⟩
/-- the memory of E with one more entry, said of the fields alone -/
theorem SCl.app {e : EN} (h : SCl I E) (h8 : J 8 0 8 = ((E.length + 1 : Nat) : Int)) (hk : ∀ j : Nat, j < E.length → J 20 0 j = I 20 0 j ∧ J 21 0 j = I 21 0 j ∧ J 21 1 j = I 21 1 j ∧ J 21 2 j = I 21 2 j) (he : ECl J E.length e) (h3 : ∀ k : Nat, k < E.length → ew E k = 13 → ∀ (a : Nat) (t : List Nat), enc E k = a :: t → J 21 3 k = I 21 3 k ∧ J 21 3 a = I 21 3 a) (h13 : e.1 = 13 → ∀ (a : Nat) (t : List Nat), enc E E.length = a :: t → J 21 3 E.length = (a : Int) ∧ J 21 3 a = (E.length : Int)) : SCl J (E ++ [e]) := by
  have hl : (E ++ [e]).length = E.length + 1 := by rw [List.length_append]; rfl
  obtain ⟨a1, a2, a3⟩ := h
  refine ⟨by rw [hl]; exact h8, fun j hj => ?_, fun k hkk hw a t ee => ?_⟩
  · by_cases q : j = E.length
    · rw [q, eD_last]; exact he
    · have hj : j < E.length := by omega
      obtain ⟨k1, k2, k3, k4⟩ := hk j hj
      obtain ⟨b1, b2, b3⟩ := a2 j hj
      rw [eD_app hj]
      exact ⟨k1.trans b1, fun z => ⟨k3.trans (b2 z).1, k4.trans (b2 z).2⟩, fun z1 z2 z3 z4 => k2.trans (b3 z1 z2 z3 z4)⟩
  · by_cases q : k = E.length
    · subst q
      rw [ew_last] at hw
      rw [enc_app (Nat.le_refl _)] at ee
      exact h13 hw a t ee
    · have hk2 : k < E.length := by omega
      rw [ew_app hk2] at hw
      rw [enc_app (by omega)] at ee
      obtain ⟨z1, z2⟩ := h3 k hk2 hw a t ee
      obtain ⟨y1, y2⟩ := a3 k hk2 hw a t ee
      exact ⟨z1.trans y1, z2.trans y2⟩
theorem c_addEntry (h8 : I 8 0 8 = (E.length : Int)) (hl : E.length ≤ 59) {w : Nat} (hw : w < 15) : f_Scr_addEntry w I = some ((E.length : Int), sI (sI I 20 0 E.length (w : Int)) 8 0 8 ((E.length : Int) + 1)) := by
  have e : imn (E.length : Int) 59 = (E.length : Int) := by
    rw [show (59 : Int) = ((59 : Nat) : Int) from rfl, imn_nat _ _ (by omega) (by omega), Nat.min_eq_left (by omega)]
  unfold f_Scr_addEntry
  rw [if_pos hw, h8, e, w32_of (x := (E.length : Int)) (by omega) (by omega), if_pos (by omega), Int.toNat_natCast]
  try dsimp only [ltI]
  try rw [sI_ne (by omega), h8, e]
/-- behind the entry of an order: what is still to be read -/
theorem t_cnum {w : Nat} (hl : bs.length ≤ 600) (hr : ∀ b ∈ bs, 1 ≤ b ∧ b ≤ 255) (hp : p ≤ bs.length) (hw : w < 15) {L : Nat} (hL : L < 60) (hB : BfC I bs) (hT : TC I bs p) (h20 : I 20 0 L = (w : Int)) : Tr (f_Scr_readNumber (L : Int) I) (fun x K => x = bI (nbE bs p (wLow w) (wHig w) = 0) ∧ (nbE bs p (wLow w) (wHig w) = 0 → K 21 0 L = nV bs p ∧ TC K bs (tE bs p)) ∧ (nbE bs p (wLow w) (wHig w) ≠ 0 → K 6 0 6 = nbE bs p (wLow w) (wHig w)) ∧ Fm (fun k i s => FSx k i s ∨ (k = 21 ∧ i = 0 ∧ s = L)) I K) := by
  have hlh := wLH w hw
  unfold f_Scr_readNumber
  rw [w32_of (x := (L : Int)) (by omega) (by omega), if_pos (by omega), Int.toNat_natCast, h20, Int.toNat_natCast, if_pos hw, if_pos hw]
  refine tr_call (t_readNumber hB hl hr hp hT ⟨hlh.1, hlh.2.1⟩ ⟨hlh.2.2.1, hlh.2.2.2⟩) ?_
  rintro x J1 ⟨rfl, n1, n2, t1, f1⟩
  by_cases q : nbE bs p (wLow w) (wHig w) = 0
  · rw [if_neg (wb_pos q), n1 q]
    try dsimp only [ltI]
    have f2 : Fm (fun k i s => k = 21 ∧ i = 0 ∧ s = L) J1 (sI J1 21 0 L (nV bs p)) := Fm.sI (by decide) (by omega) (by omega) ⟨rfl, rfl, rfl⟩
    have e21 : (sI J1 21 0 L (nV bs p)) 21 0 L = nV bs p := sI_self _ _ _ _ _
    generalize sI J1 21 0 L (nV bs p) = J2 at f2 e21
    refine tr_call (t_advS ((hB.sx f1).fm f2 (by omega) (fun s => by omega)) hl hr hp (t1.fm f2 (fun s _ _ => by omega))) ?_
    rintro _ J3 ⟨t3, f3⟩
    refine tr_ret ⟨(bI_pos q).symm, fun _ => ⟨by rw [f3.at (by decide) (by unfold FSx; omega)]; exact e21, t3⟩, fun z => absurd q z, (f1.mono (fun a b c z => Or.inl z)).trans ((f2.mono (fun a b c z => Or.inr z)).trans (f3.mono (fun a b c z => Or.inl z)))⟩
  · rw [if_pos (wb_neg q)]
    exact tr_ret ⟨(bI_neg q).symm, fun z => absurd z q, n2, f1.mono (fun a b c z => Or.inl z)⟩
theorem t_clet {w : Nat} (hl : bs.length ≤ 600) (hr : ∀ b ∈ bs, 1 ≤ b ∧ b ≤ 255) (hp : p ≤ bs.length) (hw : w < 15) {L : Nat} (hL : L < 60) (hB : BfC I bs) (hT : TC I bs p) (h20 : I 20 0 L = (w : Int)) : Tr (f_Scr_readLetters (L : Int) I) (fun x K => (tK bs p ≠ 1 → x = 0 ∧ K 6 0 6 = 1) ∧ (tK bs p = 1 → w = 8 ∧ tE bs p - tF bs p ≠ 2 → x = 0 ∧ K 6 0 6 = 4) ∧ (tK bs p = 1 → ¬ (w = 8 ∧ tE bs p - tF bs p ≠ 2) → x = 1 ∧ K 21 1 L = (tF bs p : Int) ∧ K 21 2 L = ((tE bs p - tF bs p : Nat) : Int) ∧ TC K bs (tE bs p)) ∧ Fm (fun k i s => FSx k i s ∨ (k = 21 ∧ (i = 1 ∨ i = 2) ∧ s = L)) I K) := by
  have hE := tE_le hp
  have j52 : Tr (f_Scr_readLetters_j52 (L : Int) I) (fun x K => (x = 1 ∧ K 21 1 L = (tF bs p : Int) ∧ K 21 2 L = ((tE bs p - tF bs p : Nat) : Int) ∧ TC K bs (tE bs p)) ∧ Fm (fun k i s => FSx k i s ∨ (k = 21 ∧ (i = 1 ∨ i = 2) ∧ s = L)) I K) := by
    unfold f_Scr_readLetters_j52
    rw [w32_of (x := (L : Int)) (by omega) (by omega), if_pos (by omega), Int.toNat_natCast]
    try dsimp only [ltI]
    rw [sI_ne (k' := 6) (s' := 4) (by omega), sI_ne (k' := 6) (s' := 3) (by omega), hT.2.1, hT.2.2]
    have f2 : Fm (fun k i s => k = 21 ∧ (i = 1 ∨ i = 2) ∧ s = L) I (sI (sI I 21 1 L ((tF bs p : Nat) : Int)) 21 2 L (((tE bs p : Nat) : Int) - ((tF bs p : Nat) : Int))) := (Fm.sI (by decide) (by omega) (by omega) ⟨rfl, Or.inl rfl, rfl⟩).trans (Fm.sI (by decide) (by omega) (by omega) ⟨rfl, Or.inr rfl, rfl⟩)
    have e1 : (sI (sI I 21 1 L ((tF bs p : Nat) : Int)) 21 2 L (((tE bs p : Nat) : Int) - ((tF bs p : Nat) : Int))) 21 1 L = (tF bs p : Int) := by rw [sI_ne (by omega), sI_self]
    have e2 : (sI (sI I 21 1 L ((tF bs p : Nat) : Int)) 21 2 L (((tE bs p : Nat) : Int) - ((tF bs p : Nat) : Int))) 21 2 L = ((tE bs p - tF bs p : Nat) : Int) := by rw [sI_self]; omega
    generalize sI (sI I 21 1 L ((tF bs p : Nat) : Int)) 21 2 L (((tE bs p : Nat) : Int) - ((tF bs p : Nat) : Int)) = J2 at f2 e1 e2
    refine tr_call (t_advS (hB.fm f2 (by omega) (fun s => by omega)) hl hr hp (hT.fm f2 (fun s _ _ => by omega))) ?_
    rintro _ J3 ⟨t3, f3⟩
    exact tr_ret ⟨⟨rfl, by rw [f3.at (by decide) (by unfold FSx; omega)]; exact e1, by rw [f3.at (by decide) (by unfold FSx; omega)]; exact e2, t3⟩, (f2.mono (fun a b c z => Or.inr z)).trans (f3.mono (fun a b c z => Or.inl z))⟩
  unfold f_Scr_readLetters
  rw [c_is hT (by omega), bnd_some]
  by_cases q : tK bs p = 1
  · rw [if_neg (wb_pos q), w32_of (x := (L : Int)) (by omega) (by omega), if_pos (by omega), Int.toNat_natCast, h20, Int.toNat_natCast, if_pos hw]
    by_cases q8 : w = 8
    · rw [if_pos q8, hT.2.1, hT.2.2, w32_of (x := ((tE bs p : Nat) : Int) - ((tF bs p : Nat) : Int)) (by omega) (by omega)]
      by_cases q2 : tE bs p - tF bs p = 2
      · rw [if_pos (by omega)]
        exact tr_mono j52 (fun x K z => ⟨fun y => absurd q y, fun _ y => absurd q2 y.2, fun _ _ => z.1, z.2⟩)
      · rw [if_neg (by omega)]
        refine tr_call (t_fail 4) ?_
        rintro x K ⟨rfl, g1, g2⟩
        rw [if_pos (Or.inl rfl)]
        exact tr_ret ⟨fun y => absurd q y, fun _ _ => ⟨rfl, g1⟩, fun _ y => absurd ⟨q8, q2⟩ y, g2.mono (fun a b c z => Or.inl (fec_sx _ _ _ z))⟩
    · rw [if_neg q8]
      exact tr_mono j52 (fun x K z => ⟨fun y => absurd q y, fun _ y => absurd y.1 q8, fun _ _ => z.1, z.2⟩)
  · rw [if_pos (wb_neg q)]
    refine tr_call (t_fail 1) ?_
    rintro x K ⟨rfl, g1, g2⟩
    rw [if_pos (Or.inl rfl)]
    exact tr_ret ⟨fun _ => ⟨rfl, g1⟩, fun y => absurd y q, fun y => absurd y q, g2.mono (fun a b c z => Or.inl (fec_sx _ _ _ z))⟩
/-- an entry added by hand: what stands then -/
theorem PCl.add {e : EN} {q c' : Nat} (h : PCl I bs E c p) (hB : BfC J bs) (hT : TC J bs q) (h8 : J 8 0 8 = ((E.length + 1 : Nat) : Int)) (h9 : J 8 0 9 = (c' : Int)) (f : Fm (fun k i s => FSx k i s ∨ (k = 8 ∧ (s = 8 ∨ s = 9)) ∨ (k = 20 ∧ s = E.length) ∨ (k = 21 ∧ i < 3 ∧ s = E.length)) I J) (he : ECl J E.length e) (h12 : e.1 ≠ 12) (h13 : e.1 ≠ 13) : PCl J bs (E ++ [e]) c' q := by
  have heq : enc (E ++ [e]) (E ++ [e]).length = enc E E.length := by rw [enc_next, if_neg h12, if_neg h13]
  refine ⟨hB, hT, h.2.2.1.app h8 (fun j hj => ⟨?_, ?_, ?_, ?_⟩) he (fun k hk hw a t ee => ⟨?_, ?_⟩) (fun z => absurd z h13), ?_, h9⟩
  · exact f.at (by decide) (by unfold FSx; omega)
  · exact f.at (by decide) (by unfold FSx; omega)
  · exact f.at (by decide) (by unfold FSx; omega)
  · exact f.at (by decide) (by unfold FSx; omega)
  · exact f.at (by decide) (by unfold FSx; omega)
  · exact f.at (by decide) (by unfold FSx; omega)
  · have := h.2.2.2.1.fm f (by unfold FSx; omega) (fun s => by unfold FSx; omega)
    unfold OPc at this ⊢
    rw [heq]
    exact this
end CSCR
