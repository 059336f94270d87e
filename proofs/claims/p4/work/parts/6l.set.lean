/-! ===== setups: what they say; the class's items ===== -/
def letL (l : List Int) : List Int := l.map (fun b => b - 97)
def itm (bs : List Int) (L : Nat → Int) (k : Nat) (l : List Int) (p : Nat) : Option (List Int × Nat) :=
  if tK bs p = 1 then (if 400 < ll L l + ((tE bs p - tF bs p : Nat) : Int) then none else some (l ++ letL (tkL bs p), tE bs p))
  else (if nbE bs (tE bs p) 0 39 = 0 ∧ l.length < 400 ∧ nV bs (tE bs p) < (k : Int) ∧ ll L l + L (nV bs (tE bs p)).toNat ≤ 400 ∧ tK bs (tE bs (tE bs p)) = 5 then some (l ++ [26 + nV bs (tE bs p)], tE bs (tE bs (tE bs p))) else none)
def itL (bs : List Int) (L : Nat → Int) (k : Nat) : Nat → List Int → Nat → Option (List Int × Nat)
  | 0, l, p => some (l, p)
  | n + 1, l, p => if tK bs p = 1 ∨ tK bs p = 4 then (match itm bs L k l p with
      | none => none
      | some s => itL bs L k n s.1 s.2) else some (l, p)
def items (bs : List Int) (L : Nat → Int) (k p : Nat) : Option (List Int × Nat) := if tK bs p = 1 ∨ tK bs p = 4 then itL bs L k 601 [] p else none
/-- the told rules' lengths; a row made of letters and told rules -/
def LR (L : Nat → Int) (k : Nat) : Prop := k ≤ 40 ∧ ∀ r : Nat, r < k → 1 ≤ L r ∧ L r ≤ 400
def LI (L : Nat → Int) (k : Nat) (l : List Int) : Prop := (∀ x ∈ l, 0 ≤ x ∧ x < 26 + (k : Int)) ∧ ll L l ≤ 400
theorem LI.len {L : Nat → Int} {k : Nat} {l : List Int} (hL : LR L k) (h : LI L k l) : (l.length : Int) ≤ ll L l := by
  refine ll_ge (fun x hx => ?_)
  have := h.1 x hx
  unfold sl
  by_cases q : x < 26
  · rw [if_pos q]; omega
  · rw [if_neg q]; exact (hL.2 _ (by omega)).1
theorem ll_let {L : Nat → Int} : ∀ {l : List Int}, (∀ b ∈ l, b < 26) → ll L l = (l.length : Int)
  | [], _ => rfl
  | x :: l, h => by
    rw [ll_cons, ll_let (fun b hb => h b (List.mem_cons_of_mem _ hb)), sl_26 (h x List.mem_cons_self), List.length_cons]
    omega
theorem letL_rng {bs : List Int} {p : Nat} (hp : p ≤ bs.length) (h : tK bs p = 1) : ∀ x ∈ letL (tkL bs p), 0 ≤ x ∧ x < 26 := by
  intro x hx
  obtain ⟨b, hb, rfl⟩ := List.mem_map.mp hx
  obtain ⟨j, hj, e⟩ := List.getElem_of_mem hb
  have hl := tkL_len hp
  have e2 : (tkL bs p).getD j 0 = b := by rw [← e]; simp [List.getD_eq_getElem?_getD, hj]
  rw [tkL_at (by omega)] at e2
  have hk := kd_1 (by rw [tK_all (Or.inl h) (j := tF bs p + j) (by omega) (by omega)]; exact h)
  rw [e2] at hk
  omega
theorem letL_len (l : List Int) : (letL l).length = l.length := List.length_map ..
theorem itm_inv {bs : List Int} {L : Nat → Int} {k : Nat} {l : List Int} {p : Nat} {s : List Int × Nat} (hL : LR L k) (hp : p ≤ bs.length) (h : LI L k l) (ht : tK bs p = 1 ∨ tK bs p = 4) (e : itm bs L k l p = some s) : LI L k s.1 ∧ p < s.2 ∧ s.2 ≤ bs.length := by
  have hE := tE_le hp
  have hG := tE_gt (bs := bs) (p := p) (by omega) hp
  have hE2 := tE_le hE.2.1
  have hE3 := tE_le hE2.2.1
  unfold itm at e
  by_cases q : tK bs p = 1
  · rw [if_pos q] at e
    by_cases c : 400 < ll L l + ((tE bs p - tF bs p : Nat) : Int)
    · rw [if_pos c] at e; cases e
    · rw [if_neg c] at e
      cases e
      have hr := letL_rng hp q
      have e2 : ll L (letL (tkL bs p)) = ((tE bs p - tF bs p : Nat) : Int) := by rw [ll_let (fun b hb => (hr b hb).2), letL_len, tkL_len hp]
      refine ⟨⟨fun x hx => ?_, ?_⟩, by show p < tE bs p; omega, by show tE bs p ≤ bs.length; omega⟩
      · rcases List.mem_append.mp hx with z | z
        · exact h.1 x z
        · have := hr x z; omega
      · show ll L (l ++ letL (tkL bs p)) ≤ 400
        rw [ll_app, e2]; omega
  · rw [if_neg q] at e
    by_cases c : nbE bs (tE bs p) 0 39 = 0 ∧ l.length < 400 ∧ nV bs (tE bs p) < (k : Int) ∧ ll L l + L (nV bs (tE bs p)).toNat ≤ 400 ∧ tK bs (tE bs (tE bs p)) = 5
    · rw [if_pos c] at e
      cases e
      obtain ⟨c1, c2, c3, c4, c5⟩ := c
      have hv : 0 ≤ nV bs (tE bs p) := by
        unfold nbE at c1
        split at c1
        · cases c1
        · split at c1
          · omega
          · cases c1
      refine ⟨⟨fun x hx => ?_, ?_⟩, by show p < tE bs (tE bs (tE bs p)); omega, by show tE bs (tE bs (tE bs p)) ≤ bs.length; omega⟩
      · rcases List.mem_append.mp hx with z | z
        · exact h.1 x z
        · rw [List.mem_singleton.mp z]; omega
      · show ll L (l ++ [26 + nV bs (tE bs p)]) ≤ 400
        rw [ll_app, ll_cons, ll_nil]
        unfold sl
        rw [if_neg (by omega), show 26 + nV bs (tE bs p) - 26 = nV bs (tE bs p) by omega]
        omega
    · rw [if_neg c] at e; cases e
theorem nb_val {bs : List Int} {p : Nat} {lo hi : Int} (h : nbE bs p lo hi = 0) : tK bs p = 2 ∧ lo ≤ nV bs p ∧ nV bs p ≤ hi := by
  unfold nbE at h
  by_cases q : tK bs p = 2
  · rw [if_neg (by omega)] at h
    by_cases c : lo ≤ nV bs p ∧ nV bs p ≤ hi
    · exact ⟨q, c⟩
    · rw [if_neg c] at h; cases h
  · rw [if_pos q] at h; cases h
theorem gsR2 (g : GS) (i : Nat) (l m : List Int) : gsR (gsR g i l) i m = gsR g i m := by
  unfold gsR
  have : up (up (gR g) i l) i m = up (gR g) i m := funext (fun j => by
    by_cases q : j = i
    · subst q; rw [up_self, up_self]
    · rw [up_ne q, up_ne q, up_ne q])
  show (up (up (gR g) i l) i m, gT g, gL g, gA g, gN g) = _
  rw [this]
section SETC
variable {I J : Mem} {bs : List Int} {g : GS} {i k p : Nat} {l : List Int}
/-- the class reads a row of the trial grammar -/
def CI (I : Mem) (bs : List Int) (g : GS) (i k : Nat) (l : List Int) (p : Nat) : Prop := BfC I bs ∧ GC I 1 (gsR g i l) ∧ TC I bs p ∧ I 7 0 3 = ll (gL g) l ∧ I 7 0 2 = (k : Int)
abbrev FRd : FP := fun k i s => FG 1 k i s ∨ FSx k i s ∨ (k = 7 ∧ s = 3)
def OKC (K : Mem) (bs : List Int) (g : GS) (i k : Nat) (x : Int) : Option (List Int × Nat) → Prop
  | some s => x = 1 ∧ CI K bs g i k s.1 s.2
  | none => x = 0 ∧ ∃ g' : GS, GC K 1 g'
theorem t_gput {t : Nat} {v : Int} (h : GC I t (gsR g i l)) (hi : i < 41) (hl : l.length < 400) : Tr (f_Row_put (rix t i) v I) (fun _ J => GC J t (gsR g i (l ++ [v])) ∧ Fm (FR (rix t i)) I J) := by
  have hr := h.2.1 i hi
  rw [show gR (gsR g i l) i = l from up_self _ _ _] at hr
  refine tr_mono (t_put hr hl v) ?_
  rintro _ K ⟨a, f⟩
  have := h.row hi a f
  rw [gsR2] at this
  exact ⟨this, f⟩
theorem GC.s67 {t : Nat} (h : GC I t g) (f : Fm (fun k _ _ => k = 6 ∨ k = 7) I J) : GC J t g := h.fm f (fun k i s z q => by unfold FG at z; omega)
theorem GC.sx {t : Nat} (h : GC I t g) (f : Fm FSx I J) : GC J t g := h.fm f (fun k i s z q => by unfold FG at z; unfold FSx at q; omega)
theorem fsx_rd : ∀ k i s : Nat, FSx k i s → FRd k i s := fun _ _ _ z => Or.inr (Or.inl z)
theorem fr_rd (hi : i < 41) : ∀ a b c : Nat, FR (rix 1 i) a b c → FRd a b c := fun a b c z => Or.inl (FR_FG hi a b c z)
theorem BfC.rd (h : BfC I bs) (f : Fm FRd I J) : BfC J bs := h.fm f (by unfold FRd FG FSx; omega) (fun s => by unfold FRd FG FSx; omega)
theorem TC.fm {F : FP} (h : TC I bs p) (f : Fm F I J) (hn : ∀ s : Nat, 2 ≤ s → s ≤ 4 → ¬ F 6 0 s) : TC J bs p := ⟨by rw [f.at (by decide) (hn 2 (by decide) (by decide))]; exact h.1, by rw [f.at (by decide) (hn 3 (by decide) (by decide))]; exact h.2.1, by rw [f.at (by decide) (hn 4 (by decide) (by decide))]; exact h.2.2⟩
theorem t_readLetters (hl : bs.length ≤ 600) (hr : ∀ b ∈ bs, 1 ≤ b ∧ b ≤ 255) (hL : LR (gL g) k) (hi : i < 41) (hp : p ≤ bs.length) (hI : LI (gL g) k l) (ht : tK bs p = 1) (h : CI I bs g i k l p) : Tr (f_Set_readLetters (rix 1 i) I) (fun x K => OKC K bs g i k x (itm bs (gL g) k l p) ∧ Fm FRd I K) := by
  obtain ⟨hB, hG, hT, h3, h2⟩ := h
  have hE := tE_le hp
  have hll := hI.len hL
  have hl4 := hI.2
  have hlen := tkL_len hp
  have h43 := rix_lt (t := 1) (by decide) hi
  unfold f_Set_readLetters itm
  rw [if_pos h43, hT.2.1, hT.2.2, h3, if_pos ht, w32_of (x := ll (gL g) l + (((tE bs p : Nat) : Int) - ((tF bs p : Nat) : Int))) (by omega) (by omega)]
  by_cases c : 400 < ll (gL g) l + ((tE bs p - tF bs p : Nat) : Int)
  · rw [if_pos (by omega), if_pos c]
    refine tr_call (t_fail 5) ?_
    rintro x K ⟨rfl, g1, g2⟩
    rw [if_pos (Or.inl rfl)]
    exact tr_ret ⟨⟨rfl, _, hG.sx (g2.mono fec_sx)⟩, g2.mono (fun a b c z => fsx_rd _ _ _ (fec_sx _ _ _ z))⟩
  · rw [if_neg (by omega), if_neg c]
    refine tr_call (P := fun _ K => GC K 1 (gsR g i (l ++ letL (tkL bs p))) ∧ Fm (FR (rix 1 i)) I K) (tr_cnt (fun j => (j : Int)) (fun j K => GC K 1 (gsR g i (l ++ letL ((tkL bs p).take j))) ∧ Fm (FR (rix 1 i)) I K) (tE bs p - tF bs p) rfl ⟨by show GC I 1 (gsR g i (l ++ [])); rw [List.append_nil]; exact hG, Fm.refl _ _⟩ ?_ ?_) ?_
    · rintro j K hj ⟨hGK, f⟩
      have hBK : BfC K bs := hB.fm f (by unfold FR; omega) (fun s => by unfold FR; omega)
      have e3 : K 6 0 3 = ((tF bs p : Nat) : Int) := by rw [f.at (by decide) (by unfold FR; omega)]; exact hT.2.1
      unfold f_Set_readLetters_w31
      rw [w32_of (x := (j : Int)) (by omega) (by omega), w32_of (x := ((tE bs p : Nat) : Int) - ((tF bs p : Nat) : Int)) (by omega) (by omega), if_pos (by omega), e3, show ((tF bs p : Nat) : Int) + (j : Int) = ((tF bs p + j : Nat) : Int) from by omega, c_byteAt hBK hl (by omega), bnd_some]
      refine tr_call (t_gput hGK hi ?_) ?_
      · rw [List.length_append, letL_len, List.length_take]; omega
      · rintro _ M ⟨a, f2⟩
        refine tr_ret ⟨rfl, ?_, f.trans f2⟩
        rw [take_at (d := 0) (by omega), letL, List.map_append, ← List.append_assoc]
        show GC M 1 (gsR g i (l ++ letL ((tkL bs p).take j) ++ [(tkL bs p).getD j 0 - 97]))
        rw [tkL_at hj]
        exact a
    · rintro K ⟨hGK, f⟩
      unfold f_Set_readLetters_w31
      rw [w32_of (x := ((tE bs p - tF bs p : Nat) : Int)) (by omega) (by omega), w32_of (x := ((tE bs p : Nat) : Int) - ((tF bs p : Nat) : Int)) (by omega) (by omega), if_neg (by omega)]
      rw [List.take_of_length_le (by omega)] at hGK
      exact tr_ret ⟨hGK, f⟩
    · rintro _ K ⟨hGK, f⟩
      have e3 : K 6 0 3 = ((tF bs p : Nat) : Int) := by rw [f.at (by decide) (by unfold FR; omega)]; exact hT.2.1
      have e4 : K 6 0 4 = ((tE bs p : Nat) : Int) := by rw [f.at (by decide) (by unfold FR; omega)]; exact hT.2.2
      have e7 : K 7 0 3 = ll (gL g) l := by rw [f.at (by decide) (by unfold FR; omega)]; exact h3
      have e2 : K 7 0 2 = (k : Int) := by rw [f.at (by decide) (by unfold FR; omega)]; exact h2
      try dsimp only [ltI]
      rw [e7]
      have f1 : Fm (fun k _ s => k = 7 ∧ s = 3) K (sI K 7 0 3 (ll (gL g) l + (((tE bs p : Nat) : Int) - ((tF bs p : Nat) : Int)))) := Fm.sI (by decide) (by omega) (by omega) ⟨rfl, rfl⟩
      have a3 : (sI K 7 0 3 (ll (gL g) l + (((tE bs p : Nat) : Int) - ((tF bs p : Nat) : Int)))) 7 0 3 = ll (gL g) (l ++ letL (tkL bs p)) := by
        rw [sI_self, ll_app, ll_let (fun b hb => (letL_rng hp ht b hb).2), letL_len, hlen]
        omega
      generalize sI K 7 0 3 (ll (gL g) l + (((tE bs p : Nat) : Int) - ((tF bs p : Nat) : Int))) = M at f1 a3
      have hBM : BfC M bs := (hB.fm f (by unfold FR; omega) (fun s => by unfold FR; omega)).fm f1 (by omega) (fun s => by omega)
      have hTM : TC M bs p := (hT.fm f (fun s _ _ => by unfold FR; omega)).fm f1 (fun s _ _ => by omega)
      refine tr_call (t_advS hBM hl hr hp hTM) ?_
      rintro _ N ⟨hTN, f2⟩
      refine tr_ret ⟨⟨rfl, hBM.sx f2, ((hGK.fm f1 (fun k i s z q => by unfold FG at z; omega)).sx f2), hTN, ?_, ?_⟩, (f.mono (fr_rd hi)).trans ((f1.mono (fun a b c z => Or.inr (Or.inr z))).trans (f2.mono fsx_rd))⟩
      · rw [f2.at (by decide) (by unfold FSx; omega), a3]
      · rw [f2.at (by decide) (by unfold FSx; omega), f1.at (by decide) (by omega), e2]
theorem t_readRule (hl : bs.length ≤ 600) (hr : ∀ b ∈ bs, 1 ≤ b ∧ b ≤ 255) (hL : LR (gL g) k) (hi : i < 41) (hp : p ≤ bs.length) (hI : LI (gL g) k l) (ht : tK bs p = 4) (h : CI I bs g i k l p) : Tr (f_Set_readRule (rix 1 i) I) (fun x K => OKC K bs g i k x (itm bs (gL g) k l p) ∧ Fm FRd I K) := by
  obtain ⟨hB, hG, hT, h3, h2⟩ := h
  have hE := tE_le hp
  have hll := hI.len hL
  have hl4 := hI.2
  have h43 := rix_lt (t := 1) (by decide) hi
  have hE2 := tE_le hE.2.1
  unfold f_Set_readRule itm
  rw [if_pos h43, if_neg (show ¬ tK bs p = 1 by omega), show wLow 0 = 0 from rfl, show wHig 0 = 39 from rfl]
  refine tr_call (t_advS hB hl hr hp hT) ?_
  rintro _ J1 ⟨t1, f1⟩
  refine tr_call (t_readNumber (hB.sx f1) hl hr hE.2.1 t1 (by omega) (by omega)) ?_
  rintro x J2 ⟨rfl, n1, n2, t2, f2⟩
  have f12 := f1.trans f2
  have hB2 := hB.sx f12
  have hG2 := hG.sx f12
  have bad : ∀ (c : Prop) [Decidable c] (M : Mem) (s : List Int × Nat), ¬ c → (∃ g' : GS, GC M 1 g') → OKC M bs g i k 0 (if c then some s else none) := fun c _ M s hc hM => by
    rw [if_neg hc]
    exact ⟨rfl, hM⟩
  by_cases c1 : nbE bs (tE bs p) 0 39 = 0
  · obtain ⟨v1, v2, v3⟩ := nb_val c1
    have e5 := n1 c1
    have hrow := hG2.2.1 i hi
    rw [show gR (gsR g i l) i = l from up_self _ _ _] at hrow
    have e7 : J2 7 0 2 = (k : Int) := by rw [f12.at (by decide) (by unfold FSx; omega)]; exact h2
    have e73 : J2 7 0 3 = ll (gL g) l := by rw [f12.at (by decide) (by unfold FSx; omega)]; exact h3
    have hk40 := hL.1
    rw [if_neg (wb_pos c1), hrow.2.1, e5, e7, w32_of (x := (l.length : Int)) (by omega) (by omega), w32_of (x := nV bs (tE bs p)) (by omega) (by omega), w32_of (x := (k : Int)) (by omega) (by omega)]
    by_cases c2 : l.length < 400
    · rw [if_pos (by omega)]
      by_cases c3 : nV bs (tE bs p) < (k : Int)
      · have hs : sl (gL (gsR g i l)) (26 + nV bs (tE bs p)) = gL g (nV bs (tE bs p)).toNat := by
          unfold sl
          rw [if_neg (by omega), show 26 + nV bs (tE bs p) - 26 = nV bs (tE bs p) by omega]
          rfl
        have hLr := hL.2 (nV bs (tE bs p)).toNat (by omega)
        rw [if_pos c3, g_lengthOf hG2 (by omega), bnd_some, hs]
        try dsimp only [ltI]
        rw [e73]
        have f3 : Fm (fun k _ s => k = 7 ∧ s = 3) J2 (sI J2 7 0 3 (ll (gL g) l + gL g (nV bs (tE bs p)).toNat)) := Fm.sI (by decide) (by omega) (by omega) ⟨rfl, rfl⟩
        have a3 : (sI J2 7 0 3 (ll (gL g) l + gL g (nV bs (tE bs p)).toNat)) 7 0 3 = ll (gL g) l + gL g (nV bs (tE bs p)).toNat := sI_self _ _ _ _ _
        generalize sI J2 7 0 3 (ll (gL g) l + gL g (nV bs (tE bs p)).toNat) = J3 at f3 a3
        have f123 : Fm FRd I J3 := (f12.mono fsx_rd).trans (f3.mono (fun a b c z => Or.inr (Or.inr z)))
        have hG3 : GC J3 1 (gsR g i l) := hG2.fm f3 (fun k i s z q => by unfold FG at z; omega)
        rw [a3, w32_of (x := ll (gL g) l + gL g (nV bs (tE bs p)).toNat) (by omega) (by omega)]
        by_cases c4 : ll (gL g) l + gL g (nV bs (tE bs p)).toNat ≤ 400
        · have hT3 : TC J3 bs (tE bs p) := t2.fm f3 (fun s _ _ => by omega)
          have hB3 : BfC J3 bs := hB2.fm f3 (by omega) (fun s => by omega)
          rw [if_neg (by omega)]
          refine tr_call (t_gput hG3 hi c2) ?_
          rintro _ J4 ⟨hG4, f4⟩
          have hT4 : TC J4 bs (tE bs p) := hT3.fm f4 (fun s _ _ => by unfold FR; omega)
          have hB4 : BfC J4 bs := hB3.fm f4 (by unfold FR; omega) (fun s => by unfold FR; omega)
          refine tr_call (t_advS hB4 hl hr hE.2.1 hT4) ?_
          rintro _ J5 ⟨hT5, f5⟩
          refine tr_call (t_pass (hB4.sx f5) hl hr hE2.2.1 hT5 (a := 5) (by omega)) ?_
          rintro x J6 ⟨rfl, y1, y2, f6⟩
          have fend : Fm FRd I J6 := f123.trans ((f4.mono (fr_rd hi)).trans ((f5.trans f6).mono fsx_rd))
          have hG6 := hG4.sx (f5.trans f6)
          rw [if_pos (bI_01 _)]
          by_cases c5 : tK bs (tE bs (tE bs p)) = 5
          · refine tr_ret ⟨?_, fend⟩
            rw [if_pos ⟨c1, c2, c3, c4, c5⟩]
            refine ⟨bI_pos c5, (hB4.sx f5).sx f6, hG6, y1 c5, ?_, ?_⟩
            · rw [(f5.trans f6).at (by decide) (by unfold FSx; omega), f4.at (by decide) (by unfold FR; omega), a3, ll_app, ll_cons, ll_nil]
              have hs2 : sl (gL g) (26 + nV bs (tE bs p)) = gL g (nV bs (tE bs p)).toNat := hs
              rw [hs2]
              omega
            · rw [(f5.trans f6).at (by decide) (by unfold FSx; omega), f4.at (by decide) (by unfold FR; omega), f3.at (by decide) (by omega), e7]
          · refine tr_ret ⟨?_, fend⟩
            rw [bI_neg c5]
            exact bad _ _ _ (fun z => c5 z.2.2.2.2) ⟨_, hG6⟩
        · rw [if_pos (by omega)]
          refine tr_call (t_failAt 5 _) ?_
          rintro x K ⟨rfl, g1, g2⟩
          rw [if_pos (Or.inl rfl)]
          exact tr_ret ⟨bad _ _ _ (fun z => c4 z.2.2.2.1) ⟨_, hG3.sx (g2.mono fec_sx)⟩, f123.trans (g2.mono (fun a b c z => fsx_rd _ _ _ (fec_sx _ _ _ z)))⟩
      · rw [if_neg c3]
        refine tr_call (t_fail 4) ?_
        rintro x K ⟨rfl, g1, g2⟩
        rw [if_pos (Or.inl rfl)]
        exact tr_ret ⟨bad _ _ _ (fun z => c3 z.2.2.1) ⟨_, hG2.sx (g2.mono fec_sx)⟩, (f12.trans (g2.mono fec_sx)).mono fsx_rd⟩
    · rw [if_neg (by omega)]
      refine tr_call (t_failAt 5 _) ?_
      rintro x K ⟨rfl, g1, g2⟩
      rw [if_pos (Or.inl rfl)]
      exact tr_ret ⟨bad _ _ _ (fun z => c2 z.2.1) ⟨_, hG2.sx (g2.mono fec_sx)⟩, (f12.trans (g2.mono fec_sx)).mono fsx_rd⟩
  · rw [if_pos (wb_neg c1)]
    exact tr_ret ⟨bad _ _ _ (fun z => c1 z.1) ⟨_, hG2⟩, f12.mono fsx_rd⟩
/-- the items of a row -/
theorem t_itemsL (hl : bs.length ≤ 600) (hr : ∀ b ∈ bs, 1 ≤ b ∧ b ≤ 255) (hL : LR (gL g) k) (hi : i < 41) : ∀ (n m p : Nat) (l : List Int) (I : Mem), m ≤ p → p ≤ bs.length → bs.length - p < n → LI (gL g) k l → CI I bs g i k l p → Tr (whl (f_Set_readItems_w7 (rix 1 i)) (m : Int) I) (fun x K => OKC K bs g i k x (if m = 0 ∧ ¬ (tK bs p = 1 ∨ tK bs p = 4) then none else itL bs (gL g) k n l p) ∧ Fm FRd I K) := by
  intro n
  induction n with
  | zero => intro m p l I _ _ h; omega
  | succ n ih =>
    intro m p l I hm hp hn hI h
    obtain ⟨hB, hG, hT, h3, h2⟩ := id h
    have hkr := tK_rng bs p
    have next : (tK bs p = 1 ∨ tK bs p = 4) → ∀ {e : Option (Int × Mem)}, Tr e (fun x K => OKC K bs g i k x (itm bs (gL g) k l p) ∧ Fm FRd I K) → Tr (bnd e fun x K => if w32 x = 0 then some ((Sum.inr 0 : Int ⊕ Int), K) else some (Sum.inl ((m : Int) + 1), K)) (fun y K => LQ (fun s' J' => Tr (whl (f_Set_readItems_w7 (rix 1 i)) s' J') (fun x K => OKC K bs g i k x (if m = 0 ∧ ¬ (tK bs p = 1 ∨ tK bs p = 4) then none else itL bs (gL g) k (n + 1) l p) ∧ Fm FRd I K)) (fun x K => OKC K bs g i k x (if m = 0 ∧ ¬ (tK bs p = 1 ∨ tK bs p = 4) then none else itL bs (gL g) k (n + 1) l p) ∧ Fm FRd I K) y K) := by
      intro ht e he
      refine tr_call he ?_
      rintro x K ⟨hk, f⟩
      have e1 : (if m = 0 ∧ ¬ (tK bs p = 1 ∨ tK bs p = 4) then none else itL bs (gL g) k (n + 1) l p) = (match itm bs (gL g) k l p with
          | none => none
          | some s => itL bs (gL g) k n s.1 s.2) := by
        rw [if_neg (fun z => z.2 ht)]
        show (if tK bs p = 1 ∨ tK bs p = 4 then _ else _) = _
        rw [if_pos ht]
      cases hc : itm bs (gL g) k l p with
      | none =>
        rw [hc] at hk e1
        obtain ⟨rfl, hg⟩ := hk
        rw [if_pos (by decide)]
        refine tr_ret ?_
        show OKC K bs g i k 0 _ ∧ Fm FRd I K
        rw [e1]
        exact ⟨⟨rfl, hg⟩, f⟩
      | some s =>
        rw [hc] at hk e1
        obtain ⟨rfl, hc2⟩ := hk
        obtain ⟨i1, i2, i3⟩ := itm_inv hL hp hI ht hc
        rw [if_neg (by decide)]
        refine tr_ret ?_
        have := ih (m + 1) s.2 s.1 K (by omega) i3 (by omega) i1 hc2
        rw [if_neg (fun z => by omega)] at this
        refine tr_mono this ?_
        rintro x M ⟨a, b⟩
        rw [e1]
        exact ⟨a, f.trans b⟩
    have step : Tr (f_Set_readItems_w7 (rix 1 i) (m : Int) I) (fun y K => LQ (fun s' J' => Tr (whl (f_Set_readItems_w7 (rix 1 i)) s' J') (fun x K => OKC K bs g i k x (if m = 0 ∧ ¬ (tK bs p = 1 ∨ tK bs p = 4) then none else itL bs (gL g) k (n + 1) l p) ∧ Fm FRd I K)) (fun x K => OKC K bs g i k x (if m = 0 ∧ ¬ (tK bs p = 1 ∨ tK bs p = 4) then none else itL bs (gL g) k (n + 1) l p) ∧ Fm FRd I K) y K) := by
      unfold f_Set_readItems_w7
      rw [w32_of (x := (m : Int)) (by omega) (by omega), if_neg (by omega), c_is hT (by omega), bnd_some]
      by_cases q1 : tK bs p = 1
      · rw [if_neg (wb_pos q1)]
        exact next (Or.inl q1) (t_readLetters hl hr hL hi hp hI q1 h)
      · rw [if_pos (wb_neg q1), c_is hT (by omega), bnd_some]
        by_cases q4 : tK bs p = 4
        · rw [if_neg (wb_pos q4)]
          exact next (Or.inr q4) (t_readRule hl hr hL hi hp hI q4 h)
        · have hno : ¬ (tK bs p = 1 ∨ tK bs p = 4) := by omega
          rw [if_pos (wb_neg q4)]
          by_cases q0 : m = 0
          · rw [if_neg (by omega)]
            refine tr_call (t_fail 1) ?_
            rintro x K ⟨rfl, g1, g2⟩
            rw [if_pos (by decide)]
            refine tr_ret ?_
            show OKC K bs g i k 0 _ ∧ Fm FRd I K
            rw [if_pos ⟨q0, hno⟩]
            exact ⟨⟨rfl, _, hG.sx (g2.mono fec_sx)⟩, g2.mono (fun a b c z => fsx_rd _ _ _ (fec_sx _ _ _ z))⟩
          · rw [if_pos (by omega)]
            refine tr_ret ?_
            show OKC I bs g i k 1 _ ∧ Fm FRd I I
            rw [if_neg (fun z => q0 z.1)]
            show OKC I bs g i k 1 (if tK bs p = 1 ∨ tK bs p = 4 then _ else _) ∧ Fm FRd I I
            rw [if_neg hno]
            exact ⟨⟨rfl, h⟩, Fm.refl _ _⟩
    obtain ⟨y, K, e, hy⟩ := step
    rw [whl_eq, e]
    cases y with
    | inl s => exact hy
    | inr r => exact tr_ret (Q := fun x K => OKC K bs g i k x _ ∧ Fm FRd I K) hy
theorem t_readItems (hl : bs.length ≤ 600) (hr : ∀ b ∈ bs, 1 ≤ b ∧ b ≤ 255) (hL : LR (gL g) k) (hi : i < 41) (hp : p ≤ bs.length) (hB : BfC I bs) (hG : GC I 1 g) (h0 : gR g i = []) (hT : TC I bs p) (h2 : I 7 0 2 = (k : Int)) : Tr (f_Set_readItems (rix 1 i) I) (fun x K => OKC K bs g i k x (items bs (gL g) k p) ∧ Fm FRd I K) := by
  unfold f_Set_readItems
  rw [if_pos (rix_lt (by decide) hi)]
  try dsimp only [ltI]
  have f1 : Fm (fun k _ s => k = 7 ∧ s = 3) I (sI I 7 0 3 0) := Fm.sI (by decide) (by omega) (by omega) ⟨rfl, rfl⟩
  have hc : CI (sI I 7 0 3 0) bs g i k [] p := by
    refine ⟨hB.fm f1 (by omega) (fun s => by omega), ?_, hT.fm f1 (fun s _ _ => by omega), sI_self _ _ _ _ _, by rw [sI_ne (by omega)]; exact h2⟩
    refine GC.congr (hG.fm f1 (fun k i s z q => by unfold FG at z; omega)) (fun j hj => ?_) rfl (fun _ _ => rfl) (fun _ _ => rfl) (fun _ _ => rfl)
    show up (gR g) i [] j = gR g j
    by_cases q : j = i
    · subst q; rw [up_self, h0]
    · rw [up_ne q]
  refine tr_mono (t_itemsL hl hr hL hi 601 0 p [] _ (Nat.zero_le _) hp (by omega) ⟨fun x hx => absurd hx List.not_mem_nil, by rw [ll_nil]; omega⟩ hc) ?_
  rintro x K ⟨a, f⟩
  refine ⟨?_, (f1.mono (fun a b c z => Or.inr (Or.inr z))).trans f⟩
  unfold items
  by_cases q : tK bs p = 1 ∨ tK bs p = 4
  · rw [if_pos q]
    rw [if_neg (fun z => z.2 q)] at a
    exact a
  · rw [if_neg q]
    rw [if_pos ⟨rfl, q⟩] at a
    exact a
end SETC
