/-! ===== the reference's items ===== -/
section SETM
variable {I J : Mem} {bs : List Int} {g : GS} {i k p : Nat} {l : List Int}
def MI (I : Mem) (bs : List Int) (g : GS) (i k : Nat) (l : List Int) (p : Nat) : Prop := BfM I bs ∧ GW I (gsR g i l) ∧ TM I bs p ∧ I 26 0 25 = 0 ∧ I 26 0 29 = ll (gL g) l ∧ ∀ r : Nat, r < k → I 27 5 (26 + r) = gL g r
abbrev FRq : FP := fun k i s => FW k i s ∨ FMx k i s ∨ (k = 26 ∧ i = 0 ∧ s = 29)
def ERR (K : Mem) : Prop := 1 ≤ K 26 0 25 ∧ K 26 0 25 ≤ 5
theorem ERR.of {c : Int} (b : I 26 0 25 = c) (h : 1 ≤ c ∧ c ≤ 5) : ERR I := by unfold ERR; rw [b]; exact h
theorem ERR.ne (h : ERR I) : w32 (I 26 0 25) ≠ 0 := by
  unfold ERR at h
  rw [w32_of (by omega) (by omega)]
  omega
def OKM (K : Mem) (bs : List Int) (g : GS) (i k : Nat) : Option (List Int × Nat) → Prop
  | some s => MI K bs g i k s.1 s.2
  | none => ERR K
theorem fmx_rm : ∀ k i s : Nat, FMx k i s → FRq k i s := fun _ _ _ z => Or.inr (Or.inl z)
theorem fem_rm : ∀ k i s : Nat, FEm k i s → FRq k i s := fun _ _ _ z => Or.inr (Or.inl (fem_mx _ _ _ z))
theorem GW.mx (h : GW I g) (f : Fm FMx I J) : GW J g := h.fm f (fun s _ => by unfold FMx; omega)
theorem BfM.rm (h : BfM I bs) (f : Fm FRq I J) : BfM J bs := h.fm f (by unfold FRq FW FMx; omega) (fun s => by unfold FRq FW FMx; omega)
theorem TM.fm {F : FP} (h : TM I bs p) (f : Fm F I J) (hn : ∀ s : Nat, 21 ≤ s → s ≤ 24 → ¬ F 26 0 s) : TM J bs p := ⟨by rw [f.at (by decide) (hn 23 (by decide) (by decide))]; exact h.1, by rw [f.at (by decide) (hn 21 (by decide) (by decide))]; exact h.2.1, by rw [f.at (by decide) (hn 22 (by decide) (by decide))]; exact h.2.2.1, fun z => by rw [f.at (by decide) (hn 24 (by decide) (by decide))]; exact h.2.2.2 z⟩
theorem km_1 (bs : List Int) (p : Nat) : w32 (kmT (tK bs p)) = 1 ↔ tK bs p = 1 := by
  have hkr := tK_rng bs p
  rcases (show tK bs p = 0 ∨ tK bs p = 1 ∨ tK bs p = 2 ∨ tK bs p = 3 ∨ tK bs p = 4 ∨ tK bs p = 5 ∨ tK bs p = 6 by omega) with z | z | z | z | z | z | z <;> rw [z] <;> decide
theorem km_2 (bs : List Int) (p : Nat) : w32 (kmT (tK bs p)) = 2 ↔ tK bs p = 2 := by
  have hkr := tK_rng bs p
  rcases (show tK bs p = 0 ∨ tK bs p = 1 ∨ tK bs p = 2 ∨ tK bs p = 3 ∨ tK bs p = 4 ∨ tK bs p = 5 ∨ tK bs p = 6 by omega) with z | z | z | z | z | z | z <;> rw [z] <;> decide
theorem km_0 (bs : List Int) (p : Nat) : w32 (kmT (tK bs p)) = 0 ↔ tK bs p = 0 := by
  have hkr := tK_rng bs p
  rcases (show tK bs p = 0 ∨ tK bs p = 1 ∨ tK bs p = 2 ∨ tK bs p = 3 ∨ tK bs p = 4 ∨ tK bs p = 5 ∨ tK bs p = 6 by omega) with z | z | z | z | z | z | z <;> rw [z] <;> decide
theorem fwr_rm : ∀ a b c : Nat, FWR i a b c → FRq a b c := fun a b c z => Or.inl (FWR_FW a b c z)
theorem t_mputR {v : Int} (h : GW I (gsR g i l)) (hi : i < 41) (hl : l.length < 400) : Tr (f_M_adds (i : Int) v I) (fun _ J => GW J (gsR g i (l ++ [v])) ∧ Fm (FWR i) I J) := by
  have e : gR (gsR g i l) i = l := up_self _ _ _
  refine tr_mono (t_madds h hi (by rw [e]; exact hl) v) ?_
  rintro _ K ⟨a, f⟩
  rw [e, gsR2] at a
  exact ⟨a, f⟩
theorem t_wordItem (hl : bs.length ≤ 600) (hr : ∀ b ∈ bs, 1 ≤ b ∧ b ≤ 255) (hL : LR (gL g) k) (hi : i < 41) (hp : p ≤ bs.length) (hI : LI (gL g) k l) (h : MI I bs g i k l p) : Tr (f_M_wordItem (i : Int) I) (fun _ K => OKM K bs g i k (if tK bs p = 1 then itm bs (gL g) k l p else none) ∧ Fm FRq I K) := by
  obtain ⟨hB, hG, hT, he, h29, h5⟩ := h
  have hE := tE_le hp
  have hll := hI.len hL
  have hl4 := hI.2
  have hlen := tkL_len hp
  have er : gR (gsR g i l) i = l := up_self _ _ _
  unfold f_M_wordItem
  rw [hT.1]
  by_cases ht : tK bs p = 1
  · rw [if_pos ((km_1 bs p).mpr ht), mf_0 he (by decide), bnd_some, if_pos (by decide), m_many hG hi, bnd_some, er, hT.2.1, hT.2.2.1, h29, if_pos ht]
    unfold itm
    rw [if_pos ht, w32_of (x := (l.length : Int) + (((tE bs p : Nat) : Int) - ((tF bs p : Nat) : Int))) (by omega) (by omega), w32_of (x := ll (gL g) l + (((tE bs p : Nat) : Int) - ((tF bs p : Nat) : Int))) (by omega) (by omega)]
    by_cases c : 400 < ll (gL g) l + ((tE bs p - tF bs p : Nat) : Int)
    · rw [if_pos c]
      have key : Tr (f_M_wordItem_j53 (i : Int) I) (fun _ K => OKM K bs g i k none ∧ Fm FRq I K) := by
        unfold f_M_wordItem_j53 f_M_wordItem_j58
        refine tr_call (mf_1 he (by decide) (by decide)) ?_
        rintro x K ⟨rfl, b, f⟩
        rw [if_neg (by decide)]
        refine tr_ret ⟨?_, f.mono fem_rm⟩
        exact ERR.of b (by decide)
      by_cases c1 : 400 < (l.length : Int) + (((tE bs p : Nat) : Int) - ((tF bs p : Nat) : Int))
      · rw [if_pos c1]; exact key
      · rw [if_neg c1, if_pos (by omega)]; exact key
    · rw [if_neg c, if_neg (by omega), if_neg (by omega)]
      unfold f_M_wordItem_j58
      rw [mf_0 he (by decide), bnd_some, if_pos (by decide)]
      refine tr_call (P := fun _ K => GW K (gsR g i (l ++ letL (tkL bs p))) ∧ Fm (FWR i) I K) (tr_cnt (fun j => (j : Int)) (fun j K => GW K (gsR g i (l ++ letL ((tkL bs p).take j))) ∧ Fm (FWR i) I K) (tE bs p - tF bs p) rfl ⟨by show GW I (gsR g i (l ++ [])); rw [List.append_nil]; exact hG, Fm.refl _ _⟩ ?_ ?_) ?_
      · rintro j K hj ⟨hGK, f⟩
        have hBK : BfM K bs := hB.fm f (by unfold FWR; omega) (fun s => by unfold FWR; omega)
        have e1 : K 26 0 21 = ((tF bs p : Nat) : Int) := by rw [f.at (by decide) (by unfold FWR; omega)]; exact hT.2.1
        have e2 : K 26 0 22 = ((tE bs p : Nat) : Int) := by rw [f.at (by decide) (by unfold FWR; omega)]; exact hT.2.2.1
        unfold f_M_wordItem_w68
        rw [e1, e2, w32_of (x := (j : Int)) (by omega) (by omega), w32_of (x := ((tE bs p : Nat) : Int) - ((tF bs p : Nat) : Int)) (by omega) (by omega), if_pos (by omega), show ((tF bs p : Nat) : Int) + (j : Int) = ((tF bs p + j : Nat) : Int) from by omega, w32_of (x := ((tF bs p + j : Nat) : Int)) (by omega) (by omega), if_pos (by omega), Int.toNat_natCast, hBK.2 _ (by omega)]
        refine tr_call (t_mputR hGK hi ?_) ?_
        · rw [List.length_append, letL_len, List.length_take]; omega
        · rintro _ M ⟨a, f2⟩
          refine tr_ret ⟨rfl, ?_, f.trans f2⟩
          rw [take_at (d := 0) (by omega), letL, List.map_append, ← List.append_assoc]
          show GW M (gsR g i (l ++ letL ((tkL bs p).take j) ++ [(tkL bs p).getD j 0 - 97]))
          rw [tkL_at hj]
          exact a
      · rintro K ⟨hGK, f⟩
        have e1 : K 26 0 21 = ((tF bs p : Nat) : Int) := by rw [f.at (by decide) (by unfold FWR; omega)]; exact hT.2.1
        have e2 : K 26 0 22 = ((tE bs p : Nat) : Int) := by rw [f.at (by decide) (by unfold FWR; omega)]; exact hT.2.2.1
        unfold f_M_wordItem_w68
        rw [e1, e2, w32_of (x := ((tE bs p - tF bs p : Nat) : Int)) (by omega) (by omega), w32_of (x := ((tE bs p : Nat) : Int) - ((tF bs p : Nat) : Int)) (by omega) (by omega), if_neg (by omega)]
        rw [List.take_of_length_le (by omega)] at hGK
        exact tr_ret ⟨hGK, f⟩
      · rintro _ K ⟨hGK, f⟩
        have fk : ∀ s : Nat, K 26 0 s = I 26 0 s := fun s => f.at (by decide) (by unfold FWR; omega)
        try dsimp only [ltI]
        rw [fk 29, fk 22, fk 21, h29, hT.2.1, hT.2.2.1]
        have f1 : Fm (fun k i s => k = 26 ∧ i = 0 ∧ s = 29) K (sI K 26 0 29 (ll (gL g) l + (((tE bs p : Nat) : Int) - ((tF bs p : Nat) : Int)))) := Fm.sI (by decide) (by omega) (by omega) ⟨rfl, rfl, rfl⟩
        have a3 : (sI K 26 0 29 (ll (gL g) l + (((tE bs p : Nat) : Int) - ((tF bs p : Nat) : Int)))) 26 0 29 = ll (gL g) (l ++ letL (tkL bs p)) := by
          rw [sI_self, ll_app, ll_let (fun b hb => (letL_rng hp ht b hb).2), letL_len, hlen]
          omega
        generalize sI K 26 0 29 (ll (gL g) l + (((tE bs p : Nat) : Int) - ((tF bs p : Nat) : Int))) = M at f1 a3
        have hBM : BfM M bs := (hB.fm f (by unfold FWR; omega) (fun s => by unfold FWR; omega)).fm f1 (by omega) (fun s => by omega)
        have hTM : TM M bs p := (hT.fm f (fun s _ _ => by unfold FWR; omega)).fm f1 (fun s _ _ => by omega)
        refine tr_call (tm_advS hBM hl hr hp hTM) ?_
        rintro _ N ⟨hTN, e25, f2⟩
        refine tr_ret ⟨⟨hBM.mx f2, (hGK.fm f1 (fun s _ z => by omega)).mx f2, hTN, ?_, ?_, fun r hrk => ?_⟩, (f.mono fwr_rm).trans ((f1.mono (fun a b c z => Or.inr (Or.inr z))).trans (f2.mono fmx_rm))⟩
        · rw [e25, f1.at (by decide) (by omega), fk 25, he]
        · rw [f2.at (by decide) (by unfold FMx; omega), a3]
        · rw [f2.at (by decide) (by unfold FMx; omega), f1.at (by decide) (by omega), f.at (by decide) (by unfold FWR; omega)]
          exact h5 r hrk
  · rw [if_neg (fun z => ht ((km_1 bs p).mp z)), if_neg ht]
    refine tr_call (mf_1 he (by decide) (by decide)) ?_
    rintro x K ⟨rfl, b, f⟩
    rw [if_neg (by decide)]
    refine tr_ret ⟨?_, f.mono fem_rm⟩
    exact ERR.of b (by decide)
theorem t_ruleItem (hl : bs.length ≤ 600) (hr : ∀ b ∈ bs, 1 ≤ b ∧ b ≤ 255) (hL : LR (gL g) k) (hi : i < 41) (hp : p ≤ bs.length) (hI : LI (gL g) k l) (ht : tK bs p = 4) (h : MI I bs g i k l p) : Tr (f_M_ruleItem (i : Int) (k : Int) I) (fun _ K => OKM K bs g i k (itm bs (gL g) k l p) ∧ Fm FRq I K) := by
  obtain ⟨hB, hG, hT, he, h29, h5⟩ := h
  have hE := tE_le hp
  have hll := hI.len hL
  have hl4 := hI.2
  have hE2 := tE_le hE.2.1
  have hk40 := hL.1
  have er : gR (gsR g i l) i = l := up_self _ _ _
  have bad : ∀ (c : Prop) [Decidable c] (M : Mem) (s : List Int × Nat), ¬ c → ERR M → OKM M bs g i k (if c then some s else none) := fun c _ M s hc hM => by
    rw [if_neg hc]
    exact hM
  unfold f_M_ruleItem itm
  rw [if_neg (show ¬ tK bs p = 1 by omega)]
  refine tr_call (tm_advS hB hl hr hp hT) ?_
  rintro _ J1 ⟨t1, e1, f1⟩
  have he1 : J1 26 0 25 = 0 := e1.trans he
  rw [t1.1]
  by_cases c2 : tK bs (tE bs p) = 2
  · have hv := nV_rng c2
    rw [if_pos ((km_2 bs _).mpr c2), mf_0 he1 (by decide), bnd_some, if_pos (by decide), t1.2.2.2 c2, w32_of (x := nV bs (tE bs p)) (by omega) (by omega)]
    by_cases c39 : nV bs (tE bs p) < 40
    · have hnb : nbE bs (tE bs p) 0 39 = 0 := by
        unfold nbE
        rw [if_neg (by omega), if_pos (by omega)]
      rw [if_pos c39, mf_0 he1 (by decide), bnd_some, if_pos (by decide), t1.2.2.2 c2, w32_of (x := nV bs (tE bs p)) (by omega) (by omega), w32_of (x := (k : Int)) (by omega) (by omega)]
      by_cases c3 : nV bs (tE bs p) < (k : Int)
      · have hG1 := hG.mx f1
        have hLr := hL.2 (nV bs (tE bs p)).toNat (by omega)
        have e29 : J1 26 0 29 = ll (gL g) l := by rw [f1.at (by decide) (by unfold FMx; omega)]; exact h29
        have e5 : ∀ r : Nat, r < k → J1 27 5 (26 + r) = gL g r := fun r hrk => by rw [f1.at (by decide) (by unfold FMx; omega)]; exact h5 r hrk
        have ev : (26 + nV bs (tE bs p)).toNat = 26 + (nV bs (tE bs p)).toNat := by omega
        rw [if_pos c3, mf_0 he1 (by decide), bnd_some, if_pos (by decide), m_many hG1 hi, bnd_some, er, t1.2.2.2 c2, w32_of (x := (l.length : Int)) (by omega) (by omega), w32_of (x := 26 + nV bs (tE bs p)) (by omega) (by omega), ev, e29, e5 _ (by omega)]
        by_cases c4 : l.length = 400
        · rw [if_pos (by omega)]
          try dsimp only [ltI]
          refine tr_ret ⟨bad _ _ _ (fun z => by have := z.2.1; omega) ?_, (f1.mono fmx_rm).trans ((Fm.sI (by decide) (by omega) (by omega) (Or.inr (Or.inl ⟨rfl, rfl, by omega, by omega⟩))).trans (Fm.sI (by decide) (by omega) (by omega) (Or.inr (Or.inl ⟨rfl, rfl, by omega, by omega⟩))))⟩
          exact ERR.of (by rw [sI_ne (by omega), sI_self]) (by decide)
        · rw [if_neg (by omega), if_pos (by omega), w32_of (x := ll (gL g) l + gL g (nV bs (tE bs p)).toNat) (by omega) (by omega)]
          by_cases c5 : 400 < ll (gL g) l + gL g (nV bs (tE bs p)).toNat
          · rw [if_pos c5]
            try dsimp only [ltI]
            refine tr_ret ⟨bad _ _ _ (fun z => by have := z.2.2.2.1; omega) ?_, (f1.mono fmx_rm).trans ((Fm.sI (by decide) (by omega) (by omega) (Or.inr (Or.inl ⟨rfl, rfl, by omega, by omega⟩))).trans (Fm.sI (by decide) (by omega) (by omega) (Or.inr (Or.inl ⟨rfl, rfl, by omega, by omega⟩))))⟩
            exact ERR.of (by rw [sI_ne (by omega), sI_self]) (by decide)
          · rw [if_neg c5]
            refine tr_call (t_mputR hG1 hi (by omega)) ?_
            rintro _ J2 ⟨hG2, f2⟩
            have fk : ∀ s : Nat, J2 26 0 s = J1 26 0 s := fun s => f2.at (by decide) (by unfold FWR; omega)
            have e52 : J2 27 5 (26 + (nV bs (tE bs p)).toNat) = gL g (nV bs (tE bs p)).toNat := by rw [f2.at (by decide) (by unfold FWR; omega)]; exact e5 _ (by omega)
            try dsimp only [ltI]
            rw [fk 29, e29, e52]
            have f3 : Fm (fun k i s => k = 26 ∧ i = 0 ∧ s = 29) J2 (sI J2 26 0 29 (ll (gL g) l + gL g (nV bs (tE bs p)).toNat)) := Fm.sI (by decide) (by omega) (by omega) ⟨rfl, rfl, rfl⟩
            have a3 : (sI J2 26 0 29 (ll (gL g) l + gL g (nV bs (tE bs p)).toNat)) 26 0 29 = ll (gL g) l + gL g (nV bs (tE bs p)).toNat := sI_self _ _ _ _ _
            generalize sI J2 26 0 29 (ll (gL g) l + gL g (nV bs (tE bs p)).toNat) = J3 at f3 a3
            have hB3 : BfM J3 bs := ((hB.mx f1).fm f2 (by unfold FWR; omega) (fun s => by unfold FWR; omega)).fm f3 (by omega) (fun s => by omega)
            have hT3 : TM J3 bs (tE bs p) := (t1.fm f2 (fun s _ _ => by unfold FWR; omega)).fm f3 (fun s _ _ => by omega)
            have hG3 := hG2.fm f3 (fun s _ z => by omega)
            refine tr_call (tm_advS hB3 hl hr hE.2.1 hT3) ?_
            rintro _ J4 ⟨hT4, e4, f4⟩
            have he4 : J4 26 0 25 = 0 := by rw [e4, f3.at (by decide) (by omega), fk 25, he1]
            refine tr_call (t_takesSign (hB3.mx f4) hl hr hE2.2.1 hT4 he4 (c := 41) (k := 5) (by omega)) ?_
            rintro _ J5 ⟨y1, y2, f5⟩
            have fend : Fm FRq I J5 := (f1.mono fmx_rm).trans ((f2.mono fwr_rm).trans ((f3.mono (fun a b c z => Or.inr (Or.inr z))).trans ((f4.trans f5).mono fmx_rm)))
            by_cases c6 : tK bs (tE bs (tE bs p)) = 5
            · obtain ⟨y3, y4⟩ := y1 c6
              refine tr_ret ⟨?_, fend⟩
              rw [if_pos ⟨hnb, by omega, c3, by omega, c6⟩]
              refine ⟨hB3.mx (f4.trans f5), hG3.mx (f4.trans f5), y3, y4, ?_, fun r hrk => ?_⟩
              · rw [(f4.trans f5).at (by decide) (by unfold FMx; omega), a3, ll_app, ll_cons, ll_nil]
                have hs2 : sl (gL g) (26 + nV bs (tE bs p)) = gL g (nV bs (tE bs p)).toNat := by
                  unfold sl
                  rw [if_neg (by omega), show 26 + nV bs (tE bs p) - 26 = nV bs (tE bs p) by omega]
                rw [hs2]
                omega
              · rw [(f4.trans f5).at (by decide) (by unfold FMx; omega), f3.at (by decide) (by omega), f2.at (by decide) (by unfold FWR; omega)]
                exact e5 r hrk
            · refine tr_ret ⟨bad _ _ _ (fun z => c6 z.2.2.2.2) ?_, fend⟩
              exact ERR.of (y2 c6) (by decide)
      · rw [if_neg c3]
        refine tr_call (mf_1 he1 (by decide) (by decide)) ?_
        rintro x K ⟨rfl, b, f⟩
        rw [if_neg (by decide)]
        exact tr_ret ⟨bad _ _ _ (fun z => c3 z.2.2.1) (ERR.of b (by decide)), (f1.mono fmx_rm).trans (f.mono fem_rm)⟩
    · rw [if_neg c39]
      refine tr_call (mf_1 he1 (by decide) (by decide)) ?_
      rintro x K ⟨rfl, b, f⟩
      rw [if_neg (by decide)]
      exact tr_ret ⟨bad _ _ _ (fun z => by have := (nb_val z.1).2.2; omega) (ERR.of b (by decide)), (f1.mono fmx_rm).trans (f.mono fem_rm)⟩
  · rw [if_neg (fun z => c2 ((km_2 bs _).mp z))]
    refine tr_call (mf_1 he1 (by decide) (by decide)) ?_
    rintro x K ⟨rfl, b, f⟩
    rw [if_neg (by decide)]
    exact tr_ret ⟨bad _ _ _ (fun z => c2 (nb_val z.1).1) (ERR.of b (by decide)), (f1.mono fmx_rm).trans (f.mono fem_rm)⟩
theorem itL_stop {L : Nat → Int} (h : ¬ (tK bs p = 1 ∨ tK bs p = 4)) : ∀ n : Nat, itL bs L k n l p = some (l, p)
  | 0 => rfl
  | n + 1 => by
    show (if tK bs p = 1 ∨ tK bs p = 4 then _ else _) = _
    rw [if_neg h]
theorem w11_err (a b : Int) (he : w32 (I 26 0 25) ≠ 0) {s : Int} : whl (f_M_items_w11 a b) s I = some ((), I) := by
  rw [whl_eq]
  unfold f_M_items_w11
  by_cases q : w32 s = 0
  · rw [if_pos q]
  · rw [if_neg q, if_neg he]
theorem w11_0 (a b : Int) : whl (f_M_items_w11 a b) 0 I = some ((), I) := by
  rw [whl_eq]
  unfold f_M_items_w11
  rw [if_pos (by decide)]
theorem t_mitemsL (hl : bs.length ≤ 600) (hr : ∀ b ∈ bs, 1 ≤ b ∧ b ≤ 255) (hL : LR (gL g) k) (hi : i < 41) : ∀ (n p : Nat) (l : List Int) (I : Mem), p ≤ bs.length → bs.length - p < n → LI (gL g) k l → MI I bs g i k l p → Tr (whl (f_M_items_w11 (i : Int) (k : Int)) 1 I) (fun _ K => OKM K bs g i k (if tK bs p = 1 ∨ tK bs p = 4 then itL bs (gL g) k n l p else none) ∧ Fm FRq I K) := by
  intro n
  induction n with
  | zero => intro p l I _ h; omega
  | succ n ih =>
    intro p l I hp hn hI h
    obtain ⟨hB, hG, hT, he, h29, h5⟩ := id h
    have hkr := tK_rng bs p
    -- behind an item
    have next : ∀ (o : Option (List Int × Nat)), (o = if tK bs p = 1 ∨ tK bs p = 4 then itm bs (gL g) k l p else none) → ∀ {e : Option (Unit × Mem)}, Tr e (fun _ K => OKM K bs g i k o ∧ Fm FRq I K) → Tr (bnd e fun _ K => f_M_items_j45 (i : Int) (k : Int) K) (fun y K => LQ (fun s' J' => Tr (whl (f_M_items_w11 (i : Int) (k : Int)) s' J') (fun _ K => OKM K bs g i k (if tK bs p = 1 ∨ tK bs p = 4 then itL bs (gL g) k (n + 1) l p else none) ∧ Fm FRq I K)) (fun _ K => OKM K bs g i k (if tK bs p = 1 ∨ tK bs p = 4 then itL bs (gL g) k (n + 1) l p else none) ∧ Fm FRq I K) y K) := by
      intro o ho e hc
      refine tr_call hc ?_
      rintro _ K ⟨hk, f⟩
      unfold f_M_items_j45
      cases o with
      | none =>
        have hres : (if tK bs p = 1 ∨ tK bs p = 4 then itL bs (gL g) k (n + 1) l p else none) = none := by
          by_cases q : tK bs p = 1 ∨ tK bs p = 4
          · rw [if_pos q] at ho ⊢
            show (if tK bs p = 1 ∨ tK bs p = 4 then _ else _) = _
            rw [if_pos q, ← ho]
          · rw [if_neg q]
        have hkE : ERR K := hk
        have hk := hkE.ne
        have fin : ∀ s : Int, Tr (whl (f_M_items_w11 (i : Int) (k : Int)) s K) (fun _ K => OKM K bs g i k (if tK bs p = 1 ∨ tK bs p = 4 then itL bs (gL g) k (n + 1) l p else none) ∧ Fm FRq I K) := fun s => by
          rw [w11_err _ _ hk, hres]
          exact tr_ret ⟨hkE, f⟩
        by_cases q : w32 (K 26 0 23) = 1
        · rw [if_pos q]
          exact tr_ret (fin 1)
        · rw [if_neg q, m_isSignE hk, bnd_some, if_pos (by decide)]
          exact tr_ret (fin 0)
      | some s =>
        have hq : tK bs p = 1 ∨ tK bs p = 4 := by
          refine Classical.byContradiction fun q => ?_
          rw [if_neg q] at ho
          cases ho
        rw [if_pos hq] at ho
        obtain ⟨i1, i2, i3⟩ := itm_inv hL hp hI hq ho.symm
        have hres : (if tK bs p = 1 ∨ tK bs p = 4 then itL bs (gL g) k (n + 1) l p else none) = itL bs (gL g) k n s.1 s.2 := by
          rw [if_pos hq]
          show (if tK bs p = 1 ∨ tK bs p = 4 then _ else _) = _
          rw [if_pos hq, ← ho]
        have hk : MI K bs g i k s.1 s.2 := hk
        obtain ⟨kB, kG, kT, ke, k29, k5⟩ := id hk
        rw [kT.1]
        have go : tK bs s.2 = 1 ∨ tK bs s.2 = 4 → Tr (whl (f_M_items_w11 (i : Int) (k : Int)) 1 K) (fun _ K => OKM K bs g i k (if tK bs p = 1 ∨ tK bs p = 4 then itL bs (gL g) k (n + 1) l p else none) ∧ Fm FRq I K) := fun z => by
          refine tr_mono (ih s.2 s.1 K i3 (by omega) i1 hk) ?_
          rintro _ M ⟨a, b⟩
          rw [if_pos z] at a
          rw [hres]
          exact ⟨a, f.trans b⟩
        by_cases q1 : tK bs s.2 = 1
        · rw [if_pos ((km_1 bs _).mpr q1)]
          exact tr_ret (go (Or.inl q1))
        · rw [if_neg (fun z => q1 ((km_1 bs _).mp z)), m_isSign kB hl hr i3 kT ke (c := 40) (k := 4) (by omega), bnd_some]
          by_cases q4 : tK bs s.2 = 4
          · rw [if_neg (wb_pos q4)]
            exact tr_ret (go (Or.inr q4))
          · rw [if_pos (wb_neg q4)]
            refine tr_ret ?_
            show Tr (whl (f_M_items_w11 (i : Int) (k : Int)) 0 K) _
            rw [w11_0, hres, itL_stop (by omega)]
            exact tr_ret ⟨hk, f⟩
    have step : Tr (f_M_items_w11 (i : Int) (k : Int) 1 I) (fun y K => LQ (fun s' J' => Tr (whl (f_M_items_w11 (i : Int) (k : Int)) s' J') (fun _ K => OKM K bs g i k (if tK bs p = 1 ∨ tK bs p = 4 then itL bs (gL g) k (n + 1) l p else none) ∧ Fm FRq I K)) (fun _ K => OKM K bs g i k (if tK bs p = 1 ∨ tK bs p = 4 then itL bs (gL g) k (n + 1) l p else none) ∧ Fm FRq I K) y K) := by
      unfold f_M_items_w11
      rw [if_neg (by decide), he, if_pos (by decide), m_isSign hB hl hr hp hT he (c := 40) (k := 4) (by omega), bnd_some]
      by_cases q4 : tK bs p = 4
      · rw [if_neg (wb_pos q4)]
        exact next _ (by rw [if_pos (Or.inr q4)]) (t_ruleItem hl hr hL hi hp hI q4 h)
      · rw [if_pos (wb_neg q4)]
        refine next _ ?_ (t_wordItem hl hr hL hi hp hI h)
        by_cases q1 : tK bs p = 1
        · rw [if_pos q1, if_pos (Or.inl q1)]
        · rw [if_neg q1, if_neg (by omega)]
    obtain ⟨y, K, e, hy⟩ := step
    rw [whl_eq, e]
    cases y with
    | inl s => exact hy
    | inr r => exact tr_ret (Q := fun _ K => OKM K bs g i k _ ∧ Fm FRq I K) hy
abbrev FRn : FP := fun k i s => FRq k i s ∨ FL k i s
theorem t_mitems (hl : bs.length ≤ 600) (hr : ∀ b ∈ bs, 1 ≤ b ∧ b ≤ 255) (hL : LR (gL g) k) (hi : i < 41) (hp : p ≤ bs.length) (hB : BfM I bs) (hG : GW I g) (w : PWF g) (hne : ∀ r : Nat, r < k → gR g (r + 1) ≠ []) (h0 : gR g i = []) (hT : TM I bs p) (he : I 26 0 25 = 0) : Tr (f_M_items (i : Int) (k : Int) I) (fun _ K => OKM K bs g i k (items bs (gL g) k p) ∧ Fm FRn I K) := by
  unfold f_M_items
  try dsimp only [ltI]
  have f1 : Fm (fun k i s => k = 26 ∧ i = 0 ∧ s = 29) I (sI I 26 0 29 0) := Fm.sI (by decide) (by omega) (by omega) ⟨rfl, rfl, rfl⟩
  have e29 : (sI I 26 0 29 0) 26 0 29 = 0 := sI_self _ _ _ _ _
  generalize sI I 26 0 29 0 = J at f1 e29
  have hGJ : GW J g := hG.fm f1 (fun s _ z => by omega)
  refine tr_call (t_laysLengthsP hGJ w) ?_
  rintro _ K ⟨hLN, hGK, f2⟩
  have hBK : BfM K bs := (hB.fm f1 (by omega) (fun s => by omega)).fm f2 (by unfold FL; omega) (fun s => by unfold FL; omega)
  have hTK : TM K bs p := (hT.fm f1 (fun s _ _ => by omega)).fm f2 (fun s _ _ => by unfold FL; omega)
  have hk40 := hL.1
  have hc : MI K bs g i k [] p := by
    refine ⟨hBK, ?_, hTK, ?_, ?_, fun r hrk => (hLN.2 r (by omega) (hne r hrk)).1⟩
    · refine GW.congr hGK (fun j hj => ?_) rfl (fun _ _ => rfl) (fun _ _ => rfl)
      show up (gR g) i [] j = gR g j
      by_cases q : j = i
      · subst q; rw [up_self, h0]
      · rw [up_ne q]
    · rw [f2.at (by decide) (by unfold FL; omega), f1.at (by decide) (by omega), he]
    · rw [f2.at (by decide) (by unfold FL; omega), e29]; rfl
  refine tr_call (P := fun _ M => OKM M bs g i k (items bs (gL g) k p) ∧ Fm FRn I M) (tr_mono (t_mitemsL hl hr hL hi 601 p [] K hp (by omega) ⟨fun x hx => absurd hx List.not_mem_nil, by rw [ll_nil]; omega⟩ hc) ?_) (fun _ _ q => tr_ret q)
  rintro _ M ⟨a, f⟩
  exact ⟨a, (f1.mono (fun a b c z => Or.inl (Or.inr (Or.inr z)))).trans ((f2.mono (fun a b c z => Or.inr z)).trans (f.mono (fun a b c z => Or.inl z)))⟩
end SETM
