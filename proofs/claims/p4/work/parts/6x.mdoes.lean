/-! ===== scripts: one order, the reference ===== -/
theorem tf_no {p : Prop} (h : true = false) : p := Bool.noConfusion h
theorem ft_no {p : Prop} (h : false = true) : p := Bool.noConfusion h
section MDO
variable {I J : Mem} {g g' : GS} {bs : List Int} {E : List EN} {k : Nat}
def BUF (I : Mem) (bs : List Int) : Prop := ∀ j : Nat, j < bs.length → I 27 14 j = bs.getD j 0
theorem BUF.ms (h : BUF I bs) (f : Fm FMS I J) : BUF J bs := fun j hj => by rw [f.at (by decide) (by unfold FMS FW FBP FMP FL; omega)]; exact h j hj
theorem fw_ms : ∀ k i s : Nat, FW k i s → FMS k i s := fun _ _ _ z => Or.inl z
theorem t_mapp {f m : Nat} (hfm : f + m ≤ bs.length) (hb : bs.length ≤ 600) (hr : ∀ b ∈ bs, 1 ≤ b ∧ b ≤ 255) (hlet : ∀ j : Nat, j < m → 97 ≤ bs.getD (f + j) 0 ∧ bs.getD (f + j) 0 ≤ 122) : ∀ (n j : Nat) (g : GS) (its : Int) (I : Mem), j + n = m → 0 ≤ its ∧ its ≤ 1000 → GW I g → WF g → BUF I bs → Tr (whl (f_M_appendsWord_w5 (f : Int) (m : Int)) (its, (j : Int)) I) (fun x K => ((apL (letL ((bs.drop (f + j)).take n)) g).2 = true → 0 ≤ w32 x) ∧ ((apL (letL ((bs.drop (f + j)).take n)) g).2 = false → w32 x < 0) ∧ GW K (apL (letL ((bs.drop (f + j)).take n)) g).1 ∧ Fm FW I K) := by
  intro n
  induction n with
  | zero =>
    intro j g its I hj hi h w hBu
    have hst : f_M_appendsWord_w5 (f : Int) (m : Int) (its, (j : Int)) I = some (.inr its, I) := by
      unfold f_M_appendsWord_w5
      dsimp only
      rw [w32_of (x := (j : Int)) (by omega) (by omega), w32_of (x := (m : Int)) (by omega) (by omega), if_neg (by omega)]
    rw [whl_eq, hst]
    have e0 : apL (letL ((bs.drop (f + j)).take 0)) g = (g, true) := by rw [List.take_zero]; rfl
    rw [e0]
    exact tr_ret ⟨fun _ => by rw [w32_of (x := its) (by omega) (by omega)]; exact hi.1, fun z => tf_no z, h, Fm.refl _ _⟩
  | succ n ih =>
    intro j g its I hj hi h w hBu
    have hlr := hlet j (by omega)
    have hT4 : (gT g).length ≤ 400 := w.2.2.2.2.1
    have ed : letL ((bs.drop (f + j)).take (n + 1)) = (bs.getD (f + j) 0 - 97) :: letL ((bs.drop (f + (j + 1))).take n) := by
      have hc : bs.drop (f + j) = bs.getD (f + j) 0 :: bs.drop (f + (j + 1)) := by
        rw [gd_ge (show f + j < bs.length by omega), show f + (j + 1) = f + j + 1 from rfl]
        exact List.drop_eq_getElem_cons _
      rw [hc]
      rfl
    have e1 : apL (letL ((bs.drop (f + j)).take (n + 1))) g = if (gT g).length < 400 then apL (letL ((bs.drop (f + (j + 1))).take n)) (gAppend g (bs.getD (f + j) 0 - 97)) else (g, false) := by rw [ed]; rfl
    have hst : ∀ {Q : (Int × Int) ⊕ Int → Mem → Prop}, Tr (f_M_appendNow (bs.getD (f + j) 0 - 97) I) (fun x K => Q (.inl (x, (j : Int) + 1)) K) → Tr (f_M_appendsWord_w5 (f : Int) (m : Int) (its, (j : Int)) I) Q := by
      intro Q hq
      unfold f_M_appendsWord_w5
      dsimp only
      rw [w32_of (x := (j : Int)) (by omega) (by omega), w32_of (x := (m : Int)) (by omega) (by omega), if_pos (by omega), w32_of (x := its) (by omega) (by omega), if_neg (by omega), show (f : Int) + (j : Int) = ((f + j : Nat) : Int) from by omega, w32_of (x := ((f + j : Nat) : Int)) (by omega) (by omega), if_pos (by omega), Int.toNat_natCast, hBu _ (by omega)]
      exact tr_call hq (fun x K z => tr_ret z)
    refine tr_step (hst ?_)
    by_cases q : (gT g).length < 400
    · have e2 := e1
      rw [if_pos q] at e2
      rw [e2]
      have l0 := (w.lle (i := 0) (by decide)).1
      have hT : ll (gL g) (gR g 0) = (gT g).length := w.2.2.1
      refine tr_mono (t_mappendNow h (by omega) q _) ?_
      rintro x K ⟨rfl, gc, f1⟩
      show Tr (whl (f_M_appendsWord_w5 (f : Int) (m : Int)) ((((gT g).length : Int) + 1), ((j : Int) + 1)) K) _
      refine tr_mono (ih (j + 1) _ (((gT g).length : Int) + 1) K (by omega) (by omega) gc (w.app q (by omega)) (hBu.ms (f1.mono fw_ms))) ?_
      rintro x L ⟨a, b, c, d⟩
      exact ⟨a, b, c, f1.trans d⟩
    · have e2 := e1
      rw [if_neg q] at e2
      rw [e2]
      have e3 : I 27 0 3 = ((gT g).length : Int) := h.2.1
      have ea : f_M_appendNow (bs.getD (f + j) 0 - 97) I = some (-5, I) := by
        unfold f_M_appendNow
        rw [e3, w32_of (x := ((gT g).length : Int)) (by omega) (by omega), if_pos (by omega)]
      rw [ea]
      refine tr_ret ?_
      show Tr (whl (f_M_appendsWord_w5 (f : Int) (m : Int)) (-5, ((j : Int) + 1)) I) _
      have hs2 : f_M_appendsWord_w5 (f : Int) (m : Int) (-5, ((j : Int) + 1)) I = some (.inr (-5), I) := by
        unfold f_M_appendsWord_w5
        dsimp only
        by_cases z : w32 ((j : Int) + 1) < w32 (m : Int)
        · rw [if_pos z, if_pos (by decide)]
        · rw [if_neg z]
      rw [whl_eq, hs2]
      exact tr_ret ⟨fun z => ft_no z, fun _ => by decide, h, Fm.refl _ _⟩
theorem t_does (h : GW I g) (w : WF g) (hb : bs.length ≤ 600) (hr : ∀ b ∈ bs, 1 ≤ b ∧ b ≤ 255) (hBu : BUF I bs) (hS : SMl I E) (hE : E.length ≤ 60) (hk : k < E.length) (v : VE bs (eD E k)) (h12 : (eD E k).1 ≠ 12) (h13 : (eD E k).1 ≠ 13) : Tr (f_M_does (k : Int) I) (fun x K => ((dO bs (eD E k) g).2 = true → 0 ≤ w32 x) ∧ ((dO bs (eD E k) g).2 = false → w32 x < 0) ∧ GW K (dO bs (eD E k) g).1 ∧ Fm FMS I K) := by
  have hz : (eD E k).1 = 3 ∨ (eD E k).1 = 4 ∨ (eD E k).1 = 5 ∨ (eD E k).1 = 6 ∨ (eD E k).1 = 7 ∨ (eD E k).1 = 8 ∨ (eD E k).1 = 9 ∨ (eD E k).1 = 10 ∨ (eD E k).1 = 11 := by
    have a := v.1
    have b := v.2.1
    clear v
    omega
  obtain ⟨v1, v2, v3, v4⟩ := v
  obtain ⟨m1, m2, m3⟩ := hS.2.1 k hk
  have hT4 : (gT g).length ≤ 400 := w.2.2.2.2.1
  unfold f_M_does
  rw [w32_of (x := (k : Int)) (by omega) (by omega), if_pos (by omega), Int.toNat_natCast]
  have fin : ∀ {e : Option (Int × Mem)} {g' : GS}, dO bs (eD E k) g = (g', true) → Tr e (fun x K => 0 ≤ w32 x ∧ GW K g' ∧ Fm FMS I K) → Tr (bnd e fun x J => some (x, J)) (fun x K => ((dO bs (eD E k) g).2 = true → 0 ≤ w32 x) ∧ ((dO bs (eD E k) g).2 = false → w32 x < 0) ∧ GW K (dO bs (eD E k) g).1 ∧ Fm FMS I K) := by
    intro e g' ed he
    refine tr_call he ?_
    rintro x K ⟨a, b, c⟩
    rw [ed]
    exact tr_ret ⟨fun _ => a, fun z => tf_no z, b, c⟩
  have num3 : ∀ j : Nat, j < 3 → (eD E k).1 = 3 + j → Tr (bnd (f_M_setNow (j : Int) (I 27 16 k) I) fun x J => some (x, J)) (fun x K => ((dO bs (eD E k) g).2 = true → 0 ≤ w32 x) ∧ ((dO bs (eD E k) g).2 = false → w32 x < 0) ∧ GW K (dO bs (eD E k) g).1 ∧ Fm FMS I K) := by
    intro j hj hw
    refine fin (g' := gsN g j (eD E k).2.1) ?_ ?_
    · unfold dO
      rw [if_neg (by omega), if_neg (by omega), if_neg (by omega), if_neg (by omega), if_neg (by omega), if_neg (by omega), hw, show 3 + j - 3 = j by omega]
    · rw [m2 (by omega) (by omega)]
      have nr := gN_rng w hj
      refine tr_mono (t_msetNow h hj _) ?_
      rintro x K ⟨rfl, gc, f⟩
      exact ⟨by rw [w32_of (x := gN g j) (by omega) (by omega)]; omega, gc, f.mono fw_ms⟩
  rcases hz with z | z | z | z | z | z | z | z | z
  · rw [m1, show w32 (oc (eD E k).1) = 0 by rw [z]; decide, if_neg (by decide), if_neg (by decide), if_neg (by decide), if_neg (by decide), if_neg (by decide), if_neg (by decide), show oc (eD E k).1 = ((0 : Nat) : Int) by rw [z]; rfl]
    exact num3 0 (by decide) z
  · rw [m1, show w32 (oc (eD E k).1) = 1 by rw [z]; decide, if_neg (by decide), if_neg (by decide), if_neg (by decide), if_neg (by decide), if_neg (by decide), if_neg (by decide), show oc (eD E k).1 = ((1 : Nat) : Int) by rw [z]; rfl]
    exact num3 1 (by decide) z
  · rw [m1, show w32 (oc (eD E k).1) = 2 by rw [z]; decide, if_neg (by decide), if_neg (by decide), if_neg (by decide), if_neg (by decide), if_neg (by decide), if_neg (by decide), show oc (eD E k).1 = ((2 : Nat) : Int) by rw [z]; rfl]
    exact num3 2 (by decide) z
  · have v5 := v4 (by omega) (by omega) (by omega) h13
    rw [z] at v5
    have hh : wHig 6 = 50 := rfl
    have hw : wLow 6 = 1 := rfl
    rw [m1, show w32 (oc (eD E k).1) = 10 by rw [z]; decide, if_pos rfl]
    refine fin (g' := (stepsG (eD E k).2.1.toNat g).2) (by unfold dO; rw [if_pos z]) ?_
    rw [m2 (by omega) (by omega), show (eD E k).2.1 = (((eD E k).2.1.toNat : Nat) : Int) by omega, Int.toNat_natCast]
    have key : ∀ (n : Nat) (g : GS), (stepsG n g).1 ≤ n := by
      intro n
      induction n with
      | zero => intro g; exact Nat.le_refl 0
      | succ n ih =>
        intro g
        by_cases q : bestP g = -1
        · rw [stepsG_none q]; exact Nat.zero_le _
        · rw [stepsG_some q]; have := ih (stG g); show _ + 1 ≤ n + 1; omega
    have kk := key (eD E k).2.1.toNat g
    refine tr_mono (t_mstepsMany h w (by omega)) ?_
    rintro x K ⟨rfl, gc, f⟩
    exact ⟨by rw [w32_of (by omega) (by omega)]; omega, gc, f⟩
  · rw [m1, show w32 (oc (eD E k).1) = 11 by rw [z]; decide, if_neg (by decide), if_pos rfl]
    refine fin (g' := (inlG 40 g).2) (by unfold dO; rw [if_neg (by omega), if_pos z]) ?_
    have kk := inlG_le 40 g
    refine tr_mono (t_minlines h w) ?_
    rintro x K ⟨rfl, gc, f⟩
    exact ⟨by rw [w32_of (by omega) (by omega)]; omega, gc, f.mono fw_ms⟩
  · obtain ⟨f, f1, f2, f3, f4, f5⟩ := v3 (Or.inl z)
    have hm2 := f5 z
    have ha := f4 0 (by omega)
    have hbb := f4 1 (by omega)
    rw [Nat.add_zero] at ha
    rw [m1, show w32 (oc (eD E k).1) = 12 by rw [z]; decide, if_neg (by decide), if_neg (by decide), if_pos rfl, m2 (by omega) (by omega), f1, w32_of (x := (f : Int)) (by omega) (by omega), show (f : Int) + 1 = ((f + 1 : Nat) : Int) from by omega, w32_of (x := ((f + 1 : Nat) : Int)) (by omega) (by omega), if_pos (by omega), if_pos (by omega), Int.toNat_natCast, Int.toNat_natCast, hBu f (by omega), hBu (f + 1) (by omega)]
    have ed : dO bs (eD E k) g = (mkS g (bs.getD f 0 - 97) (bs.getD (f + 1) 0 - 97), decide (0 ≤ mkC g (bs.getD f 0 - 97) (bs.getD (f + 1) 0 - 97))) := by
      unfold dO
      rw [if_neg (by omega), if_neg (by omega), if_pos z, f1, Int.toNat_natCast]
    rw [ed]
    have mr := mkC_rng (g := g) (a := bs.getD f 0 - 97) (b := bs.getD (f + 1) 0 - 97)
    refine tr_call (t_mmakeNow h w (a := bs.getD f 0 - 97) (b := bs.getD (f + 1) 0 - 97) (by omega) (by omega)) ?_
    rintro x K ⟨rfl, gc, ff⟩
    refine tr_ret ⟨fun y => ?_, fun y => ?_, gc, ff⟩
    · have y : 0 ≤ mkC g (bs.getD f 0 - 97) (bs.getD (f + 1) 0 - 97) := of_decide_eq_true y
      rw [w32_of (by omega) (by omega)]; exact y
    · have y : ¬ 0 ≤ mkC g (bs.getD f 0 - 97) (bs.getD (f + 1) 0 - 97) := of_decide_eq_false y
      rw [w32_of (by omega) (by omega)]; omega
  · have v5 := v4 (by omega) (by omega) (by omega) h13
    rw [z] at v5
    have hh : wHig 9 = 39 := rfl
    have hw : wLow 9 = 0 := rfl
    rw [m1, show w32 (oc (eD E k).1) = 13 by rw [z]; decide, if_neg (by decide), if_neg (by decide), if_neg (by decide), if_pos rfl]
    have ed : dO bs (eD E k) g = if gR g ((eD E k).2.1.toNat + 1) = [] then (g, false) else (gDis g (eD E k).2.1.toNat 4, true) := by
      unfold dO
      rw [if_neg (by omega), if_neg (by omega), if_neg (by omega), if_pos z]
    rw [ed, m2 (by omega) (by omega), show (eD E k).2.1 = (((eD E k).2.1.toNat : Nat) : Int) by omega, Int.toNat_natCast]
    have ur : 0 ≤ gUses g (eD E k).2.1.toNat ∧ gUses g (eD E k).2.1.toNat ≤ 16400 := by
      constructor
      · unfold gUses
        have : ∀ n : Nat, 0 ≤ sT (fun i => ((gR g i).count (26 + (((eD E k).2.1.toNat : Nat) : Int)) : Int)) n := by
          intro n
          induction n with
          | zero => exact Int.le_refl 0
          | succ n ih => show 0 ≤ sT (fun i => ((gR g i).count (26 + (((eD E k).2.1.toNat : Nat) : Int)) : Int)) n + ((gR g n).count (26 + (((eD E k).2.1.toNat : Nat) : Int)) : Int); omega
        exact this 41
      · unfold gUses
        have : ∀ n : Nat, n ≤ 41 → sT (fun i => ((gR g i).count (26 + (((eD E k).2.1.toNat : Nat) : Int)) : Int)) n ≤ 400 * (n : Int) := by
          intro n
          induction n with
          | zero => intro _; exact Int.le_refl 0
          | succ n ih =>
            intro hn
            have i1 := ih (by omega)
            have i2 := w.len400 n (by omega)
            have i3 := List.count_le_length (a := (26 + (((eD E k).2.1.toNat : Nat) : Int))) (l := gR g n)
            show sT (fun i => ((gR g i).count (26 + (((eD E k).2.1.toNat : Nat) : Int)) : Int)) n + ((gR g n).count (26 + (((eD E k).2.1.toNat : Nat) : Int)) : Int) ≤ 400 * ((n + 1 : Nat) : Int)
            omega
        have := this 41 (Nat.le_refl _)
        omega
    refine tr_call (t_mexpandNow h w (r := (eD E k).2.1.toNat) (by omega)) ?_
    rintro x K ⟨y | y, ff⟩
    · obtain ⟨y1, rfl, y3⟩ := y
      rw [if_pos y1]
      exact tr_ret ⟨fun u => ft_no u, fun _ => by decide, y3, ff.mono fw_ms⟩
    · obtain ⟨y1, rfl, y3⟩ := y
      rw [if_neg y1]
      exact tr_ret ⟨fun _ => by rw [w32_of (by omega) (by omega)]; exact ur.1, fun u => tf_no u, y3, ff.mono fw_ms⟩
  · obtain ⟨f, f1, f2, f3, f4, f5⟩ := v3 (Or.inr z)
    rw [m1, show w32 (oc (eD E k).1) = 14 by rw [z]; decide, if_neg (by decide), if_neg (by decide), if_neg (by decide), if_neg (by decide), if_pos rfl]
    have ed : dO bs (eD E k) g = apL (letL ((bs.drop (f + 0)).take (eD E k).2.2)) g := by
      unfold dO
      rw [if_neg (by omega), if_neg (by omega), if_neg (by omega), if_neg (by omega), if_pos z, f1, Int.toNat_natCast, Nat.add_zero]
    rw [ed, m2 (by omega) (by omega), m3 (Or.inr z), f1]
    unfold f_M_appendsWord
    refine tr_call (tr_call (t_mapp f2 hb hr f4 (eD E k).2.2 0 g 0 I (Nat.zero_add _) (by decide) h w hBu) (fun x K y => tr_ret y)) ?_
    rintro x K ⟨a, b, c, d⟩
    exact tr_ret ⟨a, b, c, d.mono fw_ms⟩
  · have v5 := v4 (by omega) (by omega) (by omega) h13
    rw [z] at v5
    have hh : wHig 11 = 400 := rfl
    have hw : wLow 11 = 1 := rfl
    rw [m1, show w32 (oc (eD E k).1) = 15 by rw [z]; decide, if_neg (by decide), if_neg (by decide), if_neg (by decide), if_neg (by decide), if_neg (by decide), if_pos rfl]
    have ed : dO bs (eD E k) g = if (eD E k).2.1.toNat < (gT g).length then (gCut g (eD E k).2.1.toNat, true) else (g, false) := by
      unfold dO
      rw [if_neg (by omega), if_neg (by omega), if_neg (by omega), if_neg (by omega), if_neg (by omega), if_pos z]
    rw [ed, m2 (by omega) (by omega), show (eD E k).2.1 = (((eD E k).2.1.toNat : Nat) : Int) by omega, Int.toNat_natCast]
    by_cases q : (eD E k).2.1.toNat < (gT g).length
    · rw [if_pos q]
      have l2 := (w.cut q).len400 0 (by decide)
      refine tr_call (t_mcutNow h w (by omega) q) ?_
      rintro x K ⟨rfl, gc, f⟩
      exact tr_ret ⟨fun _ => by rw [w32_of (by omega) (by omega)]; omega, fun u => tf_no u, gc, f⟩
    · rw [if_neg q]
      have e3 : I 27 0 3 = ((gT g).length : Int) := h.2.1
      have ea : f_M_cutNow (((eD E k).2.1.toNat : Nat) : Int) I = some (-6, I) := by
        unfold f_M_cutNow
        rw [e3, w32_of (x := ((gT g).length : Int)) (by omega) (by omega), w32_of (x := (((eD E k).2.1.toNat : Nat) : Int)) (by omega) (by omega), if_neg (by omega)]
      rw [ea, bnd_some]
      exact tr_ret ⟨fun u => ft_no u, fun _ => by decide, h, Fm.refl _ _⟩
end MDO
