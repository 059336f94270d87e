/-! ===== scripts: one order, on both sides ===== -/
def apL : List Int → GS → GS × Bool
  | [], g => (g, true)
  | x :: xs, g => if (gT g).length < 400 then apL xs (gAppend g x) else (g, false)
noncomputable def dO (bs : List Int) (e : EN) (g : GS) : GS × Bool :=
  if e.1 = 6 then ((stepsG e.2.1.toNat g).2, true)
  else if e.1 = 7 then ((inlG 40 g).2, true)
  else if e.1 = 8 then (mkS g (bs.getD e.2.1.toNat 0 - 97) (bs.getD (e.2.1.toNat + 1) 0 - 97), decide (0 ≤ mkC g (bs.getD e.2.1.toNat 0 - 97) (bs.getD (e.2.1.toNat + 1) 0 - 97)))
  else if e.1 = 9 then (if gR g (e.2.1.toNat + 1) = [] then (g, false) else (gDis g e.2.1.toNat 4, true))
  else if e.1 = 10 then apL (letL ((bs.drop e.2.1.toNat).take e.2.2)) g
  else if e.1 = 11 then (if e.2.1.toNat < (gT g).length then (gCut g e.2.1.toNat, true) else (g, false))
  else (gsN g (e.1 - 3) e.2.1, true)
theorem apL_wf : ∀ {l : List Int} {g : GS}, WF g → (∀ x ∈ l, 0 ≤ x ∧ x < 26) → WF (apL l g).1
  | [], g, w, _ => w
  | x :: xs, g, w, h => by
    show WF (if (gT g).length < 400 then apL xs (gAppend g x) else (g, false)).1
    by_cases q : (gT g).length < 400
    · rw [if_pos q]
      exact apL_wf (w.app q (h x List.mem_cons_self)) (fun y hy => h y (List.mem_cons_of_mem _ hy))
    · rw [if_neg q]; exact w
theorem gd_ge {l : List Int} {j : Nat} (hj : j < l.length) : l.getD j 0 = l[j] := by simp [List.getD_eq_getElem?_getD, hj]
theorem lts_rng {bs : List Int} {f m : Nat} (hf : f + m ≤ bs.length) (h : ∀ j : Nat, j < m → 97 ≤ bs.getD (f + j) 0 ∧ bs.getD (f + j) 0 ≤ 122) : ∀ x ∈ letL ((bs.drop f).take m), 0 ≤ x ∧ x < 26 := by
  intro x hx
  obtain ⟨b, hb, rfl⟩ := List.mem_map.mp hx
  obtain ⟨j, hj, e⟩ := List.getElem_of_mem hb
  have hl : ((bs.drop f).take m).length = m := by rw [List.length_take, List.length_drop]; omega
  have e2 : ((bs.drop f).take m).getD j 0 = b := by rw [← e]; exact gd_ge hj
  rw [gd_take (by omega), gd_drop] at e2
  have := h j (by omega)
  rw [e2] at this
  omega
theorem dO_wf {bs : List Int} {e : EN} {g : GS} (w : WF g) (v : VE bs e) (h12 : e.1 ≠ 12) (h13 : e.1 ≠ 13) : WF (dO bs e g).1 := by
  obtain ⟨v1, v2, v3, v4⟩ := v
  unfold dO
  by_cases q6 : e.1 = 6
  · rw [if_pos q6]; exact stepsG_wf _ w
  rw [if_neg q6]
  by_cases q7 : e.1 = 7
  · rw [if_pos q7]; exact (mu_inl 40 w).2
  rw [if_neg q7]
  by_cases q8 : e.1 = 8
  · rw [if_pos q8]
    obtain ⟨f, f1, f2, f3, f4, f5⟩ := v3 (Or.inl q8)
    have h2 := f5 q8
    have a := f4 0 (by omega)
    have b := f4 1 (by omega)
    rw [f1, Int.toNat_natCast]
    rw [Nat.add_zero] at a
    exact w.mkS (by omega) (by omega)
  rw [if_neg q8]
  by_cases q9 : e.1 = 9
  · rw [if_pos q9]
    have v5 := v4 q7 q8 (by omega) h13
    rw [q9] at v5
    have : wHig 9 = 39 := rfl
    have : wLow 9 = 0 := rfl
    by_cases z : gR g (e.2.1.toNat + 1) = []
    · rw [if_pos z]; exact w
    · rw [if_neg z]; exact w.dis (by omega) z 4
  rw [if_neg q9]
  by_cases q10 : e.1 = 10
  · rw [if_pos q10]
    obtain ⟨f, f1, f2, f3, f4, f5⟩ := v3 (Or.inr q10)
    rw [f1, Int.toNat_natCast]
    exact apL_wf w (lts_rng f2 f4)
  rw [if_neg q10]
  by_cases q11 : e.1 = 11
  · rw [if_pos q11]
    by_cases z : e.2.1.toNat < (gT g).length
    · rw [if_pos z]; exact w.cut z
    · rw [if_neg z]; exact w
  rw [if_neg q11]
  have v5 := v4 q7 q8 q10 h13
  clear v3 v4
  rcases (show e.1 = 3 ∨ e.1 = 4 ∨ e.1 = 5 by omega) with z | z | z <;> rw [z] at v5 ⊢
  · exact WF_gN w ⟨fun _ => ⟨v5.1, v5.2⟩, fun q => absurd q (by decide), fun q => absurd q (by decide)⟩
  · exact WF_gN w ⟨fun q => absurd q (by decide), fun _ => ⟨v5.1, v5.2⟩, fun q => absurd q (by decide)⟩
  · exact WF_gN w ⟨fun q => absurd q (by decide), fun q => absurd q (by decide), fun _ => ⟨v5.1, v5.2⟩⟩
section ORD
variable {I J : Mem} {g g' : GS} {ps : List GS} {kp : Nat → Option GS} {bs rp : List Int} {E : List EN} {k : Nat}
theorem c_isEntry (h : SCl I E) (hl : E.length ≤ 60) (hk : k < E.length) : f_Scr_isEntry (k : Int) I = some (1, I) := by
  unfold f_Scr_isEntry
  rw [h.1, w32_of (x := (k : Int)) (by omega) (by omega), w32_of (x := (E.length : Int)) (by omega) (by omega), if_neg (by omega), if_pos (by omega)]
theorem c_scrWord (h : SCl I E) (hl : E.length ≤ 60) (hk : k < E.length) (hw : (eD E k).1 < 15) : f_Scr_word (k : Int) I = some ((eD E k).1, I) := by
  unfold f_Scr_word
  rw [c_isEntry h hl hk, bnd_some, if_neg (by decide), w32_of (x := (k : Int)) (by omega) (by omega), if_pos (by omega), Int.toNat_natCast, (h.2.1 k hk).1, Int.toNat_natCast, if_pos hw]
theorem c_scrNum (h : SCl I E) (hl : E.length ≤ 60) (hk : k < E.length) : f_Scr_number (k : Int) I = some (I 21 0 k, I) := by
  unfold f_Scr_number
  rw [c_isEntry h hl hk, bnd_some, if_neg (by decide), w32_of (x := (k : Int)) (by omega) (by omega), if_pos (by omega), Int.toNat_natCast]
theorem c_scrLet (h : SCl I E) (hl : E.length ≤ 60) (hk : k < E.length) (hB : BfC I bs) (hb : bs.length ≤ 600) (hw : (eD E k).1 = 8 ∨ (eD E k).1 = 10) {f j : Nat} (hf : (eD E k).2.1 = (f : Int)) (hj : f + j < bs.length) : f_Scr_letter (k : Int) (j : Int) I = some (bs.getD (f + j) 0 - 97, I) := by
  unfold f_Scr_letter
  rw [c_isEntry h hl hk, bnd_some, if_neg (by decide), w32_of (x := (k : Int)) (by omega) (by omega), if_pos (by omega), Int.toNat_natCast, ((h.2.1 k hk).2.1 hw).1, hf, show (f : Int) + (j : Int) = ((f + j : Nat) : Int) from by omega, c_byteAt hB hb hj, bnd_some]
theorem c_scrMany (h : SCl I E) (hl : E.length ≤ 60) (hk : k < E.length) (hw : (eD E k).1 = 8 ∨ (eD E k).1 = 10) : f_Scr_manyLetters (k : Int) I = some (((eD E k).2.2 : Int), I) := by
  unfold f_Scr_manyLetters
  rw [c_isEntry h hl hk, bnd_some, if_neg (by decide), w32_of (x := (k : Int)) (by omega) (by omega), if_pos (by omega), Int.toNat_natCast, ((h.2.1 k hk).2.1 hw).2]
theorem SCl.op (h : SCl I E) (f : Fm FOp I J) : SCl J E := h.fm f (by unfold FOp FG; omega) (fun k i s z => by unfold FOp FG; omega)
theorem t_doAppend (hE : E.length ≤ 60) (hk : k < E.length) (hw : (eD E k).1 = 10) {f : Nat} (hf : (eD E k).2.1 = (f : Int)) (hfm : f + (eD E k).2.2 ≤ bs.length) (hb : bs.length ≤ 600) (hlet : ∀ j : Nat, j < (eD E k).2.2 → 97 ≤ bs.getD (f + j) 0 ∧ bs.getD (f + j) 0 ≤ 122) : ∀ (n j : Nat) (g : GS) (I : Mem), j + n = (eD E k).2.2 → SC I (g, ps, kp, bs, rp) → WF g → SCl I E → Tr (whl (f_PR_doAppend_w2 (k : Int)) (j : Int) I) (fun x K => x = bI ((apL (letL ((bs.drop (f + j)).take n)) g).2 = true) ∧ SC K ((apL (letL ((bs.drop (f + j)).take n)) g).1, ps, kp, bs, rp) ∧ Fm FOp I K) := by
  intro n
  induction n with
  | zero =>
    intro j g I hj h w hS
    have hst : f_PR_doAppend_w2 (k : Int) (j : Int) I = some (.inr 1, I) := by
      unfold f_PR_doAppend_w2
      rw [c_scrMany hS hE hk (Or.inr hw), bnd_some, w32_of (x := (j : Int)) (by omega) (by omega), w32_of (x := ((eD E k).2.2 : Int)) (by omega) (by omega), if_neg (by omega)]
    rw [whl_eq, hst]
    have e0 : apL (letL ((bs.drop (f + j)).take 0)) g = (g, true) := by rw [List.take_zero]; rfl
    rw [e0]
    exact tr_ret ⟨(bI_pos rfl).symm, h, Fm.refl _ _⟩
  | succ n ih =>
    intro j g I hj h w hS
    have hlr := hlet j (by omega)
    have hG0 : GC I 0 g := h.1
    have hBs : BfC I bs := h.2.2.2.2.2.1
    have ed : letL ((bs.drop (f + j)).take (n + 1)) = (bs.getD (f + j) 0 - 97) :: letL ((bs.drop (f + (j + 1))).take n) := by
      have hc : bs.drop (f + j) = bs.getD (f + j) 0 :: bs.drop (f + (j + 1)) := by
        rw [gd_ge (show f + j < bs.length by omega), show f + (j + 1) = f + j + 1 from rfl]
        exact List.drop_eq_getElem_cons _
      rw [hc]
      rfl
    have e1 : apL (letL ((bs.drop (f + j)).take (n + 1))) g = if (gT g).length < 400 then apL (letL ((bs.drop (f + (j + 1))).take n)) (gAppend g (bs.getD (f + j) 0 - 97)) else (g, false) := by rw [ed]; rfl
    refine tr_step ?_
    rw [e1]
    unfold f_PR_doAppend_w2
    have hT : ll (gL g) (gR g 0) = (gT g).length := w.2.2.1
    have hT4 : (gT g).length ≤ 400 := w.2.2.2.2.1
    rw [c_scrMany hS hE hk (Or.inr hw), bnd_some, w32_of (x := (j : Int)) (by omega) (by omega), w32_of (x := ((eD E k).2.2 : Int)) (by omega) (by omega), if_pos (by omega), g_textLength hG0 (fun i hi => w.sy hi), bnd_some, hT, w32_of (x := ((gT g).length : Int)) (by omega) (by omega)]
    by_cases q : (gT g).length < 400
    · have l0 := (w.lle (i := 0) (by decide)).1
      rw [if_pos (by omega), if_pos q, c_scrLet (bs := bs) hS hE hk hBs hb (Or.inr hw) hf (by omega), bnd_some]
      refine tr_call (t_addLetter hG0 (by omega) q _) ?_
      rintro _ K ⟨gc, f1⟩
      have sc : SC K (gAppend g (bs.getD (f + j) 0 - 97), ps, kp, bs, rp) := h.op (f1.mono fo_g) gc (g1_fm (h.2.1 1 (by decide)) f1 (fun k i s z q => by unfold FG at z q; omega)) (pt_g h.2.2.1 f1)
      refine tr_ret ?_
      show Tr (whl (f_PR_doAppend_w2 (k : Int)) ((j : Int) + 1) K) _
      refine tr_mono (ih (j + 1) _ K (by omega) sc (w.app q (by omega)) (hS.op (f1.mono fo_g))) ?_
      rintro x L ⟨a, b, c⟩
      exact ⟨a, b, (f1.mono fo_g).trans c⟩
    · rw [if_neg (by omega), if_neg q]
      exact tr_ret (show (0 : Int) = bI (false = true) ∧ SC I (g, ps, kp, bs, rp) ∧ Fm FOp I I from ⟨(bI_neg (by decide)).symm, h, Fm.refl _ _⟩)
theorem t_doOrder (h : SC I (g, ps, kp, bs, rp)) (w : WF g) (hb : bs.length ≤ 600) (hS : SCl I E) (hE : E.length ≤ 60) (hk : k < E.length) (v : VE bs (eD E k)) (h12 : (eD E k).1 ≠ 12) (h13 : (eD E k).1 ≠ 13) : Tr (f_PR_doOrder (k : Int) I) (fun x K => x = bI ((dO bs (eD E k) g).2 = true) ∧ SC K ((dO bs (eD E k) g).1, ps, kp, bs, rp) ∧ Fm FOp I K) := by
  have hz : (eD E k).1 = 3 ∨ (eD E k).1 = 4 ∨ (eD E k).1 = 5 ∨ (eD E k).1 = 6 ∨ (eD E k).1 = 7 ∨ (eD E k).1 = 8 ∨ (eD E k).1 = 9 ∨ (eD E k).1 = 10 ∨ (eD E k).1 = 11 := by
    have a := v.1
    have b := v.2.1
    clear v
    omega
  obtain ⟨v1, v2, v3, v4⟩ := v
  have hT : ll (gL g) (gR g 0) = (gT g).length := w.2.2.1
  have hT4 : (gT g).length ≤ 400 := w.2.2.2.2.1
  have g1 := h.2.1 1 (by decide)
  have hG0 : GC I 0 g := h.1
  have hBs : BfC I bs := h.2.2.2.2.2.1
  have hcl := hS.2.1 k hk
  have hnum := hcl.2.2
  unfold f_PR_doOrder
  rw [c_scrNum hS hE hk, bnd_some, c_scrWord hS hE hk (by omega), bnd_some, if_pos (by omega), w32_of (x := (((eD E k).1 : Nat) : Int)) (by omega) (by omega), if_pos (by omega), Int.toNat_natCast]
  have yes : ∀ {α : Type} {e : Option (α × Mem)} {g' : GS} {R : α → Prop}, dO bs (eD E k) g = (g', true) → Tr e (fun x K => SC K (g', ps, kp, bs, rp) ∧ Fm FOp I K) → Tr (bnd e fun _ J => some ((1 : Int), J)) (fun x K => x = bI ((dO bs (eD E k) g).2 = true) ∧ SC K ((dO bs (eD E k) g).1, ps, kp, bs, rp) ∧ Fm FOp I K) := by
    intro α e g' R ed he
    refine tr_call he ?_
    rintro x K ⟨a, b⟩
    rw [ed]
    exact tr_ret ⟨rfl, a, b⟩
  have guard : ∀ {e : Option (Int × Mem)}, Tr e (fun x K => x = bI ((dO bs (eD E k) g).2 = true) ∧ SC K ((dO bs (eD E k) g).1, ps, kp, bs, rp) ∧ Fm FOp I K) → Tr (bnd e fun x J => if x = 0 ∨ x = 1 then some (x, J) else none) (fun x K => x = bI ((dO bs (eD E k) g).2 = true) ∧ SC K ((dO bs (eD E k) g).1, ps, kp, bs, rp) ∧ Fm FOp I K) := by
    intro e he
    refine tr_call he ?_
    rintro x K ⟨rfl, a, b⟩
    rw [if_pos (bI_01 _)]
    exact tr_ret ⟨rfl, a, b⟩
  have num3 : ∀ j : Nat, j < 3 → (eD E k).1 = 3 + j → Tr (bnd (f_G_putNumber 0 (4 + (j : Int)) (I 21 0 k) I) fun _ J => some ((1 : Int), J)) (fun x K => x = bI ((dO bs (eD E k) g).2 = true) ∧ SC K ((dO bs (eD E k) g).1, ps, kp, bs, rp) ∧ Fm FOp I K) := by
    intro j hj hw
    refine yes (R := fun _ => True) (g' := gsN g j (eD E k).2.1) ?_ ?_
    · unfold dO
      rw [if_neg (by omega), if_neg (by omega), if_neg (by omega), if_neg (by omega), if_neg (by omega), if_neg (by omega), hw, show 3 + j - 3 = j by omega]
    · rw [hnum (by omega) (by omega) (by omega) (by omega)]
      refine tr_mono (t_putNumber hG0 hj _) ?_
      rintro _ K ⟨gc, f⟩
      exact ⟨h.op (f.mono fo_g) gc (g1_fm g1 f (fun k i s z q => by unfold FG at z q; omega)) (pt_g h.2.2.1 f), f.mono fo_g⟩
  rcases hz with z | z | z | z | z | z | z | z | z
  · rw [show w32 (wSm.getD (eD E k).1 0) = 7 by rw [z]; decide, if_neg (by decide), if_neg (by decide), if_neg (by decide), if_neg (by decide), if_neg (by decide), if_neg (by decide), if_pos rfl]
    exact num3 0 (by decide) z
  · rw [show w32 (wSm.getD (eD E k).1 0) = 8 by rw [z]; decide, if_neg (by decide), if_neg (by decide), if_neg (by decide), if_neg (by decide), if_neg (by decide), if_neg (by decide), if_neg (by decide), if_pos rfl]
    exact num3 1 (by decide) z
  · rw [show w32 (wSm.getD (eD E k).1 0) = 9 by rw [z]; decide, if_neg (by decide), if_neg (by decide), if_neg (by decide), if_neg (by decide), if_neg (by decide), if_neg (by decide), if_neg (by decide), if_neg (by decide), if_pos rfl]
    exact num3 2 (by decide) z
  · have v5 := v4 (by omega) (by omega) (by omega) h13
    rw [z] at v5
    have hh : wHig 6 = 50 := rfl
    have hw : wLow 6 = 1 := rfl
    rw [show w32 (wSm.getD (eD E k).1 0) = 1 by rw [z]; decide, if_pos rfl]
    refine yes (R := fun _ => True) (g' := (stepsG (eD E k).2.1.toNat g).2) (by unfold dO; rw [if_pos z]) ?_
    rw [hnum (by omega) (by omega) (by omega) (by omega), show (eD E k).2.1 = (((eD E k).2.1.toNat : Nat) : Int) by omega, Int.toNat_natCast]
    refine tr_mono (t_makeSteps hG0 w h.2.2.1 (by omega)) ?_
    rintro x K ⟨-, gc, -, pt2, f⟩
    exact ⟨h.op (f.mono fo_s) gc (g1_fm g1 f (fun k i s z q => by unfold FG at z; unfold FST FG FPA at q; omega)) pt2, f.mono fo_s⟩
  · rw [show w32 (wSm.getD (eD E k).1 0) = 2 by rw [z]; decide, if_neg (by decide), if_pos rfl]
    refine yes (R := fun _ => True) (g' := (inlG 40 g).2) (by unfold dO; rw [if_neg (by omega), if_pos z]) ?_
    refine tr_mono (t_inlineAll hG0 w) ?_
    rintro x K ⟨-, gc, -, f⟩
    exact ⟨h.op (f.mono fo_u) gc (g1_fm g1 f (fun k i s z q => by unfold FG at z; unfold FGU FG at q; omega)) (h.2.2.1.fgu f), f.mono fo_u⟩
  · obtain ⟨f, f1, f2, f3, f4, f5⟩ := v3 (Or.inl z)
    have hm2 := f5 z
    have ha := f4 0 (by omega)
    have hbb := f4 1 (by omega)
    rw [show w32 (wSm.getD (eD E k).1 0) = 3 by rw [z]; decide, if_neg (by decide), if_neg (by decide), if_pos rfl]
    rw [show (0 : Int) = ((0 : Nat) : Int) from rfl, c_scrLet (bs := bs) hS hE hk hBs hb (Or.inl z) f1 (j := 0) (by omega), bnd_some, show (1 : Int) = ((1 : Nat) : Int) from rfl, c_scrLet (bs := bs) hS hE hk hBs hb (Or.inl z) f1 (j := 1) (by omega), bnd_some]
    rw [Nat.add_zero] at ha ⊢
    have ed : dO bs (eD E k) g = (mkS g (bs.getD f 0 - 97) (bs.getD (f + 1) 0 - 97), decide (0 ≤ mkC g (bs.getD f 0 - 97) (bs.getD (f + 1) 0 - 97))) := by
      unfold dO
      rw [if_neg (by omega), if_neg (by omega), if_pos z, f1, Int.toNat_natCast]
    refine guard ?_
    rw [ed]
    unfold f_PR_doMake
    have mr := mkC_rng (g := g) (a := bs.getD f 0 - 97) (b := bs.getD (f + 1) 0 - 97)
    refine tr_call (t_refusal h w (a := bs.getD f 0 - 97) (b := bs.getD (f + 1) 0 - 97) (by omega) (by omega)) ?_
    rintro x K ⟨y | y, sc, ff⟩
    · rw [y.2, w32_of (x := mkC g (bs.getD f 0 - 97) (bs.getD (f + 1) 0 - 97)) (by omega) (by omega), if_pos y.1]
      refine tr_ret ⟨?_, ?_, ff⟩
      · rw [bI_neg (by simpa using y.1)]
      · show SC K (mkS g (bs.getD f 0 - 97) (bs.getD (f + 1) 0 - 97), ps, kp, bs, rp)
        rw [show mkS g (bs.getD f 0 - 97) (bs.getD (f + 1) 0 - 97) = g from if_pos y.1]
        exact sc
    · rw [y.2, if_neg (by decide)]
      refine tr_call (t_gjoin sc.1 (fun i hi => w.sy hi) (a := bs.getD f 0 - 97) (b := bs.getD (f + 1) 0 - 97) (by omega) (by omega)) ?_
      rintro x L ⟨-, gc, f2⟩
      refine tr_ret ⟨?_, ?_, ff.trans (f2.mono fo_g)⟩
      · rw [bI_pos (by simpa using y.1)]
      · show SC L (mkS g (bs.getD f 0 - 97) (bs.getD (f + 1) 0 - 97), ps, kp, bs, rp)
        rw [show mkS g (bs.getD f 0 - 97) (bs.getD (f + 1) 0 - 97) = gJoin g (bs.getD f 0 - 97) (bs.getD (f + 1) 0 - 97) from if_neg (by omega)]
        exact sc.op (f2.mono fo_g) gc (g1_fm (sc.2.1 1 (by decide)) f2 (fun k i s z q => by unfold FG at z q; omega)) (pt_g sc.2.2.1 f2)
  · have v5 := v4 (by omega) (by omega) (by omega) h13
    rw [z] at v5
    have hh : wHig 9 = 39 := rfl
    have hw : wLow 9 = 0 := rfl
    rw [show w32 (wSm.getD (eD E k).1 0) = 4 by rw [z]; decide, if_neg (by decide), if_neg (by decide), if_neg (by decide), if_pos rfl]
    refine guard ?_
    have ed : dO bs (eD E k) g = if gR g ((eD E k).2.1.toNat + 1) = [] then (g, false) else (gDis g (eD E k).2.1.toNat 4, true) := by
      unfold dO
      rw [if_neg (by omega), if_neg (by omega), if_neg (by omega), if_pos z]
    rw [ed, hnum (by omega) (by omega) (by omega) (by omega), show (eD E k).2.1 = (((eD E k).2.1.toNat : Nat) : Int) by omega, Int.toNat_natCast]
    unfold f_PR_doExpand
    rw [g_hasRule hG0 (by omega), bnd_some]
    by_cases q : gR g ((eD E k).2.1.toNat + 1) = []
    · rw [if_pos (wb_neg (fun y => y q)), if_pos q]
      exact tr_ret ⟨rfl, h, Fm.refl _ _⟩
    · rw [if_neg (wb_pos q), if_neg q, show (4 : Int) = ((4 : Nat) : Int) from rfl]
      refine tr_call (t_dissolve hG0 w (by omega) q (c := 4) (by decide)) ?_
      rintro x K ⟨-, gc, f⟩
      exact tr_ret ⟨rfl, h.op (f.mono fo_g) gc (g1_fm g1 f (fun k i s z q => by unfold FG at z q; omega)) (pt_g h.2.2.1 f), f.mono fo_g⟩
  · obtain ⟨f, f1, f2, f3, f4, f5⟩ := v3 (Or.inr z)
    rw [show w32 (wSm.getD (eD E k).1 0) = 5 by rw [z]; decide, if_neg (by decide), if_neg (by decide), if_neg (by decide), if_neg (by decide), if_pos rfl]
    refine guard ?_
    have ed : dO bs (eD E k) g = apL (letL ((bs.drop (f + 0)).take (eD E k).2.2)) g := by
      unfold dO
      rw [if_neg (by omega), if_neg (by omega), if_neg (by omega), if_neg (by omega), if_pos z, f1, Int.toNat_natCast, Nat.add_zero]
    rw [ed]
    unfold f_PR_doAppend
    exact t_doAppend hE hk z f1 f2 hb f4 (eD E k).2.2 0 g I (Nat.zero_add _) h w hS
  · have v5 := v4 (by omega) (by omega) (by omega) h13
    rw [z] at v5
    have hh : wHig 11 = 400 := rfl
    have hw : wLow 11 = 1 := rfl
    rw [show w32 (wSm.getD (eD E k).1 0) = 6 by rw [z]; decide, if_neg (by decide), if_neg (by decide), if_neg (by decide), if_neg (by decide), if_neg (by decide), if_pos rfl]
    refine guard ?_
    have ed : dO bs (eD E k) g = if (eD E k).2.1.toNat < (gT g).length then (gCut g (eD E k).2.1.toNat, true) else (g, false) := by
      unfold dO
      rw [if_neg (by omega), if_neg (by omega), if_neg (by omega), if_neg (by omega), if_neg (by omega), if_pos z]
    rw [ed, hnum (by omega) (by omega) (by omega) (by omega), show (eD E k).2.1 = (((eD E k).2.1.toNat : Nat) : Int) by omega, Int.toNat_natCast]
    unfold f_PR_doCut
    rw [g_textLength hG0 (fun i hi => w.sy hi), bnd_some, hT, w32_of (x := ((gT g).length : Int)) (by omega) (by omega), w32_of (x := (((eD E k).2.1.toNat : Nat) : Int)) (by omega) (by omega)]
    by_cases q : (eD E k).2.1.toNat < (gT g).length
    · rw [if_pos (by omega), if_pos q]
      refine tr_call (t_dropLetters hG0 w (by omega) q) ?_
      rintro _ K ⟨gc, f⟩
      exact tr_ret ⟨rfl, h.op (f.mono fo_g) gc (g1_fm g1 f (fun k i s z q => by unfold FG at z q; omega)) (pt_g h.2.2.1 f), f.mono fo_g⟩
    · rw [if_neg (by omega), if_neg q]
      exact tr_ret ⟨rfl, h, Fm.refl _ _⟩
end ORD
