/-! ===== the reference: steps, and what changes it at once ===== -/
abbrev FMS : FP := fun k i s => FW k i s ∨ FBP k i s
abbrev FWT : FP := fun k i s => k = 27 ∧ i = 0 ∧ (s = 3 ∨ 16460 ≤ s)
theorem GW.told {I J : Mem} {g : GS} {l : List Int} (h : GW I g) (hl : l.length ≤ 400) (h1 : J 27 0 3 = (l.length : Int)) (h2 : ∀ j : Nat, j < l.length → J 27 0 (16460 + j) = l.getD j (-1)) (f : Fm FWT I J) : GW J (gsT g l) := by
  obtain ⟨k1, k2, k3, k4, k5, k6, k7, k8, k9⟩ := h
  have e : ∀ s : Nat, s ≠ 3 → ¬ 16460 ≤ s → J 27 0 s = I 27 0 s := fun s h1 h2 => f.at (by decide) (fun z => by unfold FWT at z; omega)
  refine ⟨fun i hi => ?_, h1, hl, h2, fun j hj => by rw [e _ (by omega) (by omega)]; exact k5 j hj, by rw [e _ (by omega) (by omega)]; exact k6, by rw [e _ (by omega) (by omega)]; exact k7, by rw [e _ (by omega) (by omega)]; exact k8, by rw [e _ (by omega) (by omega)]; exact k9⟩
  obtain ⟨a1, a2, a3⟩ := k1 i hi
  exact ⟨by rw [e _ (by omega) (by omega)]; exact a1, a2, fun j hj => by
    have hj' : j < (gR g i).length := hj
    rw [e _ (by omega) (by omega)]; exact a3 j hj⟩
abbrev symOK (g : GS) (x : Int) : Prop := 26 ≤ x → gR g ((x - 26).toNat + 1) ≠ []
noncomputable def mkC (g : GS) (a b : Int) : Int := @ite _ (symOK g a ∧ symOK g b) (Classical.propDecidable _) (if cz g (66 * a + b).toNat zE = 0 then -2 else if gRule g a b = -1 then -3 else gRule g a b) (-7)
noncomputable def mkS (g : GS) (a b : Int) : GS := if mkC g a b < 0 then g else gJoin g a b
section MST
variable {I : Mem} {g : GS}
theorem t_msteps (h : GW I g) (w : WF g) : Tr (f_M_steps I) (fun x J => (bestP g = -1 ∧ x = 0 ∧ GW J g ∨ bestP g ≠ -1 ∧ x = 1 ∧ GW J (stG g)) ∧ Fm FMS I J) := by
  unfold f_M_steps
  refine tr_call (t_bestPair h w) ?_
  rintro x J1 ⟨rfl, m1, l1, g1, f1⟩
  have F1 : Fm FMS I J1 := f1.mono (fun a b c z => Or.inr z)
  have hb : -1 ≤ bestP g ∧ bestP g < 4356 := by
    rcases bestP_cases g with z | ⟨b, hb, e⟩
    · omega
    · have := hb.1; omega
  rw [w32_of (x := bestP g) (by omega) (by omega)]
  by_cases qb : bestP g = -1
  · rw [if_pos qb]
    exact tr_ret ⟨Or.inl ⟨qb, rfl, g1⟩, F1⟩
  · obtain ⟨p, e, h4, hp, ea, eb, hpl, hc, hkk, ra, rb, hr⟩ := best_ok w qb
    have hk13 : J1 27 13 p = gKept g ((p / 66 : Nat) : Int) ((p % 66 : Nat) : Int) := (m1 p h4).2.1
    rw [ea, eb] at hr
    rw [if_neg qb, e]
    refine tr_call (t_mmakes g1 (fun i hi => w.sy hi) h4 hk13 hr) ?_
    rintro x J2 ⟨rfl, g2, f2⟩
    refine tr_call (t_mcounts g2 (a := 0) (by decide) 1) ?_
    rintro _ J3 ⟨g3, f3⟩
    have F3 : Fm FMS I J3 := F1.trans ((f2.trans f3).mono (fun a b c z => Or.inl z))
    have g3 : GW J3 (gSt g) := by
      show GW J3 (gsA (gJoin g (bA g) (bB g)) 0 (gA (gJoin g (bA g) (bB g)) 0 + 1))
      rw [ea, eb]; exact g3
    obtain ⟨w1, w2⟩ := w.st qb
    have hn2 : gN (gSt g) 2 = gN g 2 := by show gN (gJoin g (bA g) (bB g)) 2 = _; rw [gN_join]
    have h22 : J3 27 0 2 = gN g 2 := by rw [← hn2]; exact g3.2.2.2.2.2.2.2.1
    have hnr := w.2.2.2.2.2.2.2
    have hrr : 0 ≤ gRule g ((p / 66 : Nat) : Int) ((p % 66 : Nat) : Int) ∧ gRule g ((p / 66 : Nat) : Int) ((p % 66 : Nat) : Int) < 40 := by
      rcases gRule_rng g ((p / 66 : Nat) : Int) ((p % 66 : Nat) : Int) with z | ⟨r, z1, z2⟩
      · exact absurd z hr
      · omega
    rw [h22, w32_of (x := gN g 2) (by omega) (by omega)]
    have fin : ∀ (n : Int) (K : Mem), 0 ≤ n ∧ n ≤ 1000 → GW K (stG g) → Fm FMS I K → Tr (f_M_steps_j42 (gRule g ((p / 66 : Nat) : Int) ((p % 66 : Nat) : Int)) n K) (fun x J => (bestP g = -1 ∧ x = 0 ∧ GW J g ∨ bestP g ≠ -1 ∧ x = 1 ∧ GW J (stG g)) ∧ Fm FMS I J) := by
      intro n K hn hK fK
      unfold f_M_steps_j42
      rw [w32_of (x := gRule g _ _) (by omega) (by omega), w32_of (x := n) (by omega) (by omega), if_neg (by omega), if_neg (by omega)]
      exact tr_ret ⟨Or.inr ⟨qb, rfl, hK⟩, fK⟩
    rw [e] at fin
    by_cases qi : gN g 2 = 1
    · have es : stG g = (inlG 40 (gSt g)).2 := by unfold stG; rw [if_pos qi]
      rw [if_pos qi]
      refine tr_call (t_minlines g3 w1) ?_
      rintro x J4 ⟨rfl, g4, f4⟩
      have hc40 : ∀ (n : Nat) (g : GS), (inlG n g).1 ≤ n := by
        intro n
        induction n with
        | zero => intro g; exact Nat.le_refl _
        | succ n ih =>
          intro g
          by_cases q : gLonely g = -1
          · rw [inlG_none q]; exact Nat.zero_le _
          · rw [inlG_some q]; have := ih (gDis g (gLonely g).toNat (if 0 < gUses g (gLonely g).toNat then 2 else 3)); show _ + 1 ≤ n + 1; omega
      have := hc40 40 (gSt g)
      exact fin ((inlG 40 (gSt g)).1 : Int) J4 ⟨by omega, by omega⟩ (by rw [es]; exact g4) (F3.trans (f4.mono (fun a b c z => Or.inl z)))
    · have es : stG g = gSt g := by unfold stG; rw [if_neg qi]
      rw [if_neg qi]
      exact fin 0 J3 ⟨by omega, by omega⟩ (by rw [es]; exact g3) F3
theorem t_mstepsMany (h : GW I g) (w : WF g) {most : Nat} (hm : most < 100000000) : Tr (f_M_stepsMany (most : Int) I) (fun x J => x = ((stepsG most g).1 : Int) ∧ GW J (stepsG most g).2 ∧ Fm FMS I J) := by
  unfold f_M_stepsMany
  refine tr_call (P := fun x J => x = ((stepsG most g).1 : Int) ∧ GW J (stepsG most g).2 ∧ Fm FMS I J) (tr_whl (fun n s J => ∃ (k : Nat) (g' : GS), n = most - k ∧ k ≤ most ∧ s = (k : Int) ∧ GW J g' ∧ WF g' ∧ (stepsG most g).1 = k + (stepsG (most - k) g').1 ∧ (stepsG most g).2 = (stepsG (most - k) g').2 ∧ Fm FMS I J) ?_ most _ _ ⟨0, g, rfl, Nat.zero_le _, rfl, h, w, by rw [Nat.zero_add]; rfl, rfl, Fm.refl _ _⟩) (fun _ _ q => tr_ret q)
  rintro n s J ⟨k, g', rfl, hk, rfl, hG, hW, e1, e2, hF⟩
  unfold f_M_stepsMany_w2
  rw [w32_of (x := (k : Int)) (by omega) (by omega), w32_of (x := (most : Int)) (by omega) (by omega)]
  by_cases q : k < most
  · rw [if_pos (by omega)]
    refine tr_call (t_msteps hG hW) ?_
    rintro x K ⟨hx, fK⟩
    rcases hx with ⟨qb, rfl, gK⟩ | ⟨qb, rfl, gK⟩
    · rw [if_pos (by decide)]
      rw [stepsG_none qb] at e1 e2
      have e2 : (stepsG most g).2 = g' := e2
      refine tr_ret ?_
      show (k : Int) = _ ∧ GW K (stepsG most g).2 ∧ _
      rw [e1, e2]
      exact ⟨by omega, gK, hF.trans fK⟩
    · have e3 : stepsG (most - k) g' = ((stepsG (most - (k + 1)) (stG g')).1 + 1, (stepsG (most - (k + 1)) (stG g')).2) := by
        rw [show most - k = (most - (k + 1)) + 1 by omega, stepsG_some qb]
      rw [e3] at e1 e2
      rw [if_neg (by decide)]
      exact tr_ret ⟨most - (k + 1), by omega, k + 1, stG g', rfl, by omega, rfl, gK, (hW.stp qb).1, by rw [e1]; omega, e2, hF.trans fK⟩
  · rw [if_neg (by omega)]
    have hk : k = most := by omega
    subst hk
    rw [Nat.sub_self] at e1 e2
    have e1 : (stepsG k g).1 = k := e1
    have e2 : (stepsG k g).2 = g' := e2
    refine tr_ret ?_
    show (k : Int) = _ ∧ GW J (stepsG k g).2 ∧ _
    rw [e1, e2]
    exact ⟨rfl, hG, hF⟩
/-- steps until there is no best pair -/
theorem t_mstepsAll (h : GW I g) (w : WF g) {m : Nat} (hm : mu g ≤ m) : Tr (whl f_M_stepsLeft_w11 0 I) (fun x J => x = ((stepsG m g).1 : Int) ∧ GW J (stepsG m g).2 ∧ Fm FMS I J) := by
  refine tr_whl (fun n s J => ∃ (k : Nat) (g' : GS), mu g' ≤ n ∧ s = (k : Int) ∧ GW J g' ∧ WF g' ∧ (stepsG m g).1 = k + (stepsG n g').1 ∧ (stepsG m g).2 = (stepsG n g').2 ∧ Fm FMS I J) ?_ m _ _ ⟨0, g, hm, rfl, h, w, by rw [Nat.zero_add], rfl, Fm.refl _ _⟩
  rintro n s J ⟨k, g', hn, rfl, hG, hW, e1, e2, hF⟩
  unfold f_M_stepsLeft_w11
  refine tr_call (t_msteps hG hW) ?_
  rintro x K ⟨hx, fK⟩
  rcases hx with ⟨qb, rfl, gK⟩ | ⟨qb, rfl, gK⟩
  · rw [if_pos (by decide)]
    rw [stepsG_none qb] at e1 e2
    have e2 : (stepsG m g).2 = g' := e2
    refine tr_ret ?_
    show (k : Int) = _ ∧ GW K (stepsG m g).2 ∧ _
    rw [e1, e2]
    exact ⟨by omega, gK, hF.trans fK⟩
  · have h1 := (hW.stp qb).2
    have h2 := mu_nn (stG g')
    obtain ⟨n, rfl⟩ : ∃ j : Nat, n = j + 1 := ⟨n - 1, by omega⟩
    rw [stepsG_some qb] at e1 e2
    rw [if_neg (by decide)]
    exact tr_ret ⟨n, by omega, k + 1, stG g', by omega, rfl, gK, (hW.stp qb).1, by rw [e1]; omega, e2, hF.trans fK⟩
theorem t_mstepsEnd (h : GW I g) (w : WF g) {m : Nat} (hm : mu g ≤ m) : Tr (whl f_M_sizeWith_w13 1 I) (fun _ J => GW J (stepsG m g).2 ∧ Fm FMS I J) := by
  refine tr_whl (fun n s J => ∃ (g' : GS) (n' : Nat), (s = 1 ∧ n = n' + 1 ∨ s = 0 ∧ n = n' ∧ bestP g' = -1) ∧ mu g' ≤ n' ∧ GW J g' ∧ WF g' ∧ (stepsG m g).2 = (stepsG n' g').2 ∧ Fm FMS I J) ?_ (m + 1) _ _ ⟨g, m, Or.inl ⟨rfl, rfl⟩, hm, h, w, rfl, Fm.refl _ _⟩
  rintro n s J ⟨g', n', hs, hn, hG, hW, e2, hF⟩
  unfold f_M_sizeWith_w13
  rcases hs with ⟨rfl, rfl⟩ | ⟨rfl, rfl, qb⟩
  · rw [if_neg (by decide)]
    refine tr_call (t_msteps hG hW) ?_
    rintro x K ⟨hx, fK⟩
    rcases hx with ⟨qb, rfl, gK⟩ | ⟨qb, rfl, gK⟩
    · exact tr_ret ⟨n', by omega, g', n', Or.inr ⟨rfl, rfl, qb⟩, hn, gK, hW, e2, hF.trans fK⟩
    · have h1 := (hW.stp qb).2
      have h2 := mu_nn (stG g')
      obtain ⟨n, rfl⟩ : ∃ j : Nat, n' = j + 1 := ⟨n' - 1, by omega⟩
      rw [stepsG_some qb] at e2
      exact tr_ret ⟨n + 1, by omega, stG g', n, Or.inl ⟨rfl, rfl⟩, by omega, gK, (hW.stp qb).1, e2, hF.trans fK⟩
  · rw [if_pos (by decide)]
    rw [stepsG_none qb] at e2
    have e2 : (stepsG m g).2 = g' := e2
    refine tr_ret ⟨?_, hF⟩
    rw [e2]; exact hG
/-- letters are cut off -/
theorem t_mcutNow (h : GW I g) (w : WF g) {m : Nat} (h1 : 1 ≤ m) (hm : m < (gT g).length) : Tr (f_M_cutNow (m : Int) I) (fun x J => x = ((gR (gCut g m) 0).length : Int) ∧ GW J (gCut g m) ∧ Fm FMS I J) := by
  have hT := w.2.2.1
  have hT4 := w.2.2.2.2.1
  have hle := w.lle (i := 0) (by omega)
  have h3 : I 27 0 3 = ((gT g).length : Int) := h.2.1
  unfold f_M_cutNow
  rw [h3, w32_of (x := (m : Int)) (by omega) (by omega), w32_of (x := ((gT g).length : Int)) (by omega) (by omega), if_pos (by omega)]
  refine tr_call (t_laysLengths h w) ?_
  rintro _ J1 ⟨l1, g1, f1⟩
  have F1 : Fm FMS I J1 := f1.mono (fun a b c z => Or.inr (Or.inr z))
  refine tr_call (P := fun _ J => GW J (gsA (gsR g 0 (cutR g m).1) 8 (gA g 8 + (cutR g m).2)) ∧ Fm FMS I J) (tr_whl (fun n s J => ∃ (l : List Int) (o d : Int), s = d ∧ 2 * ll (gL g) l - l.length ≤ n ∧ 0 ≤ d ∧ d < ll (gL g) l ∧ ll (gL g) l ≤ 400 ∧ (∀ x ∈ l, SYr (gR g) x) ∧ cutF (gR g) (gL g) n d l o = cutR g m ∧ GW J (gsA (gsR g 0 l) 8 (gA g 8 + o)) ∧ (∀ s : Nat, J 27 5 s = J1 27 5 s) ∧ Fm FMS I J) ?_ (2 * ll (gL g) (gR g 0)).toNat _ _ ⟨gR g 0, 0, m, rfl, by omega, by omega, by omega, hle.2, w.1 0 (by omega), rfl, g1.congr (fun i _ => ?_) rfl (fun i _ => ?_) (fun _ _ => rfl), fun _ => rfl, F1⟩) ?_
  · rintro n s J ⟨l, o, d, rfl, hn, h0, hd, h4, hs, hc, hG, hL5, hF⟩
    have hrw := hG.1 0 (by omega)
    have hll2 : l.length ≤ 400 := hrw.2.1
    unfold f_M_cutNow_w19
    rw [w32_of (x := s) (by omega) (by omega)]
    by_cases q : s ≤ 0
    · rw [if_neg (by omega)]
      rw [cutF_0 q] at hc
      refine tr_ret ⟨?_, hF⟩
      rw [← hc]
      exact hG
    · have hne : l ≠ [] := by
        rintro rfl
        rw [ll_nil] at hd
        omega
      have hge := ll_ge (L := gL g) (l := l) (fun x hx => (w.sl1 (hs x hx)).1)
      have hpos := List.length_pos_iff.mpr hne
      obtain ⟨n, rfl⟩ : ∃ k : Nat, n = k + 1 := ⟨n - 1, by omega⟩
      obtain ⟨x, ex, hx, -, e1, e2, e3⟩ := cut_move w hne hs
      have hsx := w.sl1 hx
      have hx0 := hx.1
      have hx6 := hx.2.1
      have emany : f_M_many 0 J = some ((l.length : Int), J) := m_many hG (i := 0) (by omega)
      have eat : f_M_at 0 ((l.length : Int) - 1) J = some (x, J) := by
        have := m_at hG (i := 0) (j := l.length - 1) (by omega) (by show l.length - 1 < l.length; omega)
        rw [show ((l.length - 1 : Nat) : Int) = (l.length : Int) - 1 by omega] at this
        rw [show ((0 : Nat) : Int) = 0 from rfl] at this
        rw [this, ex]; rfl
      have e5 : J 27 5 x.toNat = sl (gL g) x := by rw [hL5]; exact (l1.sym hx).1
      rw [cutF, if_neg q, ← ex] at hc
      rw [if_pos (by omega), emany, bnd_some, eat, bnd_some, w32_of (x := x) (by omega) (by omega), if_pos (by omega), e5, w32_of (x := sl (gL g) x) (by omega) (by omega)]
      by_cases q2 : sl (gL g) x ≤ s
      · rw [if_neg (by omega)]
        rw [if_pos q2] at hc
        have f := fwr_m (I := J) (i := 0) (v := J 27 0 16 - 1)
        have h16 : J 27 0 16 = (l.length : Int) := hrw.1
        have hrow := hG.row (i := 0) (l := l.take (l.length - 1)) (by omega) (by omega) (by rw [sI_self, h16]; omega) (fun j hj => by
          rw [sI_ne (by omega), hrw.2.2 j (by show j < l.length; omega), getD_take (by omega)]; rfl) f
        refine tr_ret ⟨n, by omega, l.take (l.length - 1), o, s - sl (gL g) x, rfl, by omega, by omega, by omega, by omega, e2, hc, hrow.congr (fun i _ => ?_) rfl (fun _ _ => rfl) (fun _ _ => rfl), fun q => by rw [sI_ne (by omega)]; exact hL5 q, hF.trans (f.mono (fun a b c z => Or.inl (FWR_FW a b c z)))⟩
        show up (gR g) 0 (l.take (l.length - 1)) i = up (up (gR g) 0 l) 0 (l.take (l.length - 1)) i
        by_cases e : i = 0
        · subst e; rw [up_self, up_self]
        · rw [up_ne e, up_ne e, up_ne e]
      · obtain ⟨b1, b2, b3, b4, b5, b6, -⟩ := cut_body w hx (by omega)
        rw [if_neg q2] at hc
        rw [if_pos (by omega)]
        have hbe : gR (gsA (gsR g 0 l) 8 (gA g 8 + o)) ((x - 26).toNat + 1) = gR g ((x - 26).toNat + 1) := by
          show up (gR g) 0 l ((x - 26).toNat + 1) = _
          rw [up_ne (by omega)]
        have hre : gR (gsA (gsR g 0 l) 8 (gA g 8 + o)) 0 = l := by show up (gR g) 0 l 0 = l; rw [up_self]
        have hbl := ll_ge (L := gL g) (l := gR g ((x - 26).toNat + 1)) (fun y hy => (w.sl1 (b5 y hy)).1)
        have htl := ll_ge (L := gL g) (l := l.take (l.length - 1)) (fun y hy => (w.sl1 (e2 y hy)).1)
        have top := t_mopens hG (i := 0) (r := (x - 26).toNat) (p := l.length - 1) (by omega) (by omega) (by omega) (by rw [hre]; omega) (by rw [hbe]; omega) (by rw [hre, hbe]; omega)
        rw [show ((l.length - 1 : Nat) : Int) = (l.length : Int) - 1 by omega, show (((x - 26).toNat : Nat) : Int) = x - 26 by omega, hre, hbe] at top
        refine tr_call top ?_
        rintro _ J2 ⟨g2, f2⟩
        refine tr_call (t_mcounts g2 (a := 8) (by decide) 1) ?_
        rintro _ J3 ⟨g3, f3⟩
        have hdr : l.drop (l.length - 1 + 1) = [] := List.drop_eq_nil_of_le (by omega)
        refine tr_ret ⟨n, by omega, l.take (l.length - 1) ++ gR g ((x - 26).toNat + 1), o + 1, s, rfl, by rw [ll_app, b4, List.length_append]; omega, h0, by rw [ll_app, b4]; omega, by rw [ll_app, b4]; omega, fun y hy => ?_, hc, g3.congr (fun i _ => ?_) rfl (fun i _ => ?_) (fun _ _ => rfl), fun q => by rw [f3.at (by decide) (by unfold FW; omega), f2.at (by decide) (by unfold FWR; omega)]; exact hL5 q, (hF.trans (f2.mono (fun a b c z => Or.inl (FWR_FW a b c z)))).trans (f3.mono (fun a b c z => Or.inl z))⟩
        · rcases List.mem_append.mp hy with z | z
          · exact e2 y z
          · exact b5 y z
        · show up (gR g) 0 _ i = up (up (gR g) 0 l) 0 (l.take (l.length - 1) ++ gR g ((x - 26).toNat + 1) ++ l.drop (l.length - 1 + 1)) i
          rw [hdr, List.append_nil]
          by_cases e : i = 0
          · subst e; rw [up_self, up_self]
          · rw [up_ne e, up_ne e, up_ne e]
        · show up (gA g) 8 (gA g 8 + (o + 1)) i = up (up (gA g) 8 (gA g 8 + o)) 8 (up (gA g) 8 (gA g 8 + o) 8 + 1) i
          by_cases e : i = 8
          · subst e; rw [up_self, up_self, up_self]; omega
          · rw [up_ne e, up_ne e, up_ne e]
  · show up (gR g) 0 (gR g 0) i = gR g i
    by_cases e : i = 0
    · subst e; rw [up_self]
    · rw [up_ne e]
  · show up (gA g) 8 (gA g 8 + 0) i = gA g i
    by_cases e : i = 8
    · subst e; rw [up_self, Int.add_zero]
    · rw [up_ne e]
  rintro _ J2 ⟨g2, f2⟩
  have h32 : J2 27 0 3 = ((gT g).length : Int) := g2.2.1
  have ft : Fm FWT J2 (sI J2 27 0 3 (J2 27 0 3 - (m : Int))) := Fm.sI (by decide) (by omega) (by omega) ⟨rfl, rfl, Or.inl rfl⟩
  have g3 := g2.told (l := (gT g).take ((gT g).length - m)) (by rw [List.length_take]; omega) (by rw [sI_self, h32, List.length_take]; omega) (fun j hj => by
    rw [List.length_take] at hj
    rw [sI_ne (by omega), getD_take (by omega)]
    exact g2.2.2.2.1 j (by show j < (gT g).length; omega)) ft
  refine tr_call (t_mcounts g3 (a := 7) (by decide) m) ?_
  rintro _ J4 ⟨g4, f4⟩
  have g4 : GW J4 (gCut g m) := g4
  have e := m_many g4 (i := 0) (by omega)
  rw [show ((0 : Nat) : Int) = 0 from rfl] at e
  rw [e, bnd_some]
  exact tr_ret ⟨rfl, g4, (f2.trans (ft.mono (fun a b c z => Or.inl ⟨z.1, z.2.1⟩))).trans (f4.mono (fun a b c z => Or.inl z))⟩
theorem t_mappendNow (h : GW I g) (hl : (gR g 0).length < 400) (ht : (gT g).length < 400) (x : Int) : Tr (f_M_appendNow x I) (fun y J => y = ((gT g).length : Int) + 1 ∧ GW J (gAppend g x) ∧ Fm FW I J) := by
  have h3 : I 27 0 3 = ((gT g).length : Int) := h.2.1
  unfold f_M_appendNow
  rw [h3, w32_of (x := ((gT g).length : Int)) (by omega) (by omega), if_neg (by omega), show (0 : Int) = ((0 : Nat) : Int) from rfl]
  refine tr_call (t_madds h (by omega) hl x) ?_
  rintro _ J1 ⟨g1, f1⟩
  have h31 : J1 27 0 3 = ((gT g).length : Int) := g1.2.1
  rw [h31, w32_of (by omega) (by omega), if_pos (by omega), show ((16460 : Int) + ((gT g).length : Int)).toNat = 16460 + (gT g).length by omega]
  show Tr (bnd (f_M_counts 6 1 (sI (sI J1 27 0 (16460 + (gT g).length) x) 27 0 3 (sI J1 27 0 (16460 + (gT g).length) x 27 0 3 + 1))) (fun _ J12 => some (J12 27 0 3, J12))) _
  have ft : Fm FWT J1 (sI (sI J1 27 0 (16460 + (gT g).length) x) 27 0 3 (sI J1 27 0 (16460 + (gT g).length) x 27 0 3 + 1)) := (Fm.sI (by decide) (by omega) (by omega) ⟨rfl, rfl, Or.inr (by omega)⟩).trans (Fm.sI (by decide) (by omega) (by omega) ⟨rfl, rfl, Or.inl rfl⟩)
  have g2 := g1.told (l := gT g ++ [x]) (by rw [List.length_append, List.length_singleton]; omega) (by rw [sI_self, sI_ne (by omega), h31, List.length_append]; rfl) (fun j hj => by
    rw [List.length_append, List.length_singleton] at hj
    rw [sI_ne (by omega)]
    by_cases e : j = (gT g).length
    · subst e; rw [sI_self, getD_r (Nat.le_refl _), Nat.sub_self]; rfl
    · rw [sI_ne (by omega), getD_l (by omega)]
      exact g1.2.2.2.1 j (by show j < (gT g).length; omega)) ft
  refine tr_call (t_mcounts g2 (a := 6) (by decide) 1) ?_
  rintro _ J3 ⟨g3, f3⟩
  have h33 : J3 27 0 3 = ((gT g ++ [x]).length : Int) := g3.2.1
  refine tr_ret ⟨by rw [h33, List.length_append]; rfl, g3, ((f1.mono FWR_FW).trans (ft.mono (fun a b c z => ⟨z.1, z.2.1⟩))).trans f3⟩
theorem mkC_neg {a b : Int} (h : ¬ (symOK g a ∧ symOK g b)) : mkC g a b = -7 := by unfold mkC; rw [if_neg h]
theorem mkC_pos {a b : Int} (h : symOK g a ∧ symOK g b) : mkC g a b = if cz g (66 * a + b).toNat zE = 0 then -2 else if gRule g a b = -1 then -3 else gRule g a b := by unfold mkC; rw [if_pos h]
theorem WF.mkS (w : WF g) {a b : Int} (ha : 0 ≤ a ∧ a < 66) (hb : 0 ≤ b ∧ b < 66) : WF (mkS g a b) := by
  show WF (if mkC g a b < 0 then g else gJoin g a b)
  by_cases q : mkC g a b < 0
  · rw [if_pos q]; exact w
  · rw [if_neg q]
    refine w.join ?_
    by_cases s : symOK g a ∧ symOK g b
    · rw [mkC_pos s] at q
      have hp4 : (66 * a + b).toNat < 4356 := by omega
      have e := cz_places (fun i hi => w.sy hi) w.len400 hp4
      rw [show (((66 * a + b).toNat / 66 : Nat) : Int) = a by omega, show (((66 * a + b).toNat % 66 : Nat) : Int) = b by omega] at e
      rw [← e]
      intro z
      rw [if_pos z] at q
      omega
    · rw [mkC_neg s] at q; omega
theorem t_mmakeNow (h : GW I g) (w : WF g) {a b : Int} (ha : 0 ≤ a ∧ a < 66) (hb : 0 ≤ b ∧ b < 66) : Tr (f_M_makeNow a b I) (fun x J => x = mkC g a b ∧ GW J (mkS g a b) ∧ Fm FMS I J) := by
  obtain ⟨p, hpe⟩ : ∃ p : Nat, (p : Int) = 66 * a + b := ⟨(66 * a + b).toNat, by omega⟩
  have hp4 : p < 4356 := by omega
  have ea : ((p / 66 : Nat) : Int) = a := by omega
  have eb : ((p % 66 : Nat) : Int) = b := by omega
  have hpn : (66 * a + b).toNat = p := by omega
  have hcz := cz_rng g p zE
  have hz := zE_eq
  have hkz := kz_rng g p 40
  unfold f_M_makeNow
  rw [m_isSymbol h ha, bnd_some]
  by_cases sa : symOK g a
  · rw [if_neg (wb_pos sa), m_isSymbol h hb, bnd_some]
    by_cases sb : symOK g b
    · rw [if_neg (wb_pos sb)]
      have hC := mkC_pos (g := g) (a := a) (b := b) ⟨sa, sb⟩
      rw [hpn] at hC
      refine tr_call (t_laysPairs h (fun i hi => w.sy hi)) ?_
      rintro _ J1 ⟨m1, g1, f1⟩
      have F1 : Fm FMS I J1 := f1.mono (fun a b c z => Or.inr (Or.inl z))
      unfold f_M_pair
      rw [bnd_some, ← hpe, w32_of (x := (p : Int)) (by omega) (by omega), if_pos (by omega), Int.toNat_natCast, (m1 p hp4).1, (m1 p hp4).2.1, w32_of (x := cz g p zE) (by omega) (by omega), w32_of (x := kz g p 40) (by omega) (by omega)]
      by_cases qc : cz g p zE = 0
      · rw [if_pos qc] at hC ⊢
        refine tr_ret ⟨hC.symm, ?_, F1⟩
        unfold mkS
        rw [hC, if_pos (by decide)]; exact g1
      · rw [if_neg qc] at hC ⊢
        have hk : kz g p 40 = gKept g a b := by rw [← ea, ← eb]; rfl
        have run : gRule g a b ≠ -1 → ∀ K : Mem, GW K g → K 27 13 p = kz g p 40 → Fm FMS I K → Tr (bnd (f_M_makes (p : Int) K) (fun x J => some (x, J))) (fun x J => x = mkC g a b ∧ GW J (mkS g a b) ∧ Fm FMS I J) := by
          intro hr K gK k13 fK
          rw [if_neg hr] at hC
          refine tr_call (t_mmakes gK (fun i hi => w.sy hi) hp4 (by rw [k13]; rfl) (by rw [ea, eb]; exact hr)) ?_
          rintro x L ⟨rfl, l1, l2⟩
          rw [ea, eb] at l1 ⊢
          have hge : 0 ≤ gRule g a b := by
            rcases gRule_rng g a b with z | ⟨r, z1, z2⟩
            · exact absurd z hr
            · omega
          refine tr_ret ⟨hC.symm, ?_, fK.trans (l2.mono (fun a b c z => Or.inl z))⟩
          unfold mkS
          rw [hC, if_neg (by omega)]; exact l1
        by_cases qk : kz g p 40 = -1
        · rw [if_pos qk, m_freeRule g1, bnd_some]
          have hgr : gRule g a b = gFree g := by unfold gRule; rw [← hk, if_pos qk]
          have hfr := gFree_rng g
          rw [w32_of (x := gFree g) (by omega) (by omega)]
          by_cases qf : gFree g = -1
          · rw [if_pos qf]
            rw [hgr, if_pos qf] at hC
            refine tr_ret ⟨hC.symm, ?_, F1⟩
            unfold mkS
            rw [hC, if_pos (by decide)]; exact g1
          · rw [if_neg qf]
            exact run (by rw [hgr]; exact qf) J1 g1 (m1 p hp4).2.1 F1
        · rw [if_neg qk]
          exact run (by unfold gRule; rw [← hk, if_neg qk]; exact qk) J1 g1 (m1 p hp4).2.1 F1
    · rw [if_pos (wb_neg sb)]
      have hC := mkC_neg (g := g) (a := a) (b := b) (fun z => sb z.2)
      refine tr_ret ⟨hC.symm, ?_, Fm.refl _ _⟩
      unfold mkS
      rw [hC, if_pos (by decide)]; exact h
  · rw [if_pos (wb_neg sa)]
    have hC := mkC_neg (g := g) (a := a) (b := b) (fun z => sa z.1)
    refine tr_ret ⟨hC.symm, ?_, Fm.refl _ _⟩
    unfold mkS
    rw [hC, if_pos (by decide)]; exact h
theorem t_mexpandNow (h : GW I g) (w : WF g) {r : Nat} (hr : r < 40) : Tr (f_M_expandNow (r : Int) I) (fun x J => ((gR g (r + 1) = [] ∧ x = -4 ∧ GW J g) ∨ (gR g (r + 1) ≠ [] ∧ x = gUses g r ∧ GW J (gDis g r 4))) ∧ Fm FW I J) := by
  unfold f_M_expandNow
  rw [m_isHere h hr, bnd_some]
  by_cases e : gR g (r + 1) = []
  · rw [if_pos (wb_neg (fun z => z e))]
    exact tr_ret ⟨Or.inl ⟨e, rfl, h⟩, Fm.refl _ _⟩
  · rw [if_neg (wb_pos e)]
    refine tr_call (t_mcounts h (a := 4) (by decide) 1) ?_
    rintro _ J1 ⟨g1, f1⟩
    refine tr_call (t_unmakes g1 (w.acc _ _) hr e) ?_
    rintro x J2 ⟨rfl, g2, f2⟩
    exact tr_ret ⟨Or.inr ⟨e, rfl, g2⟩, f1.trans f2⟩
theorem t_msetNow (h : GW I g) {j : Nat} (hj : j < 3) (v : Int) : Tr (f_M_setNow (j : Int) v I) (fun x J => x = gN g j ∧ GW J (gsN g j v) ∧ Fm FW I J) := by
  have e : I 27 0 j = gN g j := by
    rcases (show j = 0 ∨ j = 1 ∨ j = 2 by omega) with rfl | rfl | rfl
    · exact h.2.2.2.2.2.1
    · exact h.2.2.2.2.2.2.1
    · exact h.2.2.2.2.2.2.2.1
  unfold f_M_setNow
  rw [w32_of (by omega) (by omega), if_pos (by omega), Int.toNat_natCast, e]
  exact tr_ret ⟨rfl, h.num hj, sIW⟩
end MST
