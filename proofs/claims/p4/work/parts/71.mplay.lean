/-! ===== play: the reference; both together ===== -/
theorem oc_17 : ∀ w : Nat, w < 15 → (oc w = 17 ↔ w = 13) := by decide
section MPLAY
variable {I J : Mem} {g g' : GS} {ps : List GS} {kp : Nat → Option GS} {bs rp : List Int} {E : List EN} {s : SS}
def TLm (J : Mem) : List (Nat × Int) → Prop
  | [] => True
  | x :: t => J 27 19 t.length = (x.1 : Int) ∧ J 27 20 t.length = x.2 ∧ TLm J t
theorem TLm.go {K : Mem} : ∀ {st : List (Nat × Int)}, TLm J st → (∀ d : Nat, d < st.length → K 27 19 d = J 27 19 d ∧ K 27 20 d = J 27 20 d) → TLm K st
  | [], _, _ => trivial
  | x :: t, h, k => by
    obtain ⟨h1, h2, h3⟩ := h
    obtain ⟨k1, k2⟩ := k t.length (Nat.lt_succ_self _)
    exact ⟨k1.trans h1, k2.trans h2, h3.go (fun d hd => k d (Nat.lt_succ_of_lt hd))⟩
theorem SMl.fm {F : FP} (h : SMl I E) (f : Fm F I J) (h8 : ¬ F 26 0 38) (hn : ∀ i s : Nat, 15 ≤ i → i ≤ 18 → ¬ F 27 i s) : SMl J E := by
  obtain ⟨a1, a2, a3⟩ := h
  refine ⟨by rw [f.at (by decide) h8]; exact a1, fun j hj => ?_, fun k hk hw a t e => ?_⟩
  · obtain ⟨b1, b2, b3⟩ := a2 j hj
    refine ⟨by rw [f.at (by decide) (hn _ _ (by decide) (by decide))]; exact b1, fun z1 z2 => ?_, fun z => ?_⟩
    · rw [f.at (by decide) (hn _ _ (by decide) (by decide))]; exact b2 z1 z2
    · rw [f.at (by decide) (hn _ _ (by decide) (by decide))]; exact b3 z
  · rw [f.at (by decide) (hn _ _ (by decide) (by decide))]
    exact a3 k hk hw a t e
abbrev FMy : FP := fun k i s => FMS k i s ∨ (k = 27 ∧ (i = 19 ∨ i = 20))
theorem SMl.my (h : SMl I E) (f : Fm FMy I J) : SMl J E := h.fm f (by unfold FMy FMS FW FBP FMP FL; omega) (fun i s h1 h2 => by unfold FMy FMS FW FBP FMP FL; omega)
theorem BUF.my (h : BUF I bs) (f : Fm FMy I J) : BUF J bs := fun j hj => by rw [f.at (by decide) (by unfold FMy FMS FW FBP FMP FL; omega)]; exact h j hj
theorem TLm.ms {st : List (Nat × Int)} (h : TLm I st) (f : Fm FMS I J) : TLm J st := h.go (fun d _ => ⟨f.at (by decide) (by unfold FMS FW FBP FMP FL; omega), f.at (by decide) (by unfold FMS FW FBP FMP FL; omega)⟩)
theorem t_mplaysL (hF : FIN bs E) (hb : bs.length ≤ 600) (hr : ∀ b ∈ bs, 1 ≤ b ∧ b ≤ 255) : ∀ (n : Nat) (s : MS) (g : GS) (d : Nat) (J : Mem), MOK E s → Mz E s < n → d ≤ 40 → GW J g → WF g → BUF J bs → SMl J E → TLm J s.2 → Tr (whl f_M_plays_w6 ((d : Int), (s.2.length : Int), (s.1 : Int)) J) (fun x K => x = ((pl bs E n s g d).2 : Int) ∧ GW K (pl bs E n s g d).1 ∧ Fm FMy J K) := by
  intro n
  induction n with
  | zero => intro s g d I h h1; have := Mz_nn hF h; omega
  | succ n ih =>
    intro s g d J h h1 hd hG w hBu hS hT
    have h60 := hF.1
    have hk := h.1
    have e0 : pl bs E (n + 1) s g d = if s.1 < E.length ∧ d < 40 then (if ew E s.1 = 12 ∨ ew E s.1 = 13 then pl bs E n (mst E s) g d else (if (dO bs (eD E s.1) g).2 = true then pl bs E n (mst E s) (dO bs (eD E s.1) g).1 (d + 1) else ((dO bs (eD E s.1) g).1, d))) else (g, d) := rfl
    refine tr_step ?_
    unfold f_M_plays_w6
    dsimp only
    rw [hS.1, w32_of (x := (s.1 : Int)) (by omega) (by omega), w32_of (x := (E.length : Int)) (by omega) (by omega), w32_of (x := (d : Int)) (by omega) (by omega)]
    by_cases q : s.1 < E.length
    · rw [if_pos (by omega)]
      by_cases q40 : d < 40
      · rw [if_pos ⟨q, q40⟩] at e0
        have hv := hF.2.2.2.2 s.1 q
        have v1 := hv.1
        have v2 := hv.2.1
        obtain ⟨b1, b2, -⟩ := hS.2.1 s.1 q
        have ocr := oc_rng (eD E s.1).1 (by omega)
        have oc16 := oc_16 (eD E s.1).1 (by omega)
        have oc17 := oc_17 (eD E s.1).1 (by omega)
        have hdc := mst_dec h hF q
        have hok := mst_ok h hF q
        have next : ∀ (K : Mem) (dd kk : Int), ew E s.1 = 12 ∨ ew E s.1 = 13 → dd = ((mst E s).2.length : Int) → kk = ((mst E s).1 : Int) → GW K g → TLm K (mst E s).2 → Fm FMy J K → Tr (whl f_M_plays_w6 ((d : Int), dd, kk) K) (fun x K => x = ((pl bs E (n + 1) s g d).2 : Int) ∧ GW K (pl bs E (n + 1) s g d).1 ∧ Fm FMy J K) := by
          rintro K dd kk hq rfl rfl hG' hT' f
          rw [e0, if_pos hq]
          refine tr_mono (ih (mst E s) g d K hok (by omega) hd hG' w (hBu.my f) (hS.my f) hT') ?_
          rintro y L ⟨z1, z2, z3⟩
          exact ⟨z1, z2, f.trans z3⟩
        rw [if_pos (by omega), if_pos (by omega), Int.toNat_natCast, b1, w32_of (x := oc (eD E s.1).1) (by omega) (by omega)]
        by_cases q12 : ew E s.1 = 12
        · have q12' : (eD E s.1).1 = 12 := q12
          obtain ⟨c1, c2, c3, c4⟩ := cl_spec hF q q12
          obtain ⟨hl1, n1, n2⟩ := h.again hF q q12
          have a16 : J 27 16 s.1 = (eD E s.1).2.1 := b2 (by omega) (by omega)
          have a18 : J 27 18 s.1 = (cl E s.1 : Int) := hS.2.2 _ c4 c1 _ _ c2
          rw [if_pos (oc16.mpr q12'), a16, w32_of (x := (eD E s.1).2.1) (by omega) (by omega)]
          by_cases z : (eD E s.1).2.1 = 0
          · rw [if_pos z, a18]
            refine tr_inl (next J _ _ (Or.inl q12) ?_ ?_ hG ?_ (Fm.refl _ _))
            · rw [mst_12 q12, if_pos z]
            · rw [mst_12 q12, if_pos z]; rfl
            · rw [mst_12 q12, if_pos z]; exact hT
          · rw [if_neg z]
            unfold f_M_plays_j50
            rw [w32_of (x := (s.1 : Int)) (by omega) (by omega), if_pos (by omega), Int.toNat_natCast, b1, w32_of (x := oc (eD E s.1).1) (by omega) (by omega), if_pos (oc16.mpr q12'), w32_of (x := (s.2.length : Int)) (by omega) (by omega), if_pos (by omega), Int.toNat_natCast]
            try dsimp only [ltI]
            have e16 : (sI J 27 19 s.2.length (s.1 : Int)) 27 16 s.1 = (eD E s.1).2.1 := by rw [sI_ne (by omega)]; exact a16
            rw [e16]
            have f1 : Fm (fun k i _ => k = 27 ∧ (i = 19 ∨ i = 20)) J (sI (sI J 27 19 s.2.length (s.1 : Int)) 27 20 s.2.length (eD E s.1).2.1) := (Fm.sI (by decide) (by omega) (by omega) ⟨rfl, Or.inl rfl⟩).trans (Fm.sI (by decide) (by omega) (by omega) ⟨rfl, Or.inr rfl⟩)
            have t1 : (sI (sI J 27 19 s.2.length (s.1 : Int)) 27 20 s.2.length (eD E s.1).2.1) 27 19 s.2.length = (s.1 : Int) := by rw [sI_ne (by omega), sI_self]
            have t2 : (sI (sI J 27 19 s.2.length (s.1 : Int)) 27 20 s.2.length (eD E s.1).2.1) 27 20 s.2.length = (eD E s.1).2.1 := sI_self _ _ _ _ _
            have t3 : TLm (sI (sI J 27 19 s.2.length (s.1 : Int)) 27 20 s.2.length (eD E s.1).2.1) s.2 := hT.go (fun d hd => ⟨by rw [sI_ne (by omega), sI_ne (by omega)], by rw [sI_ne (by omega), sI_ne (by omega)]⟩)
            generalize sI (sI J 27 19 s.2.length (s.1 : Int)) 27 20 s.2.length (eD E s.1).2.1 = K at f1 t1 t2 t3
            refine tr_inl (next K _ _ (Or.inl q12) ?_ ?_ (hG.fm f1 (fun s _ y => by omega)) ?_ (f1.mono (fun a b c y => Or.inr y)))
            · rw [mst_12 q12, if_neg z]; rfl
            · rw [mst_12 q12, if_neg z]; rfl
            · rw [mst_12 q12, if_neg z]; exact ⟨t1, t2, t3⟩
        · have q12' : ¬ (eD E s.1).1 = 12 := q12
          rw [if_neg (fun y => q12' (oc16.mp y))]
          unfold f_M_plays_j50
          rw [w32_of (x := (s.1 : Int)) (by omega) (by omega), if_pos (by omega), Int.toNat_natCast, b1, w32_of (x := oc (eD E s.1).1) (by omega) (by omega), if_neg (fun y => q12' (oc16.mp y))]
          by_cases q13 : ew E s.1 = 13
          · have q13' : (eD E s.1).1 = 13 := q13
            obtain ⟨a, l, t, e1, e2, e3, e4, e5, e6, e7, e8⟩ := h.close hF q q13
            have hl2 := h.len hF
            have hlen : s.2.length = t.length + 1 := by rw [e1]; rfl
            have hT2 : TLm J ((a, l) :: t) := by rw [← e1]; exact hT
            obtain ⟨t1, t2, t3⟩ := hT2
            have t1 : J 27 19 t.length = (a : Int) := t1
            have t2 : J 27 20 t.length = l := t2
            rw [if_pos (oc17.mpr q13'), show ((s.2.length : Int) - 1) = (t.length : Int) by omega, w32_of (x := (t.length : Int)) (by omega) (by omega), if_pos (by omega), Int.toNat_natCast, t2]
            try dsimp only [ltI]
            have f1 : Fm (fun k i _ => k = 27 ∧ (i = 19 ∨ i = 20)) J (sI J 27 20 t.length (l - 1)) := Fm.sI (by decide) (by omega) (by omega) ⟨rfl, Or.inr rfl⟩
            have u1 : (sI J 27 20 t.length (l - 1)) 27 19 t.length = (a : Int) := by rw [sI_ne (by omega)]; exact t1
            have u2 : (sI J 27 20 t.length (l - 1)) 27 20 t.length = l - 1 := sI_self _ _ _ _ _
            have u3 : TLm (sI J 27 20 t.length (l - 1)) t := t3.go (fun d hd => ⟨by rw [sI_ne (by omega)], by rw [sI_ne (by omega)]⟩)
            generalize sI J 27 20 t.length (l - 1) = K at f1 u1 u2 u3
            rw [u2, w32_of (x := l - 1) (by omega) (by omega), u1]
            have hgk : GW K g := hG.fm f1 (fun s _ y => by omega)
            have hfk : Fm FMy J K := f1.mono (fun a b c y => Or.inr y)
            by_cases z : 0 < l - 1
            · rw [if_pos z]
              refine tr_inl (next K _ _ (Or.inr q13) ?_ ?_ hgk ?_ hfk)
              · rw [mst_13 q13 e1, if_pos z, e1]; rfl
              · rw [mst_13 q13 e1, if_pos z]; rfl
              · rw [mst_13 q13 e1, if_pos z]; exact ⟨u1, u2, u3⟩
            · rw [if_neg z]
              refine tr_inl (next K _ _ (Or.inr q13) ?_ ?_ hgk ?_ hfk)
              · rw [mst_13 q13 e1, if_neg z]
                show (s.2.length : Int) + (-1) = (t.length : Int)
                omega
              · rw [mst_13 q13 e1, if_neg z]; rfl
              · rw [mst_13 q13 e1, if_neg z]; exact u3
          · have q13' : ¬ (eD E s.1).1 = 13 := q13
            have hno : ¬ (ew E s.1 = 12 ∨ ew E s.1 = 13) := fun y => y.elim q12 q13
            rw [if_neg hno] at e0
            rw [if_neg (fun y => q13' (oc17.mp y))]
            have w2 := dO_wf (bs := bs) w hv q12' q13'
            refine tr_call (t_does hG w hb hr hBu hS h60 q hv q12' q13') ?_
            rintro x K ⟨x1, x2, gk, f⟩
            have fy : Fm FMy J K := f.mono (fun a b c y => Or.inl y)
            by_cases q3 : (dO bs (eD E s.1) g).2 = true
            · have := x1 q3
              rw [if_pos q3] at e0
              rw [if_neg (by omega), e0]
              have em := mst_no hno
              have hi := ih (mst E s) (dO bs (eD E s.1) g).1 (d + 1) K hok (by omega) (by omega) gk w2 (hBu.my fy) (hS.my fy) (by rw [em]; exact hT.ms f)
              have k1 : (((mst E s).1 : Nat) : Int) = (s.1 : Int) + 1 := by rw [em]; rfl
              have k2 : (((mst E s).2.length : Nat) : Int) = (s.2.length : Int) := by rw [em]
              rw [k1, k2] at hi
              refine tr_inl (tr_mono hi ?_)
              rintro y L ⟨z1, z2, z3⟩
              exact ⟨z1, z2, fy.trans z3⟩
            · have := x2 (by simpa using q3)
              rw [if_neg q3] at e0
              rw [if_pos this, e0]
              exact tr_inr ⟨rfl, gk, fy⟩
      · rw [if_neg (fun y => q40 y.2)] at e0
        rw [if_neg (by omega), e0]
        exact tr_inr ⟨rfl, hG, Fm.refl _ _⟩
    · rw [if_neg (fun y => q y.1)] at e0
      rw [if_neg (by omega), e0]
      exact tr_inr ⟨rfl, hG, Fm.refl _ _⟩
theorem fsn_lm : ∀ k i s : Nat, FSn k i s → FLm k i s := fun k i s z => by unfold FSn FMx at z; unfold FLm; omega
theorem fmy_lm : ∀ k i s : Nat, FMy k i s → FLm k i s := fun k i s z => by unfold FMy FMS FW FBP FMP FL at z; unfold FLm; omega
theorem flm_mo : ∀ k i s : Nat, FLm k i s → FMo k i s := fun k i s z => by unfold FLm at z; unfold FMo; omega
theorem t_mplay (h : SM J (g, ps, kp, bs, rp)) (w : WF g) (hl : bs.length ≤ 600) (hr : ∀ b ∈ bs, 1 ≤ b ∧ b ≤ 255) : Tr (f_M_play J) (fun x K => x = (playS (g, ps, kp, bs, rp)).1 ∧ SM K (playS (g, ps, kp, bs, rp)).2 ∧ Fm FMo J K) := by
  have e0 : playS (g, ps, kp, bs, rp) = plT (g, ps, kp, bs, rp) (scr bs 601 [] 0 0) := rfl
  rw [e0]
  have s0 := h.t7 (v := 0)
  have f0 : Fm FLm J (sI J 26 0 7 0) := Fm.sI (by decide) (by omega) (by omega) (Or.inr ⟨rfl, by decide, by decide⟩)
  unfold f_M_play
  try dsimp only [ltI]
  generalize sI J 26 0 7 0 = J0 at s0 f0
  refine tr_call (t_mscript hl hr s0.2.2.2.1) ?_
  rintro _ J1 ⟨ok, f1⟩
  have f01 : Fm FLm J0 J1 := f1.mono fsn_lm
  have gw1 : GW J1 g := GWf.congr s0.1 (fun q _ => f1.at (by decide) (by unfold FSn FMx; omega))
  cases hc : scr bs 601 [] 0 0 with
  | inl e =>
    rw [hc] at ok
    obtain ⟨k25, ok⟩ := ok
    have ok2 := ok
    unfold ERR at ok2
    refine tr_call (t_mended (Or.inl ok)) ?_
    rintro x J2 ⟨rfl, e20, f2⟩
    rw [if_neg (show ¬ J1 26 0 25 = 0 by omega), w32_of (x := -10 - J1 26 0 25) (by omega) (by omega), if_pos (by omega), k25]
    have f02 : Fm FLm J0 J2 := f01.trans (f2.mono (fun a b c z => by unfold FLm; omega))
    exact tr_ret ⟨rfl, ⟨GWf.congr gw1 (fun q _ => f2.at (by decide) (by omega)), s0.2.1.fm f02 (fun z => by unfold FLm at z; omega) (fun s z => by unfold FLm at z; omega), s0.2.2.1.fm f02 (fun s z => by unfold FLm at z; omega) (fun s z => by unfold FLm at z; omega), bfm_0 e20, s0.2.2.2.2.fm f02 (fun z => by unfold FLm at z; omega) (fun s z => by unfold FLm at z; omega)⟩, (f0.trans f02).mono flm_mo⟩
  | inr t =>
    rw [hc] at ok
    have hF := scr_fin hc
    obtain ⟨hM0, hM1⟩ := Mz_0 hF
    obtain ⟨hB1, -, hS1, -, -, k25⟩ := ok
    refine tr_call (t_mended (Or.inr k25)) ?_
    rintro x J2 ⟨rfl, e20, f2⟩
    rw [if_pos k25, if_neg (by decide)]
    have f02 : Fm FLm J0 J2 := f01.trans (f2.mono (fun a b c z => by unfold FLm; omega))
    have gw2 : GW J2 g := GWf.congr gw1 (fun q _ => f2.at (by decide) (by omega))
    have hm2 : HM J2 ps := s0.2.1.fm f02 (fun z => by unfold FLm at z; omega) (fun s z => by unfold FLm at z; omega)
    refine tr_call (t_mrem (q := 0) (Or.inl rfl) (show GB J2 0 0 g from GWf.congr gw2 (fun q _ => by show J2 27 0 (0 + q) = J2 27 0 q; rw [Nat.zero_add])) hm2) ?_
    rintro _ J3 ⟨hm3, f3⟩
    have gw3 : GW J3 g := GWf.congr gw2 (fun q _ => f3.at (by decide) (by unfold FRb3; omega))
    have hbu : BUF J3 bs := fun j hj => by
      rw [f3.at (by decide) (by unfold FRb3; omega), f2.at (by decide) (by omega)]
      exact hB1.2 j hj
    have hs3 : SMl J3 t.1 := (hS1.fm f2 (by omega) (fun i s _ _ => by omega)).fm f3 (by unfold FRb3; omega) (fun i s _ _ => by unfold FRb3; omega)
    have hn0 : Mz t.1 (0, []) < (((Mz t.1 (0, [])).toNat + 1 : Nat) : Int) := by
      have := Mz_nn hF hM0
      omega
    generalize hN : (Mz t.1 (0, [])).toNat + 1 = N at hn0
    unfold f_M_plays
    refine tr_call (t_mplaysL hF hl hr N (0, []) g 0 J3 hM0 hn0 (by decide) gw3 w hbu hs3 trivial) ?_
    rintro x J4 ⟨rfl, gw4, f4⟩
    have ep : plS bs t.1 g = pl bs t.1 N (0, []) g 0 := by unfold plS; rw [hN]
    have er : plT (g, ps, kp, bs, rp) (.inr t) = (((plS bs t.1 g).2 : Int), ((plS bs t.1 g).1, pushP ps g, kp, [], rp)) := rfl
    rw [er, ep]
    have f04 : Fm (fun k i s => FLm k i s ∨ FRb3 k i s) J0 J4 := (f02.mono (fun a b c z => Or.inl z)).trans ((f3.mono (fun a b c z => Or.inr z)).trans (f4.mono (fun a b c z => Or.inl (fmy_lm _ _ _ z))))
    refine tr_ret ⟨rfl, ⟨gw4, hm3.fm f4 (by unfold FMy FMS FW FBP FMP FL; omega) (fun s => by unfold FMy FMS FW FBP FMP FL; omega), s0.2.2.1.fm f04 (fun s z => by unfold FLm FRb3 at z; omega) (fun s z => by unfold FLm FRb3 at z; omega), bfm_0 ?_, s0.2.2.2.2.fm f04 (fun z => by unfold FLm FRb3 at z; omega) (fun s z => by unfold FLm FRb3 at z; omega)⟩, (f0.mono flm_mo).trans (f04.mono (fun a b c z => by unfold FLm FRb3 at z; unfold FMo; omega))⟩
    rw [f4.at (by decide) (by unfold FMy FMS FW FBP FMP FL; omega), f3.at (by decide) (by unfold FRb3; omega)]
    exact e20
theorem playS_sw {s : SS} (h : SW s) : SW (playS s).2 := by
  have e0 : playS s = plT s (scr s.2.2.2.1 601 [] 0 0) := rfl
  rw [e0]
  cases hc : scr s.2.2.2.1 601 [] 0 0 with
  | inl e => exact ⟨h.1, h.2.1, h.2.2.1, ⟨Nat.zero_le _, fun b hb => absurd hb List.not_mem_nil⟩, h.2.2.2.2⟩
  | inr t => exact ⟨pl_wf (scr_fin hc) _ _ _ _ h.1, pushP_wf h.2.1 h.1, h.2.2.1, ⟨Nat.zero_le _, fun b hb => absurd hb List.not_mem_nil⟩, h.2.2.2.2⟩
theorem og_2 (h : SI I s) : OGI f_PR_play f_M_play I := by
  obtain ⟨g, ps, kp, bs, rp⟩ := s
  have hl : bs.length ≤ 600 := h.2.2.2.2.2.1.1
  have hr : ∀ b ∈ bs, 1 ≤ b ∧ b ≤ 255 := h.2.2.2.2.2.1.2
  have w : WF g := h.2.2.1
  refine og_I (s' := (playS (g, ps, kp, bs, rp)).2) (u := w32 (playS (g, ps, kp, bs, rp)).1) h (playS_sw h.2.2) ?_ (fun J sm => ?_)
  · exact tr_mono (t_cplay h.1 w hl hr) (fun x K z => ⟨by rw [z.1], z.2⟩)
  · exact tr_mono (t_mplay sm w hl hr) (fun x K z => ⟨by rw [z.1], z.2⟩)
end MPLAY
