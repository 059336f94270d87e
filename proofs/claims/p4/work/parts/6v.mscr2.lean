/-! ===== scripts: the reference reads, second part ===== -/
section MSCR2
variable {I J : Mem} {bs : List Int} {E : List EN} {c p : Nat}
theorem closes_err (he : ERR I) : whl f_M_closes_w0 () I = some ((), I) := by
  rw [whl_eq]
  unfold f_M_closes_w0
  by_cases q : 0 < w32 (I 26 0 40)
  · rw [if_pos q, m_isSignE he.ne, bnd_some, if_pos (by decide)]
  · rw [if_neg q]
theorem script_err (he : ERR I) : whl f_M_script_w29 () I = some ((), I) := by
  rw [whl_eq]
  unfold f_M_script_w29
  rw [if_neg he.ne]
def OKend (K : Mem) (bs : List Int) : Int ⊕ PS → Prop
  | .inl e => (K 26 0 25 = e ∧ ERR K) ∨ (e = 1 ∧ K 26 0 25 = 0 ∧ 0 < w32 (K 26 0 40))
  | .inr s => PMl K bs s.1 s.2.1 s.2.2 ∧ enc s.1 s.1.length = []
theorem t_mclose1 (hl : bs.length ≤ 600) (hr : ∀ b ∈ bs, 1 ≤ b ∧ b ≤ 255) (hS : SEI bs E c p) (h : PMl I bs E c p) (hne : enc E E.length ≠ []) (h5 : tK bs p = 5) : Tr (f_M_closes_w0 () I) (fun x K => x = .inl () ∧ OKn K bs (cloP bs E c p) ∧ Fm FSn I K) := by
  obtain ⟨hB, hT, hSM, hO, h9, he⟩ := id h
  have hp := hS.1
  have hE := tE_le hp
  have hE2 := tE_le hE.2.1
  have hc30 := hS.2.1
  have hcc := hS.2.2.1
  have h22 := hS.2.2.2.1 E.length (Nat.le_refl _)
  have hpos := List.length_pos_iff.mpr hne
  obtain ⟨a, t, ha⟩ : ∃ a t, enc E E.length = a :: t := by
    cases hx : enc E E.length with
    | nil => exact absurd hx hne
    | cons a t => exact ⟨a, t, rfl⟩
  obtain ⟨ha1, ha2, ha3⟩ := enc_cons _ _ _ ha
  have hL : E.length < 60 := by omega
  unfold f_M_closes_w0
  rw [hO.1, w32_of (x := ((enc E E.length).length : Int)) (by omega) (by omega), if_pos (by omega), m_isSign hB hl hr hp hT he (c := 41) (k := 5) (by omega), bnd_some, if_neg (wb_pos h5)]
  try dsimp only [ltI]
  rw [hO.1]
  have f1 : Fm (fun k i s => k = 26 ∧ i = 0 ∧ s = 40) I (sI I 26 0 40 (((enc E E.length).length : Int) - 1)) := Fm.sI (by decide) (by omega) (by omega) ⟨rfl, rfl, rfl⟩
  have a10 : (sI I 26 0 40 (((enc E E.length).length : Int) - 1)) 26 0 40 = (((enc E E.length).length - 1 : Nat) : Int) := by rw [sI_self]; omega
  generalize sI I 26 0 40 (((enc E E.length).length : Int) - 1) = J1 at f1 a10
  have hO1 : J1 27 19 ((enc E E.length).length - 1) = (a : Int) := by
    rw [f1.at (by decide) (by omega), hO.2 _ (by omega), show (enc E E.length).length - 1 - ((enc E E.length).length - 1) = 0 by omega, ha]
    rfl
  have k38 : J1 26 0 38 = (E.length : Int) := by rw [f1.at (by decide) (by omega)]; exact hSM.1
  rw [a10, w32_of (x := (((enc E E.length).length - 1 : Nat) : Int)) (by omega) (by omega), if_pos (by omega), Int.toNat_natCast, hO1, w32_of (x := (a : Int)) (by omega) (by omega), if_pos (by omega), Int.toNat_natCast, k38]
  have e38 : (sI J1 27 18 a (E.length : Int)) 26 0 38 = (E.length : Int) := by rw [sI_ne (by omega)]; exact k38
  try dsimp only [ltI]
  rw [e38, w32_of (x := (E.length : Int)) (by omega) (by omega), if_pos (by omega), Int.toNat_natCast]
  try dsimp only [ltI]
  rw [sI_ne (k' := 26) (s' := 38) (by omega), e38]
  have f2 : Fm (fun k i s => (k = 27 ∧ i = 18 ∧ s = a) ∨ (k = 27 ∧ i = 15 ∧ s = E.length) ∨ (k = 26 ∧ i = 0 ∧ s = 38)) J1 (sI (sI (sI J1 27 18 a (E.length : Int)) 27 15 E.length 17) 26 0 38 ((E.length : Int) + 1)) := ((Fm.sI (by decide) (by omega) (by omega) (Or.inl ⟨rfl, rfl, rfl⟩)).trans (Fm.sI (by decide) (by omega) (by omega) (Or.inr (Or.inl ⟨rfl, rfl, rfl⟩)))).trans (Fm.sI (by decide) (by omega) (by omega) (Or.inr (Or.inr ⟨rfl, rfl, rfl⟩)))
  have b8 : (sI (sI (sI J1 27 18 a (E.length : Int)) 27 15 E.length 17) 26 0 38 ((E.length : Int) + 1)) 26 0 38 = ((E.length + 1 : Nat) : Int) := by rw [sI_self]; rfl
  have b18 : (sI (sI (sI J1 27 18 a (E.length : Int)) 27 15 E.length 17) 26 0 38 ((E.length : Int) + 1)) 27 18 a = (E.length : Int) := by rw [sI_ne (by omega), sI_ne (by omega), sI_self]
  have b15 : (sI (sI (sI J1 27 18 a (E.length : Int)) 27 15 E.length 17) 26 0 38 ((E.length : Int) + 1)) 27 15 E.length = 17 := by rw [sI_ne (by omega), sI_self]
  generalize sI (sI (sI J1 27 18 a (E.length : Int)) 27 15 E.length 17) 26 0 38 ((E.length : Int) + 1) = J2 at f2 b8 b18 b15
  have f12 : Fm (fun k i s => (k = 27 ∧ i = 18 ∧ s = a) ∨ (k = 27 ∧ i = 15 ∧ s = E.length) ∨ (k = 26 ∧ i = 0 ∧ (s = 38 ∨ s = 40))) I J2 := (f1.mono (fun a b c z => Or.inr (Or.inr ⟨z.1, z.2.1, Or.inr z.2.2⟩))).trans (f2.mono (fun a b c z => by
    rcases z with z | z | z
    · exact Or.inl z
    · exact Or.inr (Or.inl z)
    · exact Or.inr (Or.inr ⟨z.1, z.2.1, Or.inl z.2.2⟩)))
  have hB2 : BfM J2 bs := hB.fm f12 (by omega) (fun s => by omega)
  have hT2 : TM J2 bs p := hT.fm f12 (fun s _ _ => by omega)
  refine tr_call (tm_advS hB2 hl hr hp hT2) ?_
  rintro _ J3 ⟨t3, e3, f3⟩
  have he3 : J3 26 0 25 = 0 := by rw [e3, f12.at (by decide) (by omega)]; exact he
  refine tr_call (t_takesSign (hB2.mx f3) hl hr hE.2.1 t3 he3 (c := 59) (k := 3) (by omega)) ?_
  rintro _ J4 ⟨w1, w2, f4⟩
  have f34 := f3.trans f4
  have fend : Fm FSn I J4 := (f12.mono (fun a b c z => by
    rcases z with z | z | z
    · exact Or.inr (Or.inr ⟨z.1, by omega, by omega⟩)
    · exact Or.inr (Or.inr ⟨z.1, by omega, by omega⟩)
    · exact Or.inr (Or.inl ⟨z.1, z.2.1, by omega⟩))).trans (f34.mono fmx_sn)
  refine tr_ret ⟨rfl, ?_, fend⟩
  unfold cloP
  by_cases q3 : tK bs (tE bs p) = 3
  · rw [if_pos q3]
    obtain ⟨w3, w4⟩ := w1 q3
    have heq : enc (E ++ [((13, 0, 0) : EN)]) (E ++ [((13, 0, 0) : EN)]).length = t := by
      rw [enc_next, if_neg (by decide), if_pos rfl, ha]
      rfl
    have atJ : ∀ {k i s : Nat}, k ≠ 30 → ¬ FMx k i s → J4 k i s = J2 k i s := fun h1 h2 => f34.at h1 h2
    have htl : (enc E E.length).length = t.length + 1 := by rw [ha]; rfl
    refine ⟨hB2.mx f34, w3, ?_, ?_, ?_, w4⟩
    · refine hSM.app ?_ (fun j hj => ⟨?_, ?_, ?_⟩) ⟨?_, fun _ y => absurd rfl y, fun y => absurd (show (13 : Nat) = 8 ∨ (13 : Nat) = 10 from y) (by decide)⟩ (fun k hk hw a' t' ee => ?_) (fun _ a' t' ee => ?_)
      · rw [atJ (by decide) (by unfold FMx; omega)]; exact b8
      · rw [atJ (by decide) (by unfold FMx; omega), f12.at (by decide) (by omega)]
      · rw [atJ (by decide) (by unfold FMx; omega), f12.at (by decide) (by omega)]
      · rw [atJ (by decide) (by unfold FMx; omega), f12.at (by decide) (by omega)]
      · rw [atJ (by decide) (by unfold FMx; omega)]; exact b15
      · have hg := enc_gone hw ee E.length hk
        have n1 : a' ≠ a := fun y => hg (by rw [y, ha]; exact List.mem_cons_self)
        rw [atJ (by decide) (by unfold FMx; omega), f12.at (by decide) (by omega)]
      · rw [ha] at ee
        cases ee
        rw [atJ (by decide) (by unfold FMx; omega)]; exact b18
    · refine ⟨by rw [heq, atJ (by decide) (by unfold FMx; omega), f2.at (by decide) (by omega), a10, htl]; rfl, fun d hd => ?_⟩
      rw [heq] at hd ⊢
      rw [atJ (by decide) (by unfold FMx; omega), f12.at (by decide) (by omega), hO.2 d (by omega), ha]
      show (((a :: t).getD (t.length + 1 - 1 - d) 0 : Nat) : Int) = _
      obtain ⟨u, hu⟩ : ∃ u : Nat, t.length + 1 - 1 - d = u + 1 := ⟨t.length - 1 - d, by omega⟩
      rw [hu, show t.length - 1 - d = u by omega]
      rfl
    · show J4 26 0 39 = (c : Int)
      rw [atJ (by decide) (by unfold FMx; omega), f12.at (by decide) (by omega)]
      exact h9
  · rw [if_neg q3]
    exact ⟨w2 q3, ERR.of (w2 q3) (by decide)⟩
theorem t_mscrL (hl : bs.length ≤ 600) (hr : ∀ b ∈ bs, 1 ≤ b ∧ b ≤ 255) {I0 : Mem} : ∀ (n : Nat) (E : List EN) (c p : Nat) (I : Mem), Fm FSn I0 I → bs.length - p < n → SEI bs E c p → PMl I bs E c p → Tr (whl f_M_closes_w0 () I) (fun _ K => Tr (whl f_M_script_w29 () K) (fun _ K => OKend K bs (scr bs n E c p) ∧ Fm FSn I0 K)) := by
  intro n
  induction n with
  | zero => intro E c p I _ h; omega
  | succ n ih =>
    intro E c p I f0 hn hS h
    obtain ⟨hB, hT, hSM, hO, h9, he⟩ := id h
    have hp := hS.1
    have h22 := hS.2.2.2.1 E.length (Nat.le_refl _)
    have e0 : scr bs (n + 1) E c p = (if enc E E.length = [] ∧ tK bs p = 0 then .inr (E, c, p) else (match (if enc E E.length ≠ [] ∧ tK bs p = 5 then cloP bs E c p else ordP bs E c p) with
      | .inl e => .inl e
      | .inr s => scr bs n s.1 s.2.1 s.2.2)) := rfl
    have hlen0 : (enc E E.length).length = 0 ↔ enc E E.length = [] := List.length_eq_zero_iff
    -- behind an error
    have bad : ∀ (K : Mem) (e : Int), Fm FSn I0 K → K 26 0 25 = e ∧ ERR K → scr bs (n + 1) E c p = .inl e → Tr (whl f_M_closes_w0 () K) (fun _ K => Tr (whl f_M_script_w29 () K) (fun _ K => OKend K bs (scr bs (n + 1) E c p) ∧ Fm FSn I0 K)) := by
      intro K e fK hK es
      rw [closes_err hK.2, es]
      refine tr_ret ?_
      rw [script_err hK.2]
      exact tr_ret ⟨Or.inl hK, fK⟩
    by_cases q5 : enc E E.length ≠ [] ∧ tK bs p = 5
    · -- a close
      have e1 : scr bs (n + 1) E c p = (match cloP bs E c p with
        | .inl e => .inl e
        | .inr s => scr bs n s.1 s.2.1 s.2.2) := by rw [e0, if_neg (fun y => q5.1 y.1), if_pos q5]
      refine tr_step ?_
      refine tr_mono (t_mclose1 hl hr hS h q5.1 q5.2) ?_
      rintro x K ⟨rfl, hk, f⟩
      show Tr (whl f_M_closes_w0 () K) _
      cases hc : cloP bs E c p with
      | inl e =>
        rw [hc] at hk e1
        exact bad K e (f0.trans f) hk e1
      | inr s =>
        rw [hc] at hk e1
        obtain ⟨s1, s2⟩ := cloP_inv hS q5.1 q5.2 hc
        rw [e1]
        exact ih s.1 s.2.1 s.2.2 K (f0.trans f) (by have := s1.1; omega) s1 hk
    · -- none: on to an order
      have stop : whl f_M_closes_w0 () I = some ((), I) := by
        rw [whl_eq]
        unfold f_M_closes_w0
        rw [hO.1, w32_of (x := ((enc E E.length).length : Int)) (by omega) (by omega)]
        by_cases q : enc E E.length = []
        · rw [if_neg (by have := hlen0.mpr q; omega)]
        · rw [if_pos (by have := List.length_pos_iff.mpr q; omega), m_isSign hB hl hr hp hT he (c := 41) (k := 5) (by omega), bnd_some, if_pos (wb_neg (fun y => q5 ⟨q, y⟩))]
      rw [stop]
      refine tr_ret ?_
      by_cases q0 : tK bs p = 0
      · rw [whl_eq]
        unfold f_M_script_w29
        rw [he, if_pos (by decide), hT.1, if_pos ((km_0 bs p).mpr q0)]
        refine tr_ret ⟨?_, f0⟩
        by_cases q : enc E E.length = []
        · rw [e0, if_pos ⟨q, q0⟩]
          exact ⟨h, q⟩
        · have hw : wd bs p = 14 := by unfold wd; rw [if_neg (by omega)]
          have eo : ordP bs E c p = .inl 1 := by unfold ordP; rw [if_pos (by rw [hw]; rfl)]
          rw [e0, if_neg (fun y => q y.1), if_neg q5, eo]
          refine Or.inr ⟨rfl, he, ?_⟩
          rw [hO.1, w32_of (x := ((enc E E.length).length : Int)) (by omega) (by omega)]
          have := List.length_pos_iff.mpr q
          omega
      · have e1 : scr bs (n + 1) E c p = (match ordP bs E c p with
          | .inl e => .inl e
          | .inr s => scr bs n s.1 s.2.1 s.2.2) := by rw [e0, if_neg (fun y => q0 y.2), if_neg q5]
        refine tr_step ?_
        unfold f_M_script_w29
        rw [he, if_pos (by decide), hT.1, if_neg (fun y => q0 ((km_0 bs p).mp y))]
        refine tr_call (t_mreadsOrder hl hr hS h) ?_
        rintro _ K ⟨hk, f⟩
        have go : Tr (whl f_M_closes_w0 () K) (fun _ K => Tr (whl f_M_script_w29 () K) (fun _ K => OKend K bs (scr bs (n + 1) E c p) ∧ Fm FSn I0 K)) := by
          cases hc : ordP bs E c p with
          | inl e =>
            rw [hc] at hk e1
            exact bad K e (f0.trans f) hk e1
          | inr s =>
            rw [hc] at hk e1
            obtain ⟨s1, s2⟩ := ordP_inv hS hc
            rw [e1]
            exact ih s.1 s.2.1 s.2.2 K (f0.trans f) (by have := s1.1; omega) s1 hk
        unfold f_M_closes
        refine tr_call (P := fun _ K => Tr (whl f_M_script_w29 () K) (fun _ K => OKend K bs (scr bs (n + 1) E c p) ∧ Fm FSn I0 K)) (tr_call go (fun _ K z => tr_ret z)) ?_
        intro _ K z
        exact tr_ret z
theorem t_mscript (hl : bs.length ≤ 600) (hr : ∀ b ∈ bs, 1 ≤ b ∧ b ≤ 255) (hB : BfM I bs) : Tr (f_M_script I) (fun _ K => OKn K bs (scr bs 601 [] 0 0) ∧ Fm FSn I K) := by
  unfold f_M_script
  try dsimp only [ltI]
  have f1 : Fm FSn I (sI (sI (sI (sI (sI I 26 0 22 0) 26 0 25 0) 26 0 38 0) 26 0 39 0) 26 0 40 0) := ((((Fm.sI (by decide) (by omega) (by omega) (Or.inl ⟨rfl, rfl, by omega, by omega⟩)).trans (Fm.sI (by decide) (by omega) (by omega) (Or.inl ⟨rfl, rfl, by omega, by omega⟩))).trans (Fm.sI (by decide) (by omega) (by omega) (Or.inr (Or.inl ⟨rfl, rfl, by omega⟩)))).trans (Fm.sI (by decide) (by omega) (by omega) (Or.inr (Or.inl ⟨rfl, rfl, by omega⟩)))).trans (Fm.sI (by decide) (by omega) (by omega) (Or.inr (Or.inl ⟨rfl, rfl, by omega⟩)))
  have a22 : (sI (sI (sI (sI (sI I 26 0 22 0) 26 0 25 0) 26 0 38 0) 26 0 39 0) 26 0 40 0) 26 0 22 = ((0 : Nat) : Int) := by rw [sI_ne (by omega), sI_ne (by omega), sI_ne (by omega), sI_ne (by omega), sI_self]; rfl
  have a25 : (sI (sI (sI (sI (sI I 26 0 22 0) 26 0 25 0) 26 0 38 0) 26 0 39 0) 26 0 40 0) 26 0 25 = 0 := by rw [sI_ne (by omega), sI_ne (by omega), sI_ne (by omega), sI_self]
  have a38 : (sI (sI (sI (sI (sI I 26 0 22 0) 26 0 25 0) 26 0 38 0) 26 0 39 0) 26 0 40 0) 26 0 38 = 0 := by rw [sI_ne (by omega), sI_ne (by omega), sI_self]
  have a39 : (sI (sI (sI (sI (sI I 26 0 22 0) 26 0 25 0) 26 0 38 0) 26 0 39 0) 26 0 40 0) 26 0 39 = 0 := by rw [sI_ne (by omega), sI_self]
  have a40 : (sI (sI (sI (sI (sI I 26 0 22 0) 26 0 25 0) 26 0 38 0) 26 0 39 0) 26 0 40 0) 26 0 40 = 0 := sI_self _ _ _ _ _
  generalize sI (sI (sI (sI (sI I 26 0 22 0) 26 0 25 0) 26 0 38 0) 26 0 39 0) 26 0 40 0 = J1 at f1 a22 a25 a38 a39 a40
  have hB1 : BfM J1 bs := hB.sn f1
  refine tr_call (tm_adv hB1 hl hr (p := 0) (Nat.zero_le _) a22) ?_
  rintro _ J2 ⟨t2, f2⟩
  have k2 : ∀ s : Nat, 24 < s → J2 26 0 s = J1 26 0 s := fun s hs => f2.at (by decide) (by unfold FAm; omega)
  have hP : PMl J2 bs [] 0 0 := ⟨hB1.mx (f2.mono fam_mx), t2, ⟨by rw [k2 _ (by decide)]; exact a38, fun j hj => absurd hj (Nat.not_lt_zero j), fun k hk => absurd hk (Nat.not_lt_zero k)⟩, ⟨by rw [k2 _ (by decide)]; exact a40, fun d hd => absurd hd (Nat.not_lt_zero d)⟩, by rw [k2 _ (by decide)]; exact a39, by rw [k2 _ (by decide)]; exact a25⟩
  have f12 : Fm FSn I J2 := f1.trans (f2.mono (fun a b c z => fmx_sn _ _ _ (fam_mx _ _ _ z)))
  have stop : whl f_M_closes_w0 () J2 = some ((), J2) := by
    rw [whl_eq]
    unfold f_M_closes_w0
    rw [k2 _ (by decide), a40, if_neg (by decide)]
  have hL := t_mscrL hl hr 601 [] 0 0 J2 f12 (by omega) SEI.nil hP
  rw [stop] at hL
  obtain ⟨_, J2', e2, hL⟩ := hL
  cases e2
  refine tr_call hL ?_
  rintro _ J3 ⟨ok, f3⟩
  have s31 : ∀ (M : Mem) (v : Int), Fm FSn M (sI M 26 0 31 v) := fun M v => Fm.sI (by decide) (by omega) (by omega) (Or.inr (Or.inl ⟨rfl, rfl, Or.inl rfl⟩))
  have m31 : ∀ (M : Mem) (v : Int) (s : Nat), s ≠ 31 → (sI M 26 0 31 v) 26 0 s = M 26 0 s := fun M v s hs => sI_ne (by omega)
  cases hc : scr bs 601 [] 0 0 with
  | inl e =>
    rw [hc] at ok
    by_cases z : ERR J3
    · have hz : J3 26 0 25 = e := by
        rcases ok with y | y
        · exact y.1
        · unfold ERR at z; have := y.2.1; omega
      rw [mf_E z.ne, bnd_some, if_pos (Or.inr rfl)]
      try dsimp only [ltI]
      exact tr_ret ⟨⟨by rw [m31 _ _ _ (by decide)]; exact hz, by unfold ERR; rw [m31 _ _ _ (by decide)]; exact z⟩, f3.trans (s31 _ _)⟩
    · obtain ⟨rfl, y2, y3⟩ := ok.resolve_left (fun y => z y.2)
      rw [if_pos y3]
      refine tr_call (mf_1 y2 (by decide) (by decide)) ?_
      rintro x K ⟨rfl, b, f⟩
      rw [if_pos (Or.inr rfl)]
      try dsimp only [ltI]
      exact tr_ret ⟨⟨by rw [m31 _ _ _ (by decide)]; exact b, ERR.of (c := 1) (by rw [m31 _ _ _ (by decide)]; exact b) (by decide)⟩, (f3.trans (f.mono fem_sn)).trans (s31 _ _)⟩
  | inr s =>
    rw [hc] at ok
    obtain ⟨⟨oB, oT, oS, oO, o9, oe⟩, on⟩ := ok
    have h0 : J3 26 0 40 = 0 := by have := oO.1; rw [on] at this; exact this
    rw [h0, if_neg (by decide), mf_0 oe (by decide), bnd_some, if_pos (Or.inl rfl)]
    try dsimp only [ltI]
    have fx : Fm (fun k i s => k = 26 ∧ i = 0 ∧ s = 31) J3 (sI J3 26 0 31 0) := Fm.sI (by decide) (by omega) (by omega) ⟨rfl, rfl, rfl⟩
    refine tr_ret ⟨⟨oB.fm fx (by omega) (fun s => by omega), oT.fm fx (fun s _ _ => by omega), ⟨by rw [m31 _ _ _ (by decide)]; exact oS.1, fun j hj => ?_, fun k hk hw a t ee => ?_⟩, ⟨by rw [m31 _ _ _ (by decide)]; exact oO.1, fun d hd => by rw [fx.at (by decide) (by omega)]; exact oO.2 d hd⟩, by rw [m31 _ _ _ (by decide)]; exact o9, by rw [m31 _ _ _ (by decide)]; exact oe⟩, f3.trans (s31 _ _)⟩
    · obtain ⟨y1, y2, y3⟩ := oS.2.1 j hj
      exact ⟨by rw [fx.at (by decide) (by omega)]; exact y1, fun z1 z2 => by rw [fx.at (by decide) (by omega)]; exact y2 z1 z2, fun z => by rw [fx.at (by decide) (by omega)]; exact y3 z⟩
    · rw [fx.at (by decide) (by omega)]
      exact oS.2.2 k hk hw a t ee
end MSCR2
