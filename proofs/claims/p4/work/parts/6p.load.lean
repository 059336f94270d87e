/-! ===== load ===== -/
section LOAD
variable {I J : Mem} {g g' : GS} {ps : List GS} {kp : Nat → Option GS} {bs rp : List Int} {s s' : SS}
theorem og_T {fc fm : Mem → Option (Int × Mem)} (h : SI I s) (w : SW s') (hc : Tr (fc I) (fun _ J => SC J s' ∧ Fm FCl I J)) (hm : ∀ J : Mem, SM J s → Tr (fm J) (fun _ K => SM K s' ∧ Fm FMo J K)) : OGT fc fm I := by
  obtain ⟨r1, J, e1, c1, f1⟩ := hc
  obtain ⟨r2, K, e2, c2, f2⟩ := hm J (h.2.1.cl f1)
  exact ⟨r1, r2, J, K, s', e1, e2, ⟨c1.mo f2, c2, w⟩, rm_2 f1 f2⟩
/-- behind a load -/
def ldS (s : SS) : SS := match setP s.2.2.2.1 with
  | some g => (gBegin g (gTx g), [], fun _ => none, [], s.2.2.2.2)
  | none => (s.1, s.2.1, s.2.2.1, [], s.2.2.2.2)
abbrev FLf : FP := fun k i s => FG 1 k i s ∨ k = 6 ∨ k = 7 ∨ k = 0
theorem SC.lf {bs' : List Int} (h : SC I (g, ps, kp, bs, rp)) (f : Fm FLf I J) (g1 : ∃ x : GS, GC J 1 x) (h6 : BfC J bs') : SC J (g, ps, kp, bs', rp) := by
  obtain ⟨a1, a2, a3, a4, a5, a6, a7⟩ := h
  refine ⟨a1.fm f (fun k i s z q => by unfold FG at z; unfold FLf FG at q; omega), a2.go f (fun t => t = 1) (fun t _ z => by subst z; exact g1) (fun t _ z k i s q q2 => by unfold FG at q; unfold FLf FG at q2; omega), a3.fm f (fun i s => ⟨fun z => by unfold FLf FG at z; omega, fun z => by unfold FLf FG at z; omega⟩), a4.fm f (fun s z => by unfold FLf FG at z; omega) (fun t _ _ k i s z q => by unfold FG at z; unfold FLf FG at q; omega), a5.fm f (fun s z => by unfold FLf FG at z; omega) (fun t _ _ k i s z q => by unfold FG at z; unfold FLf FG at q; omega), h6, a7.fm f (fun s z => by unfold FLf FG at z; omega) (fun s z => by unfold FLf FG at z; omega)⟩
abbrev FLs : FP := fun k i s => FG 0 k i s ∨ FG 1 k i s ∨ k = 5 ∨ k = 18 ∨ (k = 9 ∧ s = 4) ∨ k = 24 ∨ k = 0
theorem SC.ls (h : SC I (g, ps, kp, bs, rp)) (f : Fm FLs I J) (g0' : GC J 0 g') (g1 : ∃ x : GS, GC J 1 x) (h9 : J 9 0 4 = 0) (h24 : ∀ j : Nat, j < 2 → J 24 0 j = 0) : SC J (g', [], (fun _ => none), bs, rp) := by
  obtain ⟨a1, a2, a3, a4, a5, a6, a7⟩ := h
  obtain ⟨b1, b2, nx, b3, b4, b5⟩ := a4
  refine ⟨g0', a2.go f (fun t => t = 0 ∨ t = 1) (fun t _ z => ?_) (fun t _ z k i s q q2 => by unfold FG at q; unfold FLs FG at q2; omega), a3.fm f (fun i s => ⟨fun z => by unfold FLs FG at z; omega, fun z => by unfold FLs FG at z; omega⟩), ⟨Nat.zero_le _, h9, nx, b3, by rw [f.at (by decide) (fun z => by unfold FLs FG at z; omega)]; exact b4, fun k hk => absurd hk (Nat.not_lt_zero k)⟩, fun j hj => h24 j hj, a6.fm f (fun z => by unfold FLs FG at z; omega) (fun s z => by unfold FLs FG at z; omega), a7.fm f (fun s z => by unfold FLs FG at z; omega) (fun s z => by unfold FLs FG at z; omega)⟩
  rcases z with rfl | rfl
  · exact ⟨_, g0'⟩
  · exact g1
theorem bfc_0 (h : J 6 0 1 = 0) : BfC J [] := ⟨h, fun j hj => absurd hj (Nat.not_lt_zero j)⟩
theorem t_cload (h : SC I (g, ps, kp, bs, rp)) (hl : bs.length ≤ 600) (hr : ∀ b ∈ bs, 1 ≤ b ∧ b ≤ 255) : Tr (f_PR_load I) (fun _ J => SC J (ldS (g, ps, kp, bs, rp)) ∧ Fm FCl I J) := by
  obtain ⟨x1, hG1⟩ := h.2.1 1 (by decide)
  unfold f_PR_load
  refine tr_call (t_setRead hl hr h.2.2.2.2.2.1 hG1) ?_
  rintro x J1 ⟨ok, hB1, f1⟩
  unfold f_Src_dropAll
  try dsimp only [ltI]
  rw [bnd_some]
  have f2 : Fm (fun k _ s => k = 6 ∧ s = 1) J1 (sI J1 6 0 1 0) := Fm.sI (by decide) (by omega) (by omega) ⟨rfl, rfl⟩
  have a61 : (sI J1 6 0 1 0) 6 0 1 = 0 := sI_self _ _ _ _ _
  generalize sI J1 6 0 1 0 = J2 at f2 a61
  have f12 : Fm FLf I J2 := (f1.mono (fun a b c z => by unfold FLd FSx at z; unfold FLf; omega)).trans (f2.mono (fun a b c z => by unfold FLf; omega))
  have f0 : ∀ v : Int, Fm (fun k _ _ => k = 0) J2 (sI J2 0 0 9 v) := fun v => Fm.sI (by decide) (by omega) (by omega) rfl
  have lfcl : ∀ k i s : Nat, FLf k i s → FCl k i s := fun k i s z => by unfold FLf FG at z; unfold FCl; omega
  unfold ldS
  show Tr _ (fun _ J => SC J (match setP bs with
    | some g => (gBegin g (gTx g), [], fun _ => none, [], rp)
    | none => (g, ps, kp, [], rp)) ∧ Fm FCl I J)
  cases hc : setP bs with
  | none =>
    rw [hc] at ok
    obtain ⟨rfl, y, hy⟩ := ok
    rw [if_pos (by decide)]
    unfold f_PR_failure
    try dsimp only [ltI]
    rw [bnd_some]
    have hy2 : GC J2 1 y := hy.fm f2 (fun k i s z q => by unfold FG at z; omega)
    have f3 : Fm FLf I (sI J2 0 0 9 (J2 6 0 7)) := f12.trans ((f0 _).mono (fun a b c z => by unfold FLf; omega))
    refine tr_ret ⟨h.lf f3 ⟨y, hy2.fm (f0 _) (fun k i s z q => by unfold FG at z; omega)⟩ (bfc_0 ?_), f3.mono lfcl⟩
    rw [sI_ne (by omega)]
    exact a61
  | some u =>
    rw [hc] at ok
    obtain ⟨rfl, hy, hW⟩ := ok
    rw [if_neg (by decide)]
    have hy2 : GC J2 1 u := hy.fm f2 (fun k i s z q => by unfold FG at z; omega)
    have hS2 : SC J2 (g, ps, kp, [], rp) := h.lf f12 ⟨u, hy2⟩ (bfc_0 a61)
    have f3 := f0 (-1)
    have hy3 : GC (sI J2 0 0 9 (-1)) 1 u := hy2.fm f3 (fun k i s z q => by unfold FG at z; omega)
    generalize sI J2 0 0 9 (-1) = J3 at f3 hy3
    refine tr_call (t_unfoldP hy3 hW.1) ?_
    rintro _ J4 ⟨hT4, f4⟩
    refine tr_call (t_beginWith hT4 (hy3.fsv f4)) ?_
    rintro _ J5 ⟨hy5, f5⟩
    have f25 : Fm FLs J2 J5 := (f3.mono (fun a b c z => by unfold FLs; omega)).trans ((f4.mono (fun a b c z => by unfold FSV at z; unfold FLs; omega)).trans (f5.mono (fun a b c z => Or.inr (Or.inl z))))
    have hg5 : GC J5 0 g := hS2.1.fm ((f3.mono (fun a b c z => ⟨by omega, Or.inl z⟩)).trans ((f4.mono (fun a b c z => ⟨by omega, z.elim (fun y => Or.inr (Or.inl y)) (fun y => Or.inr (Or.inr (Or.inl y)))⟩)).trans (f5.mono (fun a b c z => ⟨by unfold FG at z; omega, Or.inr (Or.inr (Or.inr z))⟩))) : Fm (fun k i s => k ≠ 26 ∧ (k = 0 ∨ k = 5 ∨ k = 18 ∨ FG 1 k i s)) J2 J5) (fun k i s z q => by unfold FG at z q; omega)
    refine tr_call (t_gtakeFrom (t := 0) (a := 1) hg5 hy5 (by decide)) ?_
    rintro _ J6 ⟨hg6, f6⟩
    have hy6 : GC J6 1 (gBegin u (gTx u)) := hy5.fm f6 (fun k i s z q => by unfold FG at z q; omega)
    unfold f_His_forgetPast
    try dsimp only [ltI]
    rw [bnd_some]
    have f7 : Fm (fun k _ s => k = 9 ∧ s = 4) J6 (sI J6 9 0 4 0) := Fm.sI (by decide) (by omega) (by omega) ⟨rfl, rfl⟩
    have a94 : (sI J6 9 0 4 0) 9 0 4 = 0 := sI_self _ _ _ _ _
    generalize sI J6 9 0 4 0 = J7 at f7 a94
    unfold f_His_forgetSaved
    refine tr_call (P := fun _ K => (∀ j : Nat, j < 2 → K 24 0 j = 0) ∧ Fm (fun k _ _ => k = 24) J7 K) (tr_call (tr_cnt (fun j => (j : Int)) (fun n K => (∀ j : Nat, j < n → K 24 0 j = 0) ∧ Fm (fun k _ _ => k = 24) J7 K) 2 rfl ⟨fun j hj => absurd hj (by omega), Fm.refl _ _⟩ ?_ ?_) (fun _ _ q => tr_ret q)) ?_
    · rintro n K hn ⟨b1, f⟩
      unfold f_His_forgetSaved_w2
      rw [w32_of (x := (n : Int)) (by omega) (by omega), if_pos (by omega), if_pos (by omega), Int.toNat_natCast]
      try dsimp only [ltI]
      refine tr_ret ⟨rfl, fun j hj => ?_, f.trans (Fm.sI (by decide) (by omega) (by omega) rfl)⟩
      by_cases q : j = n
      · rw [q, sI_self]
      · rw [sI_ne (by omega)]; exact b1 j (by omega)
    · rintro K ⟨b1, f⟩
      unfold f_His_forgetSaved_w2
      rw [if_neg (by decide)]
      exact tr_ret ⟨b1, f⟩
    · rintro _ J8 ⟨a24, f8⟩
      have f78 : Fm (fun k _ s => (k = 9 ∧ s = 4) ∨ k = 24) J6 J8 := (f7.mono (fun a b c z => Or.inl z)).trans (f8.mono (fun a b c z => Or.inr z))
      have hg8 : GC J8 0 (gBegin u (gTx u)) := hg6.fm f78 (fun k i s z q => by unfold FG at z; omega)
      have hy8 : GC J8 1 (gBegin u (gTx u)) := hy6.fm f78 (fun k i s z q => by unfold FG at z; omega)
      have f28 : Fm FLs J2 J8 := f25.trans ((f6.mono (fun a b c z => Or.inl z)).trans (f78.mono (fun a b c z => z.elim (fun y => Or.inr (Or.inr (Or.inr (Or.inr (Or.inl y))))) (fun y => Or.inr (Or.inr (Or.inr (Or.inr (Or.inr (Or.inl y)))))))))
      have h94 : J8 9 0 4 = 0 := by rw [f8.at (by decide) (by omega)]; exact a94
      rw [g_textLength hg8 (fun i hi => hW.wf.sy hi), bnd_some]
      refine tr_ret ⟨hS2.ls f28 hg8 ⟨_, hy8⟩ h94 a24, (f12.mono lfcl).trans (f28.mono (fun a b c z => by unfold FLs FG at z; unfold FCl; omega))⟩
theorem bfm_0 (h : J 26 0 20 = 0) : BfM J [] := ⟨h, fun j hj => absurd hj (Nat.not_lt_zero j)⟩
theorem t_mended (h : ERR I ∨ I 26 0 25 = 0) : Tr (f_M_ended I) (fun x K => x = (if I 26 0 25 = 0 then 0 else -10 - I 26 0 25) ∧ K 26 0 20 = 0 ∧ Fm (fun k i s => k = 26 ∧ i = 0 ∧ (s = 20 ∨ s = 27)) I K) := by
  have key : ∀ v : Int, Tr (f_M_ended_j21 v (sI I 26 0 20 0)) (fun x K => x = (if I 26 0 25 = 0 then 0 else -10 - I 26 0 25) ∧ K 26 0 20 = 0 ∧ Fm (fun k i s => k = 26 ∧ i = 0 ∧ (s = 20 ∨ s = 27)) I K) := fun v => by
    unfold f_M_ended_j21
    try dsimp only [ltI]
    have e25 : (sI (sI I 26 0 20 0) 26 0 27 v) 26 0 25 = I 26 0 25 := by rw [sI_ne (by omega), sI_ne (by omega)]
    have f : Fm (fun k i s => k = 26 ∧ i = 0 ∧ (s = 20 ∨ s = 27)) I (sI (sI I 26 0 20 0) 26 0 27 v) := (Fm.sI (by decide) (by omega) (by omega) ⟨rfl, rfl, Or.inl rfl⟩).trans (Fm.sI (by decide) (by omega) (by omega) ⟨rfl, rfl, Or.inr rfl⟩)
    have e20 : (sI (sI I 26 0 20 0) 26 0 27 v) 26 0 20 = 0 := by rw [sI_ne (by omega), sI_self]
    rw [e25]
    by_cases q : I 26 0 25 = 0
    · rw [if_pos q, q, if_pos (by decide)]
      exact tr_ret ⟨rfl, e20, f⟩
    · rw [if_neg q, if_neg (h.resolve_right q).ne]
      exact tr_ret ⟨rfl, e20, f⟩
  unfold f_M_ended
  try dsimp only [ltI]
  by_cases q : w32 ((sI I 26 0 20 0) 26 0 25) = 0
  · rw [if_pos q]; exact key _
  · rw [if_neg q]; exact key _
theorem t_masideG (h : GW J g) : Tr (f_M_aside J) (fun _ K => GW K g ∧ GB K 1 0 g ∧ Fm (fun k i _ => k = 27 ∧ i = 1) J K) := by
  unfold f_M_aside
  refine tr_call (t_mlays (k := 0) (b := 0) (k' := 1) (b' := 0) (I := J) (by decide) (by decide) (by decide) (by decide) (by decide) (by decide) (by decide)) ?_
  rintro _ K ⟨hc, f⟩
  refine tr_ret ⟨h.fm f (fun s _ z => absurd z.2.1 (by decide)), GWf.congr h (fun s hs => ?_), f.mono (fun a b c z => ⟨z.1, z.2.1⟩)⟩
  show K 27 1 (0 + s) = J 27 0 s
  rw [hc s hs, Nat.zero_add]
theorem t_mbackG (r : Int) (h : GB J 1 0 g) : Tr (f_M_back r J) (fun x K => x = r ∧ GW K g ∧ Fm (fun k i _ => k = 27 ∧ i = 0) J K) := by
  unfold f_M_back
  refine tr_call (t_mlays (k := 1) (b := 0) (k' := 0) (b' := 0) (I := J) (by decide) (by decide) (by decide) (by decide) (by decide) (by decide) (by decide)) ?_
  rintro _ K ⟨hc, f⟩
  exact tr_ret ⟨rfl, GB.copy hc h, f.mono (fun a b c z => ⟨z.1, z.2.1⟩)⟩
abbrev FLm : FP := fun k i s => (k = 27 ∧ i ≠ 3 ∧ i ≠ 4 ∧ i ≠ 14 ∧ i ≠ 22) ∨ (k = 26 ∧ s ≠ 6 ∧ s ≠ 43)
theorem fst_lm : ∀ k i s : Nat, FSt k i s → FLm k i s := fun k i s z => by unfold FSt FSm FRn FRq FW FMx FL FMC FW at z; unfold FLm; omega
theorem t_mload (h : SM J (g, ps, kp, bs, rp)) (hl : bs.length ≤ 600) (hr : ∀ b ∈ bs, 1 ≤ b ∧ b ≤ 255) : Tr (f_M_load J) (fun _ K => SM K (ldS (g, ps, kp, bs, rp)) ∧ Fm FMo J K) := by
  have s0 := h.t7 (v := 0)
  have f0 : Fm FLm J (sI J 26 0 7 0) := Fm.sI (by decide) (by omega) (by omega) (Or.inr ⟨rfl, by decide, by decide⟩)
  unfold f_M_load
  try dsimp only [ltI]
  generalize sI J 26 0 7 0 = J0 at s0 f0
  refine tr_call (t_masideG s0.1) ?_
  rintro _ J1 ⟨hG1, hB1, f1⟩
  have hb1 : BfM J1 bs := s0.2.2.2.1.fm f1 (by omega) (fun s => by omega)
  refine tr_call (t_msetup hl hr hb1) ?_
  rintro _ J2 ⟨ok, f2⟩
  have f12 : Fm FLm J0 J2 := (f1.mono (fun a b c z => by unfold FLm; omega)).trans (f2.mono fst_lm)
  have hB2 : GB J2 1 0 g := hB1.fm f2 (fun s _ _ => by unfold FSt FSm FRn FRq FW FMx FL FMC FW; omega)
  have lmmo : ∀ k i s : Nat, FLm k i s → FMo k i s := fun k i s z => by unfold FLm at z; unfold FMo; omega
  unfold ldS
  show Tr _ (fun _ K => SM K (match setP bs with
    | some g => (gBegin g (gTx g), [], fun _ => none, [], rp)
    | none => (g, ps, kp, [], rp)) ∧ Fm FMo J K)
  cases hc : setP bs with
  | none =>
    rw [hc] at ok
    have ok : ERR J2 := ok
    have ok2 := ok
    unfold ERR at ok2
    refine tr_call (t_mended (Or.inl ok)) ?_
    rintro x J3 ⟨rfl, e20, f3⟩
    rw [if_neg (show ¬ J2 26 0 25 = 0 by omega), w32_of (x := -10 - J2 26 0 25) (by omega) (by omega), if_pos (by omega)]
    refine tr_call (t_mbackG _ (hB2.fm f3 (fun s _ _ z => by omega))) ?_
    rintro x J4 ⟨rfl, hG4, f4⟩
    have f04 : Fm FLm J0 J4 := f12.trans ((f3.mono (fun a b c z => by unfold FLm; omega)).trans (f4.mono (fun a b c z => by unfold FLm; omega)))
    exact tr_ret ⟨⟨hG4, s0.2.1.fm f04 (fun z => by unfold FLm at z; omega) (fun s z => by unfold FLm at z; omega), s0.2.2.1.fm f04 (fun s z => by unfold FLm at z; omega) (fun s z => by unfold FLm at z; omega), bfm_0 (by rw [f4.at (by decide) (by omega)]; exact e20), s0.2.2.2.2.fm f04 (fun z => by unfold FLm at z; omega) (fun s z => by unfold FLm at z; omega)⟩, (f0.trans f04).mono lmmo⟩
  | some u =>
    rw [hc] at ok
    obtain ⟨e25, hG2, hW⟩ := ok
    refine tr_call (t_mended (Or.inr e25)) ?_
    rintro x J3 ⟨rfl, e20, f3⟩
    rw [if_pos e25, if_neg (by decide)]
    try dsimp only [ltI]
    have f03 : Fm FLm J0 J3 := f12.trans (f3.mono (fun a b c z => by unfold FLm; omega))
    have f4 : Fm (fun k i s => (k = 26 ∧ i = 0 ∧ s = 6) ∨ (k = 28 ∧ i = 0)) J3 (sI (sI (sI J3 26 0 6 0) 28 0 0 0) 28 0 1 0) := ((Fm.sI (by decide) (by omega) (by omega) (Or.inl ⟨rfl, rfl, rfl⟩)).trans (Fm.sI (by decide) (by omega) (by omega) (Or.inr ⟨rfl, rfl⟩))).trans (Fm.sI (by decide) (by omega) (by omega) (Or.inr ⟨rfl, rfl⟩))
    have a6 : (sI (sI (sI J3 26 0 6 0) 28 0 0 0) 28 0 1 0) 26 0 6 = 0 := by rw [sI_ne (by omega), sI_ne (by omega), sI_self]
    have a28 : ∀ j : Nat, j < 2 → (sI (sI (sI J3 26 0 6 0) 28 0 0 0) 28 0 1 0) 28 0 j = 0 := fun j hj => by
      rcases (show j = 0 ∨ j = 1 by omega) with rfl | rfl
      · rw [sI_ne (by omega), sI_self]
      · rw [sI_self]
    generalize sI (sI (sI J3 26 0 6 0) 28 0 0 0) 28 0 1 0 = J4 at f4 a6 a28
    have hG4 : GW J4 (gBegin u (gTx u)) := (hG2.fm f3 (fun s _ z => by omega)).fm f4 (fun s _ z => by omega)
    have fall : Fm (fun k i s => FLm k i s ∨ (k = 26 ∧ s = 6) ∨ k = 28) J0 J4 := (f03.mono (fun a b c z => Or.inl z)).trans (f4.mono (fun a b c z => by omega))
    exact tr_ret ⟨⟨hG4, ⟨Nat.zero_le _, a6, fun k hk => absurd hk (Nat.not_lt_zero k)⟩, fun j hj => a28 j hj, bfm_0 (by rw [f4.at (by decide) (by omega)]; exact e20), s0.2.2.2.2.fm fall (fun z => by unfold FLm at z; omega) (fun s z => by unfold FLm at z; omega)⟩, (f0.mono lmmo).trans (fall.mono (fun a b c z => by unfold FLm at z; unfold FMo; omega))⟩
theorem ldS_sw {s : SS} (h : SW s) (e : ∀ g : GS, setP s.2.2.2.1 = some g → TG g) : SW (ldS s) := by
  unfold ldS
  cases hc : setP s.2.2.2.1 with
  | none => exact ⟨h.1, h.2.1, h.2.2.1, ⟨Nat.zero_le _, fun b hb => absurd hb List.not_mem_nil⟩, h.2.2.2.2⟩
  | some g => exact ⟨(e g hc).wf, fun x hx => absurd hx List.not_mem_nil, fun j x hx => (nomatch hx), ⟨Nat.zero_le _, fun b hb => absurd hb List.not_mem_nil⟩, h.2.2.2.2⟩
theorem og_1 (h : SI I s) : OGT f_PR_load f_M_load I := by
  obtain ⟨g, ps, kp, bs, rp⟩ := s
  have hl : bs.length ≤ 600 := h.2.2.2.2.2.1.1
  have hr : ∀ b ∈ bs, 1 ≤ b ∧ b ≤ 255 := h.2.2.2.2.2.1.2
  refine og_T (s' := ldS (g, ps, kp, bs, rp)) h (ldS_sw h.2.2 (fun u hu => ?_)) (t_cload h.1 hl hr) (fun J sm => t_mload sm hl hr)
  obtain ⟨x1, hG1⟩ := h.1.2.1 1 (by decide)
  obtain ⟨x, K, -, ok, -⟩ := t_setRead hl hr h.1.2.2.2.2.2.1 hG1
  have hu : setP bs = some u := hu
  rw [hu] at ok
  exact ok.2.2
end LOAD
