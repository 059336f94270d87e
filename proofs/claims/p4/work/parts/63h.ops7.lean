/-! ===== calls one by one: load and play on nothing ===== -/
section OPS7
variable {I J : Mem} {g : GS}
abbrev FAd : FP := fun k _ s => k = 6 ∧ (s = 2 ∨ s = 3 ∨ s = 4)
theorem t_adv0 (h1 : J 6 0 1 = 0) (h4 : J 6 0 4 = 0) : Tr (f_Src_advance J) (fun _ K => K 6 0 2 = 0 ∧ K 6 0 3 = 0 ∧ Fm FAd J K) := by
  have s1 : f_Src_advance_w5 0 J = some (.inr 0, J) := by
    unfold f_Src_advance_w5
    rw [h1, if_neg (by decide)]
  unfold f_Src_advance
  rw [h4, whl_eq, s1]
  dsimp only
  rw [bnd_some]
  try dsimp only [ltI]
  have f1 : Fm FAd J (sI J 6 0 3 0) := Fm.sI (by decide) (by omega) (by omega) ⟨rfl, by decide⟩
  have e1 : (sI J 6 0 3 0) 6 0 1 = 0 := by rw [sI_ne (by decide), h1]
  have e3 : (sI J 6 0 3 0) 6 0 3 = 0 := sI_self _ _ _ _ _
  rw [e1, if_neg (by decide)]
  generalize sI J 6 0 3 0 = J1 at f1 e1 e3
  unfold f_Src_advance_j69
  try dsimp only [ltI]
  have f2 : Fm FAd J1 (sI J1 6 0 2 0) := Fm.sI (by decide) (by omega) (by omega) ⟨rfl, by decide⟩
  have e2 : (sI J1 6 0 2 0) 6 0 2 = 0 := sI_self _ _ _ _ _
  have e3 : (sI J1 6 0 2 0) 6 0 3 = 0 := by rw [sI_ne (by decide), e3]
  rw [e2, if_neg (by decide), if_neg (by decide)]
  generalize sI J1 6 0 2 0 = J2 at f2 e2 e3
  unfold f_Src_advance_j93
  rw [whl_eq]
  have s2 : ∀ x : Int, f_Src_advance_w109 0 x J2 = some (.inr x, J2) := fun x => by
    unfold f_Src_advance_w109
    rw [if_pos (by decide)]
  rw [s2]
  dsimp only
  rw [bnd_some]
  try dsimp only [ltI]
  exact tr_ret ⟨by rw [sI_ne (by decide), e2], by rw [sI_ne (by decide), e3], f1.trans (f2.trans (Fm.sI (by decide) (by omega) (by omega) ⟨rfl, by decide⟩))⟩
abbrev FRw : FP := fun k _ s => k = 6 ∧ s ≠ 1
theorem t_rew0 (h1 : J 6 0 1 = 0) : Tr (f_Src_rewind J) (fun _ K => K 6 0 2 = 0 ∧ K 6 0 3 = 0 ∧ Fm FRw J K) := by
  unfold f_Src_rewind
  try dsimp only [ltI]
  have f1 : Fm FRw J (sI (sI (sI J 6 0 4 0) 6 0 6 0) 6 0 7 (-1)) := ((Fm.sI (by decide) (by omega) (by omega) ⟨rfl, by decide⟩).trans (Fm.sI (by decide) (by omega) (by omega) ⟨rfl, by decide⟩)).trans (Fm.sI (by decide) (by omega) (by omega) ⟨rfl, by decide⟩)
  refine tr_call (t_adv0 (by rw [f1.at (by decide) (by decide), h1]) (by rw [sI_ne (by decide), sI_ne (by decide), sI_self])) ?_
  rintro _ K ⟨e2, e3, f2⟩
  exact tr_ret ⟨e2, e3, f1.trans (f2.mono (fun a b c z => by unfold FAd at z; unfold FRw; omega))⟩
abbrev FRm : FP := fun k i s => FG 2 k i s ∨ k = 9
theorem t_rem {g2 : GS} (gc0 : GC J 0 gF) (gc2 : GC J 2 g2) (pt : PTi J) (e3 : J 9 0 3 = 0) : Tr (f_His_remember 0 J) (fun _ K => GC K 0 gF ∧ GC K 2 gF ∧ PTi K ∧ Fm FRm J K) := by
  unfold f_His_remember
  rw [if_pos (by decide), e3, if_pos (by decide)]
  refine tr_call (t_gtakeFrom (t := 2) (a := 0) gc2 gc0 (by decide)) ?_
  rintro _ K ⟨gc2, f⟩
  have gc0 : GC K 0 gF := gc0.fm f (fun k i s z q => by unfold FG at z q; omega)
  have pt : PTi K := pt.fgu (f.mono (fun _ _ _ => Or.inl))
  have e3' : K 9 0 3 = 0 := (f.at (by decide) (by unfold FG; omega)).trans e3
  have f9 : ∀ v w : Int, Fm (fun k _ _ => k = 9) K (sI (sI K 9 0 3 v) 9 0 4 w) := fun v w => (Fm.sI (by decide) (by omega) (by omega) rfl).trans (Fm.sI (by decide) (by omega) (by omega) rfl)
  rw [e3', if_pos (by decide)]
  unfold f_His_remember_j35
  try dsimp only [ltI]
  obtain ⟨c, kf, pl, hp⟩ := pt
  exact tr_ret ⟨gc0.fm (f9 _ _) (fun k i s z q => by unfold FG at z; omega), gc2.fm (f9 _ _) (fun k i s z q => by unfold FG at z; omega), ⟨c, kf, pl, hp.fm (f9 _ _) (fun i s => ⟨fun z => absurd z (by decide), fun z => absurd z (by decide)⟩)⟩, (f.mono (fun a b c z => Or.inl z)).trans ((f9 _ _).mono (fun a b c z => Or.inr z))⟩
abbrev FScr : FP := fun k _ s => (k = 6 ∧ s ≠ 1) ∨ k = 8
theorem t_sread (h1 : I 6 0 1 = 0) : Tr (f_Scr_read I) (fun x K => x = 1 ∧ K 8 0 8 = 0 ∧ Fm FScr I K) := by
  unfold f_Scr_read
  try dsimp only [ltI]
  have f1 : Fm FScr I (sI (sI (sI I 8 0 8 0) 8 0 9 0) 8 0 10 0) := ((Fm.sI (by decide) (by omega) (by omega) (Or.inr rfl)).trans (Fm.sI (by decide) (by omega) (by omega) (Or.inr rfl))).trans (Fm.sI (by decide) (by omega) (by omega) (Or.inr rfl))
  have e8 : (sI (sI (sI I 8 0 8 0) 8 0 9 0) 8 0 10 0) 8 0 8 = 0 := by rw [sI_ne (by decide), sI_ne (by decide), sI_self]
  have e10 : (sI (sI (sI I 8 0 8 0) 8 0 9 0) 8 0 10 0) 8 0 10 = 0 := sI_self _ _ _ _ _
  generalize sI (sI (sI I 8 0 8 0) 8 0 9 0) 8 0 10 0 = J at f1 e8 e10
  refine tr_call (t_rew0 (by rw [f1.at (by decide) (by decide), h1])) ?_
  rintro _ K ⟨e2, e3, f2⟩
  have e8 : K 8 0 8 = 0 := (f2.at (by decide) (by decide)).trans e8
  have e10 : K 8 0 10 = 0 := (f2.at (by decide) (by decide)).trans e10
  rw [whl_eq]
  have s : f_Scr_read_w24 0 K = some (.inr 1, K) := by
    have ei : f_Src_is 0 K = some (1, K) := by
      unfold f_Src_is
      rw [e2, if_pos rfl]
    unfold f_Scr_read_w24
    rw [if_neg (by decide), e10, if_pos (by decide), ei, bnd_some, if_neg (by decide)]
  rw [s]
  exact tr_ret ⟨rfl, e8, f1.trans (f2.mono (fun a b c z => Or.inl z))⟩
abbrev FMd : FP := fun k _ s => k = 26 ∧ (s = 21 ∨ s = 23 ∨ s = 24)
theorem t_madv0 (h20 : J 26 0 20 = 0) (h22 : J 26 0 22 = 0) : Tr (f_M_advance J) (fun _ K => K 26 0 23 = 0 ∧ K 26 0 21 = 0 ∧ Fm FMd J K) := by
  have eb : f_M_byteAt 0 J = some (-1, J) := by
    unfold f_M_byteAt
    rw [h20, if_neg (by decide)]
  have s1 : f_M_advance_w0 () J = some (.inr (), J) := by
    unfold f_M_advance_w0
    rw [h22, eb, bnd_some, if_neg (by decide), h22, eb, bnd_some, if_neg (by decide)]
  unfold f_M_advance
  rw [whl_eq, s1]
  dsimp only
  rw [bnd_some, h22]
  try dsimp only [ltI]
  have f1 : Fm FMd J (sI (sI J 26 0 21 0) 26 0 24 0) := (Fm.sI (by decide) (by omega) (by omega) ⟨rfl, by decide⟩).trans (Fm.sI (by decide) (by omega) (by omega) ⟨rfl, by decide⟩)
  have e21 : (sI (sI J 26 0 21 0) 26 0 24 0) 26 0 21 = 0 := by rw [sI_ne (by decide), sI_self]
  have e20 : (sI (sI J 26 0 21 0) 26 0 24 0) 26 0 20 = 0 := (f1.at (by decide) (by decide)).trans h20
  rw [e21, e20, if_pos rfl]
  exact tr_ret ⟨sI_self _ _ _ _ _, by rw [sI_ne (by decide), e21], f1.trans (Fm.sI (by decide) (by omega) (by omega) ⟨rfl, by decide⟩)⟩
abbrev FRb : FP := fun k i s => (k = 27 ∧ i = 3) ∨ (k = 26 ∧ s = 6)
theorem t_remb' {k : Nat} (hk : k < 3) (h6 : J 26 0 6 = 0) : Tr (f_M_remembers k J) (fun _ K => Fm FRb J K) := by
  unfold f_M_remembers
  rw [if_pos (by omega), h6, if_neg (by decide)]
  unfold f_M_remembers_j50
  rw [h6, show (16860 : Int) * 0 = ((0 : Nat) : Int) from rfl]
  refine tr_call (t_mlays (k := k) (b := 0) (k' := 3) (b' := 0) (I := J) (by omega) (by decide) (by unfold mLen; rw [if_pos hk]; exact Nat.le_refl _) (by decide) (by unfold mLen; rw [if_pos hk]; decide) (by decide) (by omega)) ?_
  rintro _ K ⟨-, f⟩
  try dsimp only [ltI]
  exact tr_ret ((f.mono (fun a b c z => Or.inl ⟨z.1, z.2.1⟩)).trans (Fm.sI (by decide) (by omega) (by omega) (Or.inr ⟨rfl, rfl⟩)))
abbrev FMs : FP := fun k _ s => k = 26 ∧ s ≠ 7 ∧ s ≠ 6
theorem m_faulty0 {w : Int} (h : J 26 0 25 = 0) : f_M_faulty 0 w J = some (0, J) := by
  unfold f_M_faulty f_M_faulty_j24
  rw [h, if_pos (by decide), if_pos (by decide), if_pos (by decide)]
theorem ok_2 (hI : FS I) : ∃ (r1 r2 : Int) (J K : Mem), f_PR_play I = some (r1, J) ∧ f_M_play J = some (r2, K) ∧ w32 r1 = w32 r2 ∧ dC I K ≤ 210600 ∧ dS I K ≤ 631700 := by
  refine ok_I (u := 0) ?_ (fun J cp => m7_I ?_)
  · have e6 : I 6 0 1 = 0 := (hI.at (by decide) (by decide)).trans rfl
    have e9 : I 9 0 3 = 0 := (hI.at (by decide) (by decide)).trans rfl
    unfold f_PR_play
    refine tr_call (t_sread e6) ?_
    rintro _ J1 ⟨rfl, e8, f1⟩
    rw [if_neg (by decide)]
    try dsimp only [ltI]
    have f2 : Fm (fun k _ _ => k = 0) J1 (sI J1 0 0 9 (-1)) := Fm.sI (by decide) (by omega) (by omega) rfl
    have f12 : Fm (fun k _ s => (k = 6 ∧ s ≠ 1) ∨ k = 8 ∨ k = 0) I (sI J1 0 0 9 (-1)) := (f1.mono (fun a b c z => by unfold FScr at z; omega)).trans (f2.mono (fun a b c z => Or.inr (Or.inr z)))
    have e8 : (sI J1 0 0 9 (-1)) 8 0 8 = 0 := by rw [sI_ne (by decide), e8]
    generalize sI J1 0 0 9 (-1) = J2 at f12 e8
    obtain ⟨c, kf, pl, hp⟩ := hI.2.1
    refine tr_call (t_rem (hI.1.fm f12 (fun k i s z q => by unfold FG at z; omega)) ((hI.g (t := 2) (by decide) (by decide)).fm f12 (fun k i s z q => by unfold FG at z; omega)) ⟨c, kf, pl, hp.fm f12 (fun i s => ⟨fun z => by omega, fun z => by omega⟩)⟩ ((f12.at (by decide) (by omega)).trans e9)) ?_
    rintro _ J3 ⟨gc0, gc2, -, f3⟩
    have e8 : J3 8 0 8 = 0 := (f3.at (by decide) (by unfold FRm FG; omega)).trans e8
    have eo : f_Scr_firstOrder J3 = some (-1, J3) := by
      have ee : f_Scr_isEntry 0 J3 = some (0, J3) := by
        unfold f_Scr_isEntry
        rw [if_neg (by decide), e8, if_neg (by decide)]
      have es : f_Scr_orderFrom_w4 (0, 0) J3 = some (.inr (-1), J3) := by
        unfold f_Scr_orderFrom_w4
        rw [if_pos (by decide), ee, bnd_some, if_pos (by decide)]
      unfold f_Scr_firstOrder f_Scr_orderFrom
      rw [whl_eq, es]
      rfl
    have ew : f_PR_play_w50 (0, -1) J3 = some (.inr 0, J3) := by
      unfold f_PR_play_w50
      rw [if_pos (by decide), if_pos (by decide)]
    rw [eo, bnd_some, whl_eq, ew]
    dsimp only
    rw [bnd_some]
    unfold f_Src_dropAll
    try dsimp only [ltI]
    rw [bnd_some]
    have f4 : Fm (fun k _ _ => k = 6) J3 (sI J3 6 0 1 0) := Fm.sI (by decide) (by omega) (by omega) rfl
    refine tr_ret ⟨by decide, CP_x hI ((f12.mono (fun a b c z => Or.inr (Or.inr (by omega)))).trans ((f3.mono (fun a b c z => ?_)).trans (f4.mono (fun a b c z => Or.inr (Or.inr (by omega)))))) (gc0.fm f4 (fun k i s z q => by unfold FG at z; omega)) (gc2.fm f4 (fun k i s z q => by unfold FG at z; omega))⟩
    rcases z with z | z
    · exact fx_h _ _ _ z
    · exact Or.inr (Or.inr (by omega))
  · have ez : ∀ s : Nat, s ≠ 7 → s ≠ 27 → (sI J 26 0 7 0) 26 0 s = 0 := fun s h7 h27 => by
      rw [sI_ne (by omega), cp.1 26 0 s (by decide) (by decide), hI.at (by decide) (by decide)]
      exact if_neg h27
    have e20 := ez 20 (by decide) (by decide)
    have e6 := ez 6 (by decide) (by decide)
    unfold f_M_play
    try dsimp only [ltI]
    generalize sI J 26 0 7 0 = J0 at e20 e6
    have hs : Tr (f_M_script J0) (fun _ K => K 26 0 25 = 0 ∧ K 26 0 38 = 0 ∧ Fm FMs J0 K) := by
      unfold f_M_script
      try dsimp only [ltI]
      have f1 : Fm FMs J0 (sI (sI (sI (sI (sI J0 26 0 22 0) 26 0 25 0) 26 0 38 0) 26 0 39 0) 26 0 40 0) := (((((Fm.sI (by decide) (by omega) (by omega) ⟨rfl, by decide, by decide⟩).trans (Fm.sI (by decide) (by omega) (by omega) ⟨rfl, by decide, by decide⟩)).trans (Fm.sI (by decide) (by omega) (by omega) ⟨rfl, by decide, by decide⟩)).trans (Fm.sI (by decide) (by omega) (by omega) ⟨rfl, by decide, by decide⟩)).trans (Fm.sI (by decide) (by omega) (by omega) ⟨rfl, by decide, by decide⟩))
      have c22 : (sI (sI (sI (sI (sI J0 26 0 22 0) 26 0 25 0) 26 0 38 0) 26 0 39 0) 26 0 40 0) 26 0 22 = 0 := by rw [sI_ne (by decide), sI_ne (by decide), sI_ne (by decide), sI_ne (by decide), sI_self]
      have c25 : (sI (sI (sI (sI (sI J0 26 0 22 0) 26 0 25 0) 26 0 38 0) 26 0 39 0) 26 0 40 0) 26 0 25 = 0 := by rw [sI_ne (by decide), sI_ne (by decide), sI_ne (by decide), sI_self]
      have c38 : (sI (sI (sI (sI (sI J0 26 0 22 0) 26 0 25 0) 26 0 38 0) 26 0 39 0) 26 0 40 0) 26 0 38 = 0 := by rw [sI_ne (by decide), sI_ne (by decide), sI_self]
      have c40 : (sI (sI (sI (sI (sI J0 26 0 22 0) 26 0 25 0) 26 0 38 0) 26 0 39 0) 26 0 40 0) 26 0 40 = 0 := sI_self _ _ _ _ _
      have c20 : (sI (sI (sI (sI (sI J0 26 0 22 0) 26 0 25 0) 26 0 38 0) 26 0 39 0) 26 0 40 0) 26 0 20 = 0 := by rw [sI_ne (by decide), sI_ne (by decide), sI_ne (by decide), sI_ne (by decide), sI_ne (by decide), e20]
      generalize sI (sI (sI (sI (sI J0 26 0 22 0) 26 0 25 0) 26 0 38 0) 26 0 39 0) 26 0 40 0 = J1 at f1 c22 c25 c38 c40 c20
      refine tr_call (t_madv0 c20 c22) ?_
      rintro _ K ⟨d23, d21, f2⟩
      have d25 : K 26 0 25 = 0 := (f2.at (by decide) (by decide)).trans c25
      have d38 : K 26 0 38 = 0 := (f2.at (by decide) (by decide)).trans c38
      have d40 : K 26 0 40 = 0 := (f2.at (by decide) (by decide)).trans c40
      have es : f_M_script_w29 () K = some (.inr (), K) := by
        unfold f_M_script_w29
        rw [d25, if_pos (by decide), d23, if_pos (by decide)]
      rw [whl_eq, es]
      dsimp only
      rw [bnd_some, d40, if_neg (by decide), m_faulty0 d25, bnd_some, if_pos (Or.inl rfl)]
      try dsimp only [ltI]
      exact tr_ret ⟨by rw [sI_ne (by decide), d25], by rw [sI_ne (by decide), d38], f1.trans ((f2.mono (fun a b c z => by unfold FMd at z; unfold FMs; omega)).trans (Fm.sI (by decide) (by omega) (by omega) ⟨rfl, by decide, by decide⟩))⟩
    refine tr_call hs ?_
    rintro _ K1 ⟨c25, c38, f1⟩
    have he : Tr (f_M_ended K1) (fun x K => x = 0 ∧ K 26 0 38 = 0 ∧ Fm FMs K1 K) := by
      unfold f_M_ended
      try dsimp only [ltI]
      rw [sI_ne (by decide), c25, if_pos (by decide)]
      unfold f_M_ended_j21
      try dsimp only [ltI]
      rw [sI_ne (by decide), sI_ne (by decide), c25, if_pos (by decide)]
      exact tr_ret ⟨rfl, by rw [sI_ne (by decide), sI_ne (by decide), c38], (Fm.sI (by decide) (by omega) (by omega) ⟨rfl, by decide, by decide⟩).trans (Fm.sI (by decide) (by omega) (by omega) ⟨rfl, by decide, by decide⟩)⟩
    refine tr_call he ?_
    rintro _ K2 ⟨rfl, c38, f2⟩
    rw [if_neg (by decide)]
    have f12 := f1.trans f2
    refine tr_call (t_remb' (k := 0) (by decide) ((f12.at (by decide) (by decide)).trans e6)) ?_
    rintro _ K3 f3
    have c38 : K3 26 0 38 = 0 := (f3.at (by decide) (by decide)).trans c38
    have ep : f_M_plays K3 = some (0, K3) := by
      have es : f_M_plays_w6 (0, 0, 0) K3 = some (.inr 0, K3) := by
        unfold f_M_plays_w6
        rw [c38, if_neg (by decide)]
      unfold f_M_plays
      rw [whl_eq, es]
    rw [ep, bnd_some]
    exact tr_ret ⟨by decide, (f12.mono (fun a b c z => by unfold FMs at z; unfold FM7; omega)).trans (f3.mono (fun a b c z => by unfold FRb at z; unfold FM7; omega))⟩
theorem ok_1 (hI : FS I) : ∃ (r1 r2 : Int) (J K : Mem), f_PR_load I = some (r1, J) ∧ f_M_load J = some (r2, K) ∧ w32 r1 = w32 r2 ∧ dC I K ≤ 210600 ∧ dS I K ≤ 631700 := by
  refine ok_I (u := -11) ?_ (fun J cp => m7_I ?_)
  · have e6 : I 6 0 1 = 0 := (hI.at (by decide) (by decide)).trans rfl
    have hr : Tr (f_Set_read I) (fun x J => x = 0 ∧ J 6 0 6 = 1 ∧ GC J 1 g0 ∧ Fm (FX 1 1) I J) := by
      unfold f_Set_read
      refine tr_call (t_gclear (hI.g (t := 1) (by decide) (by decide))) ?_
      rintro _ J1 ⟨gc, f1⟩
      try dsimp only [ltI]
      have f2 : Fm (fun k _ _ => k = 7) J1 (sI (sI (sI (sI J1 7 0 2 0) 7 0 4 0) 7 0 5 0) 7 0 6 0) := (((Fm.sI (by decide) (by omega) (by omega) rfl).trans (Fm.sI (by decide) (by omega) (by omega) rfl)).trans (Fm.sI (by decide) (by omega) (by omega) rfl)).trans (Fm.sI (by decide) (by omega) (by omega) rfl)
      generalize sI (sI (sI (sI J1 7 0 2 0) 7 0 4 0) 7 0 5 0) 7 0 6 0 = J2 at f2
      have e6 : J2 6 0 1 = 0 := (f2.at (by decide) (by decide)).trans ((f1.at (by decide) (by unfold FG; omega)).trans e6)
      refine tr_call (t_rew0 e6) ?_
      rintro _ J3 ⟨e2, e3, f3⟩
      have ew : f_Src_word J3 = some (14, J3) := by
        unfold f_Src_word
        rw [e2, if_neg (by decide)]
      have er : f_Set_readRules J3 = some (1, J3) := by
        have es : f_Set_readRules_w2 0 J3 = some (.inr 1, J3) := by
          unfold f_Set_readRules_w2
          rw [if_neg (by decide), ew, bnd_some, if_pos (by decide), if_neg (by decide)]
        unfold f_Set_readRules
        rw [whl_eq, es]
      obtain ⟨J4, et, e66, f4⟩ : ∃ J4 : Mem, f_Set_readStart J3 = some (0, J4) ∧ J4 6 0 6 = 1 ∧ Fm (fun k _ _ => k = 6) J3 J4 := by
        refine ⟨sI (sI J3 6 0 6 1) 6 0 7 0, ?_, by rw [sI_ne (by decide), sI_self], (Fm.sI (by decide) (by omega) (by omega) rfl).trans (Fm.sI (by decide) (by omega) (by omega) rfl)⟩
        unfold f_Set_readStart f_Src_fail f_Src_failAt
        rw [ew, bnd_some, if_pos (by decide), if_neg (by decide), e3]
        rfl
      rw [er, bnd_some, if_neg (by decide), et, bnd_some, if_pos (by decide)]
      have ff : Fm (fun k _ _ => k = 7 ∨ k = 6) J1 J4 := (f2.mono (fun a b c z => Or.inl z)).trans ((f3.mono (fun a b c z => Or.inr z.1)).trans (f4.mono (fun a b c z => Or.inr z)))
      exact tr_ret ⟨rfl, e66, gc.fm ff (fun k i s z q => by unfold FG at z; omega), (f1.mono fx_g).trans (ff.mono (fun a b c z => Or.inr (Or.inr (by omega))))⟩
    unfold f_PR_load
    refine tr_call hr ?_
    rintro _ J1 ⟨rfl, e66, gc, f1⟩
    unfold f_Src_dropAll f_PR_failure
    try dsimp only [ltI]
    rw [bnd_some, if_pos (by decide), sI_ne (by decide), sI_ne (by decide), sI_ne (by decide), e66]
    have f2 : ∀ v : Int, Fm (fun k _ _ => k = 6 ∨ k = 0) J1 (sI (sI J1 6 0 1 0) 0 0 9 v) := fun v => (Fm.sI (by decide) (by omega) (by omega) (Or.inl rfl)).trans (Fm.sI (by decide) (by omega) (by omega) (Or.inr rfl))
    have gc2 := fun v : Int => gc.fm (f2 v) (fun k i s z q => by unfold FG at z; omega)
    exact tr_ret ⟨by decide, CP_x hI (f1.trans ((f2 _).mono (fun a b c z => Or.inr (Or.inr (by omega))))) (gc2 _) (gc2 _)⟩
  · have ez : ∀ s : Nat, s ≠ 7 → s ≠ 27 → (sI J 26 0 7 0) 26 0 s = 0 := fun s h7 h27 => by
      rw [sI_ne (by omega), cp.1 26 0 s (by decide) (by decide), hI.at (by decide) (by decide)]
      exact if_neg h27
    have e20 := ez 20 (by decide) (by decide)
    unfold f_M_load
    try dsimp only [ltI]
    generalize sI J 26 0 7 0 = J0 at e20
    refine tr_call (P := fun _ K => Fm (fun k _ _ => k = 27) J0 K) ?_ ?_
    · unfold f_M_aside
      refine tr_call (t_mlays (k := 0) (b := 0) (k' := 1) (b' := 0) (I := J0) (by decide) (by decide) (by decide) (by decide) (by decide) (by decide) (by decide)) ?_
      rintro _ K ⟨-, f⟩
      exact tr_ret (f.mono (fun a b c z => z.1))
    rintro _ K1 f1
    have e20 : K1 26 0 20 = 0 := (f1.at (by decide) (by decide)).trans e20
    have hs : Tr (f_M_setup K1) (fun _ K => K 26 0 25 = 1 ∧ K 26 0 26 = 0 ∧ Fm FM7 K1 K) := by
      unfold f_M_setup
      try dsimp only [ltI]
      have f2 : Fm FM7 K1 (sI (sI (sI (sI K1 26 0 22 0) 26 0 25 0) 26 0 28 0) 26 0 30 0) := (((Fm.sI (by decide) (by omega) (by omega) (Or.inr (Or.inr ⟨rfl, by decide⟩))).trans (Fm.sI (by decide) (by omega) (by omega) (Or.inr (Or.inr ⟨rfl, by decide⟩)))).trans (Fm.sI (by decide) (by omega) (by omega) (Or.inr (Or.inr ⟨rfl, by decide⟩)))).trans (Fm.sI (by decide) (by omega) (by omega) (Or.inr (Or.inr ⟨rfl, by decide⟩)))
      have c22 : (sI (sI (sI (sI K1 26 0 22 0) 26 0 25 0) 26 0 28 0) 26 0 30 0) 26 0 22 = 0 := by rw [sI_ne (by decide), sI_ne (by decide), sI_ne (by decide), sI_self]
      have c25 : (sI (sI (sI (sI K1 26 0 22 0) 26 0 25 0) 26 0 28 0) 26 0 30 0) 26 0 25 = 0 := by rw [sI_ne (by decide), sI_ne (by decide), sI_self]
      have c20 : (sI (sI (sI (sI K1 26 0 22 0) 26 0 25 0) 26 0 28 0) 26 0 30 0) 26 0 20 = 0 := by rw [sI_ne (by decide), sI_ne (by decide), sI_ne (by decide), sI_ne (by decide), e20]
      generalize sI (sI (sI (sI K1 26 0 22 0) 26 0 25 0) 26 0 28 0) 26 0 30 0 = J1 at f2 c22 c25 c20
      refine tr_call t_begins ?_
      rintro _ J2 ⟨-, f3⟩
      have c22 : J2 26 0 22 = 0 := (f3.at (by decide) (by decide)).trans c22
      have c25 : J2 26 0 25 = 0 := (f3.at (by decide) (by decide)).trans c25
      have c20 : J2 26 0 20 = 0 := (f3.at (by decide) (by decide)).trans c20
      refine tr_call (t_madv0 c20 c22) ?_
      rintro _ J3 ⟨d23, d21, f4⟩
      have d25 : J3 26 0 25 = 0 := (f4.at (by decide) (by decide)).trans c25
      have ek : ∀ q : Nat, q < 15 → f_M_isKey q J3 = some (0, J3) := fun q hq => by
        unfold f_M_isKey
        rw [if_pos hq, d25, if_pos (by decide), d23, if_neg (by decide)]
      have es : f_M_setup_w28 () J3 = some (.inr (), J3) := by
        unfold f_M_setup_w28
        rw [ek 0 (by decide), bnd_some, if_pos (by decide)]
      have ef : f_M_faulty 1 1 J3 = some (1, sI (sI J3 26 0 25 1) 26 0 26 0) := by
        unfold f_M_faulty f_M_faulty_j24
        try dsimp only [ltI]
        rw [d25, if_pos (by decide), if_neg (by decide), sI_ne (by decide), sI_self, if_neg (by decide), sI_ne (by decide), d21]
      rw [whl_eq, es]
      dsimp only
      rw [bnd_some, d25, if_pos (by decide), ek 1 (by decide), bnd_some, if_pos (by decide), ef, bnd_some, if_neg (by decide)]
      exact tr_ret ⟨by rw [sI_ne (by decide), sI_self], sI_self _ _ _ _ _, f2.trans ((f3.mono f7_w).trans ((f4.mono (fun a b c z => by unfold FMd at z; unfold FM7; omega)).trans ((Fm.sI (by decide) (by omega) (by omega) (Or.inr (Or.inr ⟨rfl, by decide⟩))).trans (Fm.sI (by decide) (by omega) (by omega) (Or.inr (Or.inr ⟨rfl, by decide⟩))))))⟩
    refine tr_call hs ?_
    rintro _ K2 ⟨c25, c26, f2⟩
    have he : Tr (f_M_ended K2) (fun x K => x = -11 ∧ Fm FM7 K2 K) := by
      unfold f_M_ended
      try dsimp only [ltI]
      rw [sI_ne (by decide), c25, if_neg (by decide)]
      unfold f_M_ended_j21
      try dsimp only [ltI]
      rw [sI_ne (by decide), sI_ne (by decide), c25, if_neg (by decide)]
      exact tr_ret ⟨rfl, (Fm.sI (by decide) (by omega) (by omega) (Or.inr (Or.inr ⟨rfl, by decide⟩))).trans (Fm.sI (by decide) (by omega) (by omega) (Or.inr (Or.inr ⟨rfl, by decide⟩)))⟩
    refine tr_call he ?_
    rintro _ K3 ⟨rfl, f3⟩
    rw [if_pos (by decide)]
    refine tr_call (t_back _) ?_
    rintro x K4 ⟨rfl, f4⟩
    exact tr_ret ⟨by decide, (f1.mono (fun a b c z => Or.inl z)).trans (f2.trans (f3.trans f4))⟩
end OPS7
