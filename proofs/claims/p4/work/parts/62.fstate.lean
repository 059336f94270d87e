/-! ===== the fresh state ===== -/
def gF : GS := gsT (gsR g0 0 [0]) [0]
theorem gF_R (i : Nat) : gR gF i = if i = 0 then [0] else [] := rfl
theorem gF_R0 : gR gF 0 = [0] := rfl
theorem gF_Rs (r : Nat) : gR gF (r + 1) = [] := rfl
theorem WF_gF : WF gF := by
  refine ⟨fun i _ x hx => ?_, fun r _ h => absurd (gF_Rs r) h, by decide, by decide, by decide, ⟨by decide, by decide⟩, ⟨by decide, by decide⟩, by decide, by decide⟩
  rw [gF_R] at hx
  by_cases h : i = 0
  · rw [if_pos h] at hx
    cases List.mem_singleton.mp hx
    exact ⟨by decide, by decide, fun z => absurd z (by decide)⟩
  · rw [if_neg h] at hx; cases hx
theorem RW_FR0 {r : Nat} (h : r < 516) : RW FR0 r [] := ⟨h, rfl, Int.le_refl 0, Or.inl rfl, fun j hj => absurd hj (Nat.not_lt_zero j)⟩
theorem GC_FR0 {t : Nat} (h : t < 12) : GC FR0 t g0 := by
  refine ⟨h, fun i hi => RW_FR0 (by unfold rix; split <;> omega), RW_FR0 (by omega), RW_FR0 (by omega), fun i _ => rfl, fun i _ => rfl, rfl, rfl, rfl, rfl⟩
theorem t_becomeA : Tr (f_G_becomeLetterA 0 FR0) (fun _ J => GC J 0 gF ∧ Fm (FG 0) FR0 J) := by
  unfold f_G_becomeLetterA
  rw [if_pos (by decide)]
  refine tr_call (t_gclear (GC_FR0 (by decide))) ?_
  rintro _ J1 ⟨k1, f1⟩
  refine tr_call (t_put (k1.2.1 0 (by decide)) (by decide) 0) ?_
  rintro _ J2 ⟨r2, f2⟩
  have k2 := k1.row (i := 0) (by decide) r2 f2
  refine tr_call (t_put k2.2.2.1 (by decide) 0) ?_
  rintro _ J3 ⟨r3, f3⟩
  have k3 := k2.told r3 f3
  exact tr_ret ⟨k3, (f1.trans (f2.mono (FR_FG (t := 0) (i := 0) (by omega)))).trans (f3.mono FR_FG1)⟩
theorem PTi_FR0 : PTi FR0 := by
  refine ⟨fun _ => 0, fun _ => -1, fun _ => 0, fun p hp => ⟨rfl, ?_, fun h => absurd rfl h⟩, ⟨[], List.nodup_nil, fun p => ⟨fun h => (by cases h), fun h => ?_⟩, rfl, fun j hj => absurd hj (Nat.not_lt_zero j)⟩, fun p hp => ⟨⟨Int.le_refl 0, (by decide : (0 : Int) ≤ 1000000)⟩, Int.le_refl (-1), (by decide : (-1 : Int) ≤ 100)⟩⟩
  · show (if (2 : Nat) = 2 then (if p < 4356 then (-1 : Int) else 0) else 0) = -1
    rw [if_pos rfl, if_pos hp]
  · rcases h.2 with q | q
    · exact absurd rfl q
    · exact absurd rfl q
/-- the model's row laid anew -/
theorem t_begins {I : Mem} : Tr (f_M_begins I) (fun _ J => GW J g0 ∧ Fm FW I J) := by
  unfold f_M_begins
  refine tr_call (P := fun _ J => (∀ s : Nat, s < 16860 → J 27 0 s = 0) ∧ Fm FW I J) (tr_cnt (fun k => (k : Int)) (fun q J => (∀ s : Nat, s < q → J 27 0 s = 0) ∧ Fm FW I J) 16860 rfl ⟨fun s hs => absurd hs (Nat.not_lt_zero s), Fm.refl _ _⟩ ?_ ?_) ?_
  · rintro q J hq ⟨h1, h2⟩
    unfold f_M_begins_w2
    rw [w32_of (x := (q : Int)) (by omega) (by omega), if_pos (by omega), if_pos (by omega), Int.toNat_natCast]
    refine tr_ret ⟨rfl, fun s hs => ?_, h2.trans sIW⟩
    by_cases e : s = q
    · subst e; rw [sI_self]
    · rw [sI_ne (by omega)]; exact h1 s (by omega)
  · rintro J ⟨h1, h2⟩
    unfold f_M_begins_w2
    rw [if_neg (by decide)]
    exact tr_ret ⟨h1, h2⟩
  · rintro _ J ⟨h1, h2⟩
    refine tr_ret ⟨?_, h2.trans (sIW.trans sIW)⟩
    have z : ∀ s : Nat, s < 16860 → s ≠ 0 → s ≠ 2 → (sI (sI J 27 0 0 2) 27 0 2 1) 27 0 s = 0 := fun s hs a b => by rw [sI_ne (by omega), sI_ne (by omega)]; exact h1 s hs
    refine ⟨fun i hi => ⟨z _ (by omega) (by omega) (by omega), Nat.zero_le _, fun j hj => absurd hj (Nat.not_lt_zero j)⟩, z 3 (by omega) (by omega) (by omega), by decide, fun j hj => absurd hj (Nat.not_lt_zero j), fun i hi => z _ (by omega) (by omega) (by omega), ?_, z 1 (by omega) (by omega) (by omega), sI_self _ _ _ _ _, z 4 (by omega) (by omega) (by omega)⟩
    rw [sI_ne (by omega), sI_self]; rfl
theorem unf1 {I : Mem} (h1 : I 27 0 16 = 1) (h2 : I 27 0 60 = 0) : f_M_unfolds I = some (1, sI (sI (sI (sI I 27 9 0 0) 27 10 0 0) 27 7 0 0) 27 8 0 0) := by
  have m0 : ∀ J : Mem, J 27 0 16 = 1 → f_M_many 0 J = some (1, J) := fun J h => by
    unfold f_M_many
    rw [if_pos (by decide), show (w32 (16 + 0)).toNat = 16 by decide, h]
  have a0 : ∀ J : Mem, J 27 0 60 = 0 → f_M_at 0 0 J = some (0, J) := fun J h => by
    unfold f_M_at
    rw [if_pos (by decide), show (w32 (60 + 400 * 0 + 0)).toNat = 60 by decide, h]
  have z0 : (w32 0).toNat = 0 := by decide
  unfold f_M_unfolds
  rw [whl_eq]
  have s1 : f_M_unfolds_w4 (0, 0) I = some (.inl (1, 1), sI (sI (sI (sI I 27 9 0 0) 27 10 0 0) 27 7 0 0) 27 8 0 0) := by
    unfold f_M_unfolds_w4
    rw [m0 I h1, bnd_some]
    try dsimp only [ltI]
    rw [if_pos (by decide)]
    show bnd (whl (f_M_unfolds_w29 0) (0, 0) (sI (sI I 27 9 0 0) 27 10 0 0)) _ = _
    rw [whl_eq]
    have s2 : f_M_unfolds_w29 0 (0, 0) (sI (sI I 27 9 0 0) 27 10 0 0) = some (.inl (1, -1), sI (sI (sI (sI I 27 9 0 0) 27 10 0 0) 27 7 0 0) 27 8 0 0) := by
      unfold f_M_unfolds_w29
      try dsimp only [ltI]
      rw [if_neg (by decide), if_neg (by decide)]
      unfold f_M_unfolds_j60 f_M_unfolds_j61
      rw [if_pos (by decide), if_pos (by decide), z0, sI_ne (by decide), sI_self, sI_self, a0 _ (by rw [sI_ne (by decide), sI_ne (by decide)]; exact h2), bnd_some]
      unfold f_M_unfolds_j88
      rw [if_pos (by decide), if_pos (by decide), if_pos (by decide), z0]
      try dsimp only [ltI]
      rw [if_neg (by decide)]
      rfl
    rw [s2]
    try dsimp only [ltI]
    rw [whl_eq]
    have s3 : ∀ K : Mem, f_M_unfolds_w29 0 (1, -1) K = some (.inr 1, K) := fun K => by
      unfold f_M_unfolds_w29
      try dsimp only [ltI]
      rw [if_pos (by decide)]
    rw [s3]
    rfl
  rw [s1]
  try dsimp only [ltI]
  rw [whl_eq]
  have s4 : ∀ K : Mem, K 27 0 16 = 1 → f_M_unfolds_w4 (1, 1) K = some (.inr 1, K) := fun K h => by
    unfold f_M_unfolds_w4
    rw [m0 K h, bnd_some]
    try dsimp only [ltI]
    rw [if_neg (by decide)]
  rw [s4 _ (by rw [sI_ne (by decide), sI_ne (by decide), sI_ne (by decide), sI_ne (by decide)]; exact h1)]
  rfl
abbrev FMC : FP := fun k i s => FW k i s ∨ (k = 27 ∧ 7 ≤ i ∧ i ≤ 10)
theorem t_tellsF {I : Mem} (h : GW I (gsR g0 0 [0])) : Tr (f_M_tellsText I) (fun _ J => GW J gF ∧ Fm FMC I J) := by
  have h16 : I 27 0 16 = 1 := (h.1 0 (by decide)).1
  have h60 : I 27 0 60 = 0 := (h.1 0 (by decide)).2.2 0 (by decide)
  unfold f_M_tellsText
  rw [unf1 h16 h60, bnd_some]
  have f0 : Fm FMC I (sI (sI (sI (sI I 27 9 0 0) 27 10 0 0) 27 7 0 0) 27 8 0 0) := by
    have f : ∀ (J : Mem) (k : Nat), 7 ≤ k → k ≤ 10 → Fm FMC J (sI J 27 k 0 0) := fun J k a b => Fm.sI (by decide) (by omega) (by omega) (Or.inr ⟨rfl, a, b⟩)
    exact ((f _ 9 (by decide) (by decide)).trans (f _ 10 (by decide) (by decide))).trans ((f _ 7 (by decide) (by decide)).trans (f _ 8 (by decide) (by decide)))
  have h0 : GW (sI (sI (sI (sI I 27 9 0 0) 27 10 0 0) 27 7 0 0) 27 8 0 0) (gsR g0 0 [0]) := GWf.congr h (fun s hs => by rw [sI_ne (by omega), sI_ne (by omega), sI_ne (by omega), sI_ne (by omega)])
  have h7 : (sI (sI (sI (sI I 27 9 0 0) 27 10 0 0) 27 7 0 0) 27 8 0 0) 27 7 0 = 0 := by rw [sI_ne (by decide), sI_self]
  generalize sI (sI (sI (sI I 27 9 0 0) 27 10 0 0) 27 7 0 0) 27 8 0 0 = J at f0 h0 h7
  try dsimp only [ltI]
  rw [whl_eq]
  have s1 : f_M_tellsText_w12 0 (sI J 27 0 3 1) = some (.inl 1, sI (sI J 27 0 3 1) 27 0 16460 0) := by
    unfold f_M_tellsText_w12
    rw [sI_self, if_pos (by decide), if_pos (by decide), if_pos (by decide), show (w32 (16460 + 0)).toNat = 16460 by decide, show (w32 0).toNat = 0 by decide, sI_ne (by decide), h7]
    rfl
  rw [s1]
  try dsimp only [ltI]
  rw [whl_eq]
  have s2 : f_M_tellsText_w12 1 (sI (sI J 27 0 3 1) 27 0 16460 0) = some (.inr (), sI (sI J 27 0 3 1) 27 0 16460 0) := by
    unfold f_M_tellsText_w12
    rw [sI_ne (by decide), sI_self, if_neg (by decide)]
  rw [s2]
  try dsimp only [ltI]
  rw [bnd_some]
  have fT : Fm FWT J (sI (sI J 27 0 3 1) 27 0 16460 0) := (Fm.sI (by decide) (by omega) (by omega) ⟨rfl, rfl, Or.inl rfl⟩).trans (Fm.sI (by decide) (by omega) (by omega) ⟨rfl, rfl, Or.inr (by decide)⟩)
  have hT : GW (sI (sI J 27 0 3 1) 27 0 16460 0) gF := GW.told (l := [0]) h0 (by decide) (by rw [sI_ne (by decide), sI_self]; rfl) (fun j hj => by
    obtain rfl : j = 0 := by simpa using hj
    rw [sI_self]; rfl) fT
  rw [m_rules hT, bnd_some]
  have hn : nRules gF = 0 := by decide
  rw [hn]
  refine tr_ret ⟨?_, f0.trans ((fT.mono (fun a b c z => Or.inl ⟨z.1, z.2.1⟩)).trans (sIW.mono (fun a b c z => Or.inl z)))⟩
  exact GW.congr (hT.first (v := 0)) (fun _ _ => rfl) rfl (fun _ _ => rfl) (fun i hi => by
    show gN gF i = up (gN gF) 3 0 i
    rcases (show i = 0 ∨ i = 1 ∨ i = 2 ∨ i = 3 by omega) with rfl | rfl | rfl | rfl <;> rfl)
/-- what holds of a fresh object and a fresh model -/
def FS (I : Mem) : Prop := GC I 0 gF ∧ PTi I ∧ GW I gF ∧ ∀ k i s : Nat, k ≠ 30 → ¬ FG 0 k i s → ¬ FMC k i s → I k i s = FR0 k i s
theorem fs_all : ∃ JA J1 J2 J3 : Mem, f_G_becomeLetterA 0 FR0 = some ((), JA) ∧ (∀ k i s : Nat, 26 ≤ k → k < 29 → JA k i s = FR0 k i s) ∧ f_M_begins JA = some ((), J1) ∧ f_M_adds 0 0 J1 = some ((), J2) ∧ f_M_tellsText J2 = some ((), J3) ∧ FS J3 ∧ Gr FR0 JA ∧ Gr JA J3 := by
  obtain ⟨⟨⟩, JA, e1, k1, f1⟩ := t_becomeA
  obtain ⟨⟨⟩, J1, e2, k2, f2⟩ := t_begins (I := JA)
  obtain ⟨⟨⟩, J2, e3, k3, f3⟩ := t_madds k2 (i := 0) (by decide) (by decide) 0
  obtain ⟨⟨⟩, J3, e4, k4, f4⟩ := t_tellsF k3
  have fm : Fm FMC JA J3 := (f2.mono (fun a b c z => Or.inl z)).trans ((f3.mono (fun a b c z => Or.inl (FWR_FW a b c z))).trans f4)
  have nG : ∀ a b c : Nat, FMC a b c → a = 27 := fun a b c z => z.elim (fun q => q.1) (fun q => q.1)
  refine ⟨JA, J1, J2, J3, e1, fun k i s h1 h2 => f1.at (by omega) (fun z => by unfold FG at z; omega), e2, e3, e4, ⟨k1.fm fm (fun a b c z q => by have := nG a b c q; unfold FG at z; omega), ?_, k4, fun k i s h30 h1 h2 => (fm.at h30 h2).trans (f1.at h30 h1)⟩, f1.2, fm.2⟩
  obtain ⟨c, kf, pl, hp⟩ := PTi_FR0
  exact ⟨c, kf, pl, (hp.fm f1 (fun i s => ⟨fun z => by unfold FG at z; omega, fun z => by unfold FG at z; omega⟩)).fm fm (fun i s => ⟨fun z => absurd (nG _ _ _ z) (by decide), fun z => absurd (nG _ _ _ z) (by decide)⟩)⟩
