section
/-! ===== the fresh state ===== -/
def gF : GS := gsT (gsR g0 0 [0]) [0]
theorem gF_R (i : Nat) : gR gF i = if i = 0 then [0] else [] := rfl
theorem gF_R0 : gR gF 0 = [0] := rfl
theorem gF_Rs (r : Nat) : gR gF (r + 1) = [] := rfl
theorem WF_gF : WF gF := by
  refine ⟨fun i _ x hx => ?_, fun r _ h => absurd (gF_Rs r) h, by decide, by decide, by decide, ⟨by decide, by decide⟩, ⟨by decide, by decide⟩, by decide, by decide⟩
  rw [gF_R] at hx
  by_cases h : i = 0
  · rw [if_pos h] at hx
    cases List.mem_singleton.mp hx
    exact ⟨by decide, by decide, fun z => absurd z (by decide)⟩
  · rw [if_neg h] at hx; cases hx
theorem RW_FR0 {r : Nat} (h : r < 516) : RW FR0 r [] := ⟨h, rfl, Int.le_refl 0, Or.inl rfl, fun j hj => absurd hj (Nat.not_lt_zero j)⟩
theorem GC_FR0 {t : Nat} (h : t < 12) : GC FR0 t g0 := by
  refine ⟨h, fun i hi => RW_FR0 (by unfold rix; split <;> omega), RW_FR0 (by omega), RW_FR0 (by omega), fun i _ => rfl, fun i _ => rfl, rfl, rfl, rfl, rfl⟩
theorem t_becomeA : Tr (f_G_becomeLetterA 0 FR0) (fun _ J => GC J 0 gF ∧ Fm (FG 0) FR0 J) := by
  unfold f_G_becomeLetterA
  rw [if_pos (by decide)]
  refine tr_call (t_gclear (GC_FR0 (by decide))) ?_
  rintro _ J1 ⟨k1, f1⟩
  refine tr_call (t_put (k1.2.1 0 (by decide)) (by decide) 0) ?_
  rintro _ J2 ⟨r2, f2⟩
  have k2 := k1.row (i := 0) (by decide) r2 f2
  refine tr_call (t_put k2.2.2.1 (by decide) 0) ?_
  rintro _ J3 ⟨r3, f3⟩
  have k3 := k2.told r3 f3
  exact tr_ret ⟨k3, (f1.trans (f2.mono (FR_FG (t := 0) (i := 0) (by omega)))).trans (f3.mono FR_FG1)⟩
theorem PTi_FR0 : PTi FR0 := by
  refine ⟨fun _ => 0, fun _ => -1, fun _ => 0, fun p hp => ⟨rfl, ?_, fun h => absurd rfl h⟩, ⟨[], List.nodup_nil, fun p => ⟨fun h => (by cases h), fun h => ?_⟩, rfl, fun j hj => absurd hj (Nat.not_lt_zero j)⟩, fun p hp => ⟨⟨Int.le_refl 0, (by decide : (0 : Int) ≤ 1000000)⟩, Int.le_refl (-1), (by decide : (-1 : Int) ≤ 100)⟩⟩
  · show (if (2 : Nat) = 2 then (if p < 4356 then (-1 : Int) else 0) else 0) = -1
    rw [if_pos rfl, if_pos hp]
  · rcases h.2 with q | q
    · exact absurd rfl q
    · exact absurd rfl q
/-- the model's row laid anew -/
theorem t_begins {I : Mem} : Tr (f_M_begins I) (fun _ J => GW J g0 ∧ Fm FW I J) := by
  unfold f_M_begins
  refine tr_call (P := fun _ J => (∀ s : Nat, s < 16860 → J 27 0 s = 0) ∧ Fm FW I J) (tr_cnt (fun k => (k : Int)) (fun q J => (∀ s : Nat, s < q → J 27 0 s = 0) ∧ Fm FW I J) 16860 rfl ⟨fun s hs => absurd hs (Nat.not_lt_zero s), Fm.refl _ _⟩ ?_ ?_) ?_
  · rintro q J hq ⟨h1, h2⟩
    unfold f_M_begins_w2
    rw [w32_of (x := (q : Int)) (by omega) (by omega), if_pos (by omega), if_pos (by omega), Int.toNat_natCast]
    refine tr_ret ⟨rfl, fun s hs => ?_, h2.trans sIW⟩
    by_cases e : s = q
    · subst e; rw [sI_self]
    · rw [sI_ne (by omega)]; exact h1 s (by omega)
  · rintro J ⟨h1, h2⟩
    unfold f_M_begins_w2
    rw [if_neg (by decide)]
    exact tr_ret ⟨h1, h2⟩
  · rintro _ J ⟨h1, h2⟩
    refine tr_ret ⟨?_, h2.trans (sIW.trans sIW)⟩
    have z : ∀ s : Nat, s < 16860 → s ≠ 0 → s ≠ 2 → (sI (sI J 27 0 0 2) 27 0 2 1) 27 0 s = 0 := fun s hs a b => by rw [sI_ne (by omega), sI_ne (by omega)]; exact h1 s hs
    refine ⟨fun i hi => ⟨z _ (by omega) (by omega) (by omega), Nat.zero_le _, fun j hj => absurd hj (Nat.not_lt_zero j)⟩, z 3 (by omega) (by omega) (by omega), by decide, fun j hj => absurd hj (Nat.not_lt_zero j), fun i hi => z _ (by omega) (by omega) (by omega), ?_, z 1 (by omega) (by omega) (by omega), sI_self _ _ _ _ _, z 4 (by omega) (by omega) (by omega)⟩
    rw [sI_ne (by omega), sI_self]; rfl
theorem unf1 {I : Mem} (h1 : I 27 0 16 = 1) (h2 : I 27 0 60 = 0) : f_M_unfolds I = some (1, sI (sI (sI (sI I 27 9 0 0) 27 10 0 0) 27 7 0 0) 27 8 0 0) := by
  have m0 : ∀ J : Mem, J 27 0 16 = 1 → f_M_many 0 J = some (1, J) := fun J h => by
    unfold f_M_many
    rw [if_pos (by decide), show (w32 (16 + 0)).toNat = 16 by decide, h]
  have a0 : ∀ J : Mem, J 27 0 60 = 0 → f_M_at 0 0 J = some (0, J) := fun J h => by
    unfold f_M_at
    rw [if_pos (by decide), show (w32 (60 + 400 * 0 + 0)).toNat = 60 by decide, h]
  have z0 : (w32 0).toNat = 0 := by decide
  unfold f_M_unfolds
  rw [whl_eq]
  have s1 : f_M_unfolds_w4 (0, 0) I = some (.inl (1, 1), sI (sI (sI (sI I 27 9 0 0) 27 10 0 0) 27 7 0 0) 27 8 0 0) := by
    unfold f_M_unfolds_w4
    rw [m0 I h1, bnd_some]
    try dsimp only [ltI]
    rw [if_pos (by decide)]
    show bnd (whl (f_M_unfolds_w29 0) (0, 0) (sI (sI I 27 9 0 0) 27 10 0 0)) _ = _
    rw [whl_eq]
    have s2 : f_M_unfolds_w29 0 (0, 0) (sI (sI I 27 9 0 0) 27 10 0 0) = some (.inl (1, -1), sI (sI (sI (sI I 27 9 0 0) 27 10 0 0) 27 7 0 0) 27 8 0 0) := by
      unfold f_M_unfolds_w29
      try dsimp only [ltI]
      rw [if_neg (by decide), if_neg (by decide)]
      unfold f_M_unfolds_j60 f_M_unfolds_j61
      rw [if_pos (by decide), if_pos (by decide), z0, sI_ne (by decide), sI_self, sI_self, a0 _ (by rw [sI_ne (by decide), sI_ne (by decide)]; exact h2), bnd_some]
      unfold f_M_unfolds_j88
      rw [if_pos (by decide), if_pos (by decide), if_pos (by decide), z0]
      try dsimp only [ltI]
      rw [if_neg (by decide)]
      rfl
    rw [s2]
    try dsimp only [ltI]
    rw [whl_eq]
    have s3 : ∀ K : Mem, f_M_unfolds_w29 0 (1, -1) K = some (.inr 1, K) := fun K => by
      unfold f_M_unfolds_w29
      try dsimp only [ltI]
      rw [if_pos (by decide)]
    rw [s3]
    rfl
  rw [s1]
  try dsimp only [ltI]
  rw [whl_eq]
  have s4 : ∀ K : Mem, K 27 0 16 = 1 → f_M_unfolds_w4 (1, 1) K = some (.inr 1, K) := fun K h => by
    unfold f_M_unfolds_w4
    rw [m0 K h, bnd_some]
    try dsimp only [ltI]
    rw [if_neg (by decide)]
  rw [s4 _ (by rw [sI_ne (by decide), sI_ne (by decide), sI_ne (by decide), sI_ne (by decide)]; exact h1)]
  rfl
abbrev FMC : FP := fun k i s => FW k i s ∨ (k = 27 ∧ 7 ≤ i ∧ i ≤ 10)
theorem t_tellsF {I : Mem} (h : GW I (gsR g0 0 [0])) : Tr (f_M_tellsText I) (fun _ J => GW J gF ∧ Fm FMC I J) := by
  have h16 : I 27 0 16 = 1 := (h.1 0 (by decide)).1
  have h60 : I 27 0 60 = 0 := (h.1 0 (by decide)).2.2 0 (by decide)
  unfold f_M_tellsText
  rw [unf1 h16 h60, bnd_some]
  have f0 : Fm FMC I (sI (sI (sI (sI I 27 9 0 0) 27 10 0 0) 27 7 0 0) 27 8 0 0) := by
    have f : ∀ (J : Mem) (k : Nat), 7 ≤ k → k ≤ 10 → Fm FMC J (sI J 27 k 0 0) := fun J k a b => Fm.sI (by decide) (by omega) (by omega) (Or.inr ⟨rfl, a, b⟩)
    exact ((f _ 9 (by decide) (by decide)).trans (f _ 10 (by decide) (by decide))).trans ((f _ 7 (by decide) (by decide)).trans (f _ 8 (by decide) (by decide)))
  have h0 : GW (sI (sI (sI (sI I 27 9 0 0) 27 10 0 0) 27 7 0 0) 27 8 0 0) (gsR g0 0 [0]) := GWf.congr h (fun s hs => by rw [sI_ne (by omega), sI_ne (by omega), sI_ne (by omega), sI_ne (by omega)])
  have h7 : (sI (sI (sI (sI I 27 9 0 0) 27 10 0 0) 27 7 0 0) 27 8 0 0) 27 7 0 = 0 := by rw [sI_ne (by decide), sI_self]
  generalize sI (sI (sI (sI I 27 9 0 0) 27 10 0 0) 27 7 0 0) 27 8 0 0 = J at f0 h0 h7
  try dsimp only [ltI]
  rw [whl_eq]
  have s1 : f_M_tellsText_w12 0 (sI J 27 0 3 1) = some (.inl 1, sI (sI J 27 0 3 1) 27 0 16460 0) := by
    unfold f_M_tellsText_w12
    rw [sI_self, if_pos (by decide), if_pos (by decide), if_pos (by decide), show (w32 (16460 + 0)).toNat = 16460 by decide, show (w32 0).toNat = 0 by decide, sI_ne (by decide), h7]
    rfl
  rw [s1]
  try dsimp only [ltI]
  rw [whl_eq]
  have s2 : f_M_tellsText_w12 1 (sI (sI J 27 0 3 1) 27 0 16460 0) = some (.inr (), sI (sI J 27 0 3 1) 27 0 16460 0) := by
    unfold f_M_tellsText_w12
    rw [sI_ne (by decide), sI_self, if_neg (by decide)]
  rw [s2]
  try dsimp only [ltI]
  rw [bnd_some]
  have fT : Fm FWT J (sI (sI J 27 0 3 1) 27 0 16460 0) := (Fm.sI (by decide) (by omega) (by omega) ⟨rfl, rfl, Or.inl rfl⟩).trans (Fm.sI (by decide) (by omega) (by omega) ⟨rfl, rfl, Or.inr (by decide)⟩)
  have hT : GW (sI (sI J 27 0 3 1) 27 0 16460 0) gF := GW.told (l := [0]) h0 (by decide) (by rw [sI_ne (by decide), sI_self]; rfl) (fun j hj => by
    obtain rfl : j = 0 := by simpa using hj
    rw [sI_self]; rfl) fT
  rw [m_rules hT, bnd_some]
  have hn : nRules gF = 0 := by decide
  rw [hn]
  refine tr_ret ⟨?_, f0.trans ((fT.mono (fun a b c z => Or.inl ⟨z.1, z.2.1⟩)).trans (sIW.mono (fun a b c z => Or.inl z)))⟩
  exact GW.congr (hT.first (v := 0)) (fun _ _ => rfl) rfl (fun _ _ => rfl) (fun i hi => by
    show gN gF i = up (gN gF) 3 0 i
    rcases (show i = 0 ∨ i = 1 ∨ i = 2 ∨ i = 3 by omega) with rfl | rfl | rfl | rfl <;> rfl)
/-- what holds of a fresh object and a fresh model -/
def FS (I : Mem) : Prop := GC I 0 gF ∧ PTi I ∧ GW I gF ∧ ∀ k i s : Nat, k ≠ 30 → ¬ FG 0 k i s → ¬ FMC k i s → I k i s = FR0 k i s
theorem fs_all : ∃ JA J1 J2 J3 : Mem, f_G_becomeLetterA 0 FR0 = some ((), JA) ∧ (∀ k i s : Nat, 26 ≤ k → k < 29 → JA k i s = FR0 k i s) ∧ f_M_begins JA = some ((), J1) ∧ f_M_adds 0 0 J1 = some ((), J2) ∧ f_M_tellsText J2 = some ((), J3) ∧ FS J3 ∧ Gr FR0 JA ∧ Gr JA J3 := by
  obtain ⟨⟨⟩, JA, e1, k1, f1⟩ := t_becomeA
  obtain ⟨⟨⟩, J1, e2, k2, f2⟩ := t_begins (I := JA)
  obtain ⟨⟨⟩, J2, e3, k3, f3⟩ := t_madds k2 (i := 0) (by decide) (by decide) 0
  obtain ⟨⟨⟩, J3, e4, k4, f4⟩ := t_tellsF k3
  have fm : Fm FMC JA J3 := (f2.mono (fun a b c z => Or.inl z)).trans ((f3.mono (fun a b c z => Or.inl (FWR_FW a b c z))).trans f4)
  have nG : ∀ a b c : Nat, FMC a b c → a = 27 := fun a b c z => z.elim (fun q => q.1) (fun q => q.1)
  refine ⟨JA, J1, J2, J3, e1, fun k i s h1 h2 => f1.at (by omega) (fun z => by unfold FG at z; omega), e2, e3, e4, ⟨k1.fm fm (fun a b c z q => by have := nG a b c q; unfold FG at z; omega), ?_, k4, fun k i s h30 h1 h2 => (fm.at h30 h2).trans (f1.at h30 h1)⟩, f1.2, fm.2⟩
  obtain ⟨c, kf, pl, hp⟩ := PTi_FR0
  exact ⟨c, kf, pl, (hp.fm f1 (fun i s => ⟨fun z => by unfold FG at z; omega, fun z => by unfold FG at z; omega⟩)).fm fm (fun i s => ⟨fun z => absurd (nG _ _ _ z) (by decide), fun z => absurd (nG _ _ _ z) (by decide)⟩)⟩
end
section
/-! ===== room, and how one call is put together ===== -/
def CapB (I : Mem) : Prop := (∀ r : Nat, r < 516 → 0 ≤ I 2 r 2 ∧ I 2 r 2 ≤ 400) ∧ 0 ≤ I 10 0 2 ∧ I 10 0 2 ≤ 4096
theorem sum_b {f : Nat → Int} : ∀ n : Nat, (∀ r : Nat, r < n → 0 ≤ f r ∧ f r ≤ 400) → 0 ≤ ((List.range n).map f).sum ∧ ((List.range n).map f).sum ≤ 400 * n
  | 0, _ => by simp
  | n + 1, h => by
    have := sum_b n (fun r hr => h r (by omega))
    have h2 := h n (by omega)
    rw [List.range_succ, List.map_append, List.sum_append]
    simp only [List.map_cons, List.map_nil, List.sum_cons, List.sum_nil]
    omega
theorem CapB.le {I : Mem} (h : CapB I) : 0 ≤ Cap I ∧ Cap I ≤ 210496 := by
  have := sum_b (f := fun r => I 2 r 2) 516 h.1
  unfold Cap
  have h2 := h.2
  omega
theorem gr_room {I J : Mem} (g : Gr I J) (hI : CapB I) (hJ : CapB J) : cle I J ∧ dC I J ≤ 210496 ∧ dS I J ≤ 631488 := by
  have h1 := hI.le
  have h2 := hJ.le
  unfold Gr at g
  unfold cle dC dS
  omega
theorem cok_b {c : Int} (h : cok c) : 0 ≤ c ∧ c ≤ 400 := by unfold cok at h; omega
def AllG (I : Mem) : Prop := ∀ t : Nat, t < 12 → ∃ g : GS, GC I t g
theorem AllG.cap {I : Mem} (h : AllG I) (h10 : 0 ≤ I 10 0 2 ∧ I 10 0 2 ≤ 4096) : CapB I := by
  refine ⟨fun r hr => ?_, h10⟩
  obtain ⟨g, h1, h2, h3, h4, -⟩ := h (r / 43) (by omega)
  have key : ∃ l : List Int, RW I r l := by
    rcases (show r % 43 = 0 ∨ r % 43 = 1 ∨ r % 43 = 2 ∨ 3 ≤ r % 43 by omega) with q | q | q | q
    · exact ⟨_, by have := h2 0 (by omega); rw [show rix (r / 43) 0 = r by unfold rix; rw [if_pos rfl]; omega] at this; exact this⟩
    · exact ⟨_, by rw [show 43 * (r / 43) + 1 = r by omega] at h3; exact h3⟩
    · exact ⟨_, by rw [show 43 * (r / 43) + 2 = r by omega] at h4; exact h4⟩
    · exact ⟨_, by have := h2 (r % 43 - 2) (by omega); rw [show rix (r / 43) (r % 43 - 2) = r by unfold rix; rw [if_neg (by omega)]; omega] at this; exact this⟩
  obtain ⟨l, hl⟩ := key
  exact cok_b hl.2.2.2.1
theorem AllG.go {F : FP} {I J : Mem} (h : AllG I) (f : Fm F I J) (S : Nat → Prop) (hS : ∀ t : Nat, t < 12 → S t → ∃ g : GS, GC J t g) (hn : ∀ t : Nat, t < 12 → ¬ S t → ∀ k i s : Nat, FG t k i s → ¬ F k i s) : AllG J := by
  intro t ht
  by_cases q : S t
  · exact hS t ht q
  · obtain ⟨g, hg⟩ := h t ht
    exact ⟨g, hg.fm f (hn t ht q)⟩
theorem CapB_FR0 : CapB FR0 := ⟨fun _ _ => ⟨Int.le_refl 0, (by decide : (0 : Int) ≤ 400)⟩, (by decide : (0 : Int) ≤ 64), (by decide : (64 : Int) ≤ 4096)⟩
theorem FS.g {I : Mem} (h : FS I) {t : Nat} (h1 : 1 ≤ t) (ht : t < 12) : GC I t g0 := by
  obtain ⟨a1, a2, a3, a4, a5, a6⟩ := GC_FR0 ht
  have e : ∀ k i s : Nat, FG t k i s → I k i s = FR0 k i s := fun k i s q => h.2.2.2 k i s (by unfold FG at q; omega) (by unfold FG at q ⊢; omega) (by unfold FG at q; unfold FMC FW; omega)
  have er : ∀ (r : Nat) (l : List Int), 43 * t ≤ r → r < 43 * t + 43 → RW FR0 r l → RW I r l := fun r l q1 q2 ⟨b1, b2, b3, b4, b5⟩ =>
    ⟨b1, by rw [e 2 r 1 (Or.inl ⟨Or.inl rfl, q1, q2⟩)]; exact b2, by rw [e 2 r 2 (Or.inl ⟨Or.inl rfl, q1, q2⟩)]; exact b3, by rw [e 2 r 2 (Or.inl ⟨Or.inl rfl, q1, q2⟩)]; exact b4, fun j hj => by rw [e 12 r j (Or.inl ⟨Or.inr rfl, q1, q2⟩)]; exact b5 j hj⟩
  refine ⟨a1, fun i hi => er _ _ (by unfold rix; split <;> omega) (by unfold rix; split <;> omega) (a2 i hi), er _ _ (by omega) (by omega) a3, er _ _ (by omega) (by omega) a4, fun i hi => ?_, fun i hi => ?_, ?_⟩
  · rw [e 14 t i (Or.inr ⟨by omega, rfl⟩)]; exact a5 i hi
  · rw [e 15 t i (Or.inr ⟨by omega, rfl⟩)]; exact a6.1 i hi
  · rw [e 1 t 6 (Or.inr ⟨by omega, rfl⟩), e 1 t 7 (Or.inr ⟨by omega, rfl⟩), e 1 t 8 (Or.inr ⟨by omega, rfl⟩), e 1 t 9 (Or.inr ⟨by omega, rfl⟩)]; exact a6.2
theorem FS.all {I : Mem} (h : FS I) : AllG I := fun t ht => by
  by_cases q : t = 0
  · subst q; exact ⟨_, h.1⟩
  · exact ⟨_, h.g (by omega) ht⟩
theorem FS.at {I : Mem} (h : FS I) {k i s : Nat} (h30 : k ≠ 30) (h1 : k ≠ 2 ∧ k ≠ 12 ∧ k ≠ 1 ∧ k ≠ 14 ∧ k ≠ 15 ∧ k ≠ 27) : I k i s = FR0 k i s := h.2.2.2 k i s h30 (fun z => by unfold FG at z; omega) (fun z => by unfold FMC FW at z; omega)
theorem FS.h10 {I : Mem} (h : FS I) : I 10 0 2 = 64 := (h.at (by decide) (by decide)).trans rfl
theorem FS.cap {I : Mem} (h : FS I) : CapB I := h.all.cap (by rw [h.h10]; decide)
theorem cap_room {JA J3 : Mem} (hF : FS J3) (g1 : Gr FR0 JA) (g2 : Gr JA J3) : dC FR0 JA + dC JA J3 ≤ 210496 ∧ dS FR0 JA + dS JA J3 ≤ 631488 := by
  have h := gr_room (g1.trans g2) CapB_FR0 hF.cap
  have c1 : cle FR0 JA := ⟨g1.1, g1.2.1⟩
  have c2 : cle JA J3 := ⟨g2.1, g2.2.1⟩
  have := dC_add c1 c2
  omega
/-- what a call of the class leaves -/
def CP (I J : Mem) : Prop := (∀ k i s : Nat, 26 ≤ k → k < 29 → J k i s = I k i s) ∧ cle I J ∧ dC I J ≤ 210500 ∧ dS I J ≤ 631600
/-- what a call of the model leaves -/
def MPo (J K : Mem) : Prop := K 29 0 0 = J 29 0 0 ∧ K 30 0 0 = J 30 0 0 ∧ K 30 0 1 = J 30 0 1
theorem CP_of {F : FP} {I J : Mem} (hI : FS I) (f : Fm F I J) (hF : ∀ k i s : Nat, F k i s → k < 26 ∧ k ≠ 10) (hG : AllG J) : CP I J := by
  have h10 : J 10 0 2 = I 10 0 2 := f.at (by decide) (fun z => (hF _ _ _ z).2 rfl)
  have hb := gr_room f.2 hI.cap (hG.cap (by rw [h10, hI.h10]; decide))
  exact ⟨fun k i s h1 h2 => f.at (by omega) (fun z => by have := (hF _ _ _ z).1; omega), hb.1, by omega, by omega⟩
theorem CP_same {I : Mem} : CP I I := ⟨fun _ _ _ _ _ => rfl, cle.refl I, by rw [(dC_self I).1]; omega, by rw [(dC_self I).2]; omega⟩
theorem CP_thrw {I J : Mem} (h : CP I J) (hc : dC I J ≤ 210496) (hs : dS I J ≤ 631488) : CP I (thrw J) := by
  have e1 := thrw_0 J
  have e2 := thrw_1 J
  obtain ⟨h1, h2, h3, h4⟩ := h
  refine ⟨fun k i s a b => ?_, ?_, ?_, ?_⟩
  · unfold thrw
    rw [sI_ne (by omega), sI_ne (by omega)]
    exact h1 k i s a b
  · unfold cle at *; omega
  · unfold dC cle at *; omega
  · unfold dS cle at *; omega
theorem CP_thr {I : Mem} : CP I (thrw I) := CP_thrw CP_same (by rw [(dC_self I).1]; omega) (by rw [(dC_self I).2]; omega)
theorem MPo_of {F : FP} {J K : Mem} (f : Fm F J K) (hF : ∀ k i s : Nat, F k i s → 26 ≤ k ∧ k < 29) : MPo J K := by
  have h2 : ∀ r : Nat, K 2 r 2 = J 2 r 2 := fun r => f.at (by decide) (fun z => by have := hF _ _ _ z; omega)
  have h10 : K 10 0 2 = J 10 0 2 := f.at (by decide) (fun z => by have := hF _ _ _ z; omega)
  have hc : Cap K = Cap J := by
    unfold Cap
    rw [h10, show (fun r : Nat => K 2 r 2) = fun r => J 2 r 2 from funext h2]
  have g := f.2
  unfold Gr at g
  refine ⟨f.at (by decide) (fun z => by have := hF _ _ _ z; omega), by omega, by omega⟩
theorem MPo.trans {J K L : Mem} (h : MPo J K) (k : MPo K L) : MPo J L := ⟨k.1.trans h.1, k.2.1.trans h.2.1, k.2.2.trans h.2.2⟩
theorem d_MPo {I J K : Mem} (h : MPo J K) : dC I K = dC I J ∧ dS I K = dS I J := by
  unfold dC dS
  rw [h.2.1, h.2.2]
  exact ⟨rfl, rfl⟩
theorem ok_I {fc fm : Mem → Option (Int × Mem)} {I : Mem} {u : Int} (hc : Tr (fc I) (fun x J => w32 x = u ∧ CP I J)) (hm : ∀ J : Mem, CP I J → Tr (fm J) (fun x K => w32 x = u ∧ MPo J K)) : ∃ (r1 r2 : Int) (J K : Mem), fc I = some (r1, J) ∧ fm J = some (r2, K) ∧ w32 r1 = w32 r2 ∧ dC I K ≤ 210600 ∧ dS I K ≤ 631700 := by
  obtain ⟨r1, J, e1, h1, cp⟩ := hc
  obtain ⟨r2, K, e2, h2, mp⟩ := hm J cp
  have d := d_MPo (I := I) mp
  have c3 := cp.2.2
  exact ⟨r1, r2, J, K, e1, e2, h1.trans h2.symm, by omega, by omega⟩
abbrev kRet : Int → Mem → Option (Int × Mem) := fun x3 J2 => ltI (sI J2 29 0 0 (w32 x3)) fun J4 => some (0, J4)
theorem CP_out {I J : Mem} {v : Int} (h : CP I J) : CP I (sI J 29 0 0 v) := by
  obtain ⟨h1, h2, h3, h4⟩ := h
  have e0 : sI J 29 0 0 v 30 0 0 = J 30 0 0 := sI_ne (by decide)
  have e1 : sI J 29 0 0 v 30 0 1 = J 30 0 1 := sI_ne (by decide)
  refine ⟨fun k i s a b => by rw [sI_ne (by omega)]; exact h1 k i s a b, ?_, ?_, ?_⟩
  · unfold cle at *; rw [e0, e1]; exact h2
  · unfold dC at *; rw [e0]; exact h3
  · unfold dS at *; rw [e1]; exact h4
abbrev OKW (fl fm : Mem → Option (Int × Mem)) (I : Mem) : Prop := ∃ (r1 r2 : Int) (J K : Mem), fl I = some (r1, J) ∧ fm J = some (r2, K) ∧ w32 (K 26 0 7) = w32 r1 ∧ (w32 r1 = 0 → w64 (K 29 0 0) = w64 (w32 r2)) ∧ dC I K ≤ 210600 ∧ dS I K ≤ 631700
theorem ok_W {fp : Mem → Option ((Int ⊕ String) × Mem)} {KX : String → Mem → Option (Int × Mem)} {fm : Mem → Option (Int × Mem)} {I : Mem} {u : Int} (hc : Tr (fp I) (fun x J => (∃ v : Int, x = .inl v ∧ w32 v = u) ∧ CP I J)) (hm : ∀ J : Mem, CP I J → Tr (fm J) (fun x K => w32 x = u ∧ K 26 0 7 = 0 ∧ MPo J K)) : OKW (fun I => bndX (fp I) kRet KX) fm I := by
  obtain ⟨r1, J, e1, ⟨v, rfl, hv⟩, cp⟩ := hc
  obtain ⟨r2, K, e2, h2, h7, mp⟩ := hm (sI J 29 0 0 (w32 v)) (CP_out cp)
  have d := d_MPo (I := I) mp
  have c3 := (CP_out (v := w32 v) cp).2.2
  refine ⟨0, r2, _, K, ?_, e2, by rw [h7], fun _ => ?_, by omega, by omega⟩
  · show bndX (fp I) kRet KX = _
    rw [e1]
    rfl
  · rw [mp.1, sI_self, hv, h2]
theorem ok_X {fp : Mem → Option ((Int ⊕ String) × Mem)} {KR : Int → Mem → Option (Int × Mem)} {KX : String → Mem → Option (Int × Mem)} {fm : Mem → Option (Int × Mem)} {I J : Mem} {E : String} {k : Int} (e1 : fp I = some (.inr E, J)) (cp : CP I J) (hk : KX E J = some (k, J)) (h0 : w32 k ≠ 0) (hm : Tr (fm J) (fun _ K => K 26 0 7 = k ∧ MPo J K)) : OKW (fun I => bndX (fp I) KR KX) fm I := by
  obtain ⟨r2, K, e2, h7, mp⟩ := hm
  have d := d_MPo (I := I) mp
  have c3 := cp.2.2
  refine ⟨k, r2, J, K, ?_, e2, by rw [h7], fun z => absurd z h0, by omega, by omega⟩
  show bndX (fp I) KR KX = _
  rw [e1]
  exact hk
theorem GW.cp {I J : Mem} {g : GS} (h : GW I g) (c : CP I J) : GW J g := GWf.congr h (fun s _ => c.1 27 0 s (by decide) (by decide))
end
section
/-! ===== the reference: texts, comings ===== -/
theorem ll_mono {g : GS} (w : WF g) {l : List Int} (hs : ∀ x ∈ l, SYr (gR g) x) {a b : Nat} (h : a ≤ b) : ll (gL g) (l.take a) ≤ ll (gL g) (l.take b) := by
  have e : l.take b = l.take a ++ (l.take b).drop a := by
    have := (List.take_append_drop a (l.take b)).symm
    rw [List.take_take, show min a b = a by omega] at this
    exact this
  have h1 := ll_ge (L := gL g) (l := (l.take b).drop a) (fun x hx => (w.sl1 (hs x (List.take_subset _ _ (List.drop_subset _ _ hx)))).1)
  rw [e, ll_app]
  omega
theorem pO_uniq {g : GS} (w : WF g) {l : List Int} (hs : ∀ x ∈ l, SYr (gR g) x) {p : Int} {k : Nat} (hk : k < l.length) (h1 : ll (gL g) (l.take k) ≤ p) (h2 : p < ll (gL g) (l.take (k + 1))) : pO (gL g) l p = (k : Int) := by
  have h0 : 0 ≤ ll (gL g) (l.take k) := by
    have := ll_ge (L := gL g) (l := l.take k) (fun x hx => (w.sl1 (hs x (List.take_subset _ _ hx))).1)
    omega
  have h3 : ll (gL g) (l.take (k + 1)) ≤ ll (gL g) l := by
    have := ll_mono w hs (a := k + 1) (b := l.length) (by omega)
    rwa [List.take_length] at this
  obtain ⟨j, e, j1, j2, j3⟩ := pO_spec w hs (p := p) (by omega) (by omega)
  rw [e]
  by_cases q : j < k
  · have := ll_mono w hs (a := j + 1) (b := k) (by omega); omega
  · by_cases q2 : k < j
    · have := ll_mono w hs (a := k + 1) (b := j) (by omega); omega
    · omega
/-- bits of a number -/
def pcN : Nat → Nat → Nat
  | 0, _ => 0
  | n + 1, m => m % 2 + pcN n (m / 2)
theorem pcN_0 : ∀ n : Nat, pcN n 0 = 0
  | 0 => rfl
  | n + 1 => by rw [pcN, Nat.zero_div, pcN_0 n]
theorem and_mod2 (a b : Nat) : (a &&& b) % 2 = if a % 2 = 1 ∧ b % 2 = 1 then 1 else 0 := by
  by_cases h : a % 2 = 1 ∧ b % 2 = 1
  · rw [if_pos h]; exact Nat.and_mod_two_eq_one.mpr h
  · rw [if_neg h]
    have : ¬ (a &&& b) % 2 = 1 := fun z => h (Nat.and_mod_two_eq_one.mp z)
    omega
theorem pcN_step : ∀ (n m : Nat), 0 < m → m < 2 ^ n → pcN n (m &&& (m - 1)) + 1 = pcN n m
  | 0, m, h1, h2 => by simp at h2; omega
  | n + 1, m, h1, h2 => by
    rw [pcN, pcN, and_mod2, Nat.and_div_two]
    rw [Nat.pow_succ] at h2
    by_cases q : m % 2 = 1
    · rw [if_neg (by omega), show (m - 1) / 2 = m / 2 by omega, Nat.and_self]
      omega
    · rw [if_neg (by omega), show (m - 1) / 2 = m / 2 - 1 by omega]
      have := pcN_step n (m / 2) (by omega) (by omega)
      omega
theorem pcN_sum : ∀ (n m : Nat), (pcN n m : Int) = sT (fun a => bI (m.testBit a = true)) n
  | 0, m => rfl
  | n + 1, m => by
    rw [pcN, sT_shift, Int.natCast_add, pcN_sum n (m / 2)]
    have e1 : ((m % 2 : Nat) : Int) = bI (m.testBit 0 = true) := by
      rw [Nat.testBit_zero]
      by_cases q : m % 2 = 1
      · rw [bI_pos (by simpa using q), q]; rfl
      · rw [bI_neg (by simpa using q)]; omega
    rw [e1]
    congr 1
    exact sT_congr (fun a _ => bI_congr (by rw [Nat.testBit_succ]))
theorem i32_nat {m : Nat} (h : m < 2147483648) : Int32.ofInt (m : Int) = Int32.ofNat m := rfl
theorem i32_toInt {m : Nat} (h : m < 2147483648) : (Int32.ofNat m).toInt = (m : Int) := by
  have := w_toInt (m : Int)
  rw [w32_of (by omega) (by omega)] at this
  exact this
theorem bv_nat {m : Nat} (h : m < 2147483648) : (Int32.ofNat m).toBitVec.toNat = m := by
  show (BitVec.ofNat 32 m).toNat = m
  rw [BitVec.toNat_ofNat]
  omega
theorem bv_int {x : Int32} (h : x.toBitVec.toNat < 2147483648) : x.toInt = (x.toBitVec.toNat : Int) := by
  show x.toBitVec.toInt = _
  rw [BitVec.toInt_eq_toNat_cond, if_pos (by omega)]
theorem ian_nat {a b : Nat} (ha : a < 2147483648) (hb : b < 2147483648) : ian (a : Int) (b : Int) = ((a &&& b : Nat) : Int) := by
  have e : (Int32.ofInt (a : Int) &&& Int32.ofInt (b : Int)).toBitVec.toNat = a &&& b := by
    rw [i32_nat ha, i32_nat hb, Int32.toBitVec_and, BitVec.toNat_and, bv_nat ha, bv_nat hb]
  have hl : a &&& b ≤ a := Nat.and_le_left
  unfold ian
  rw [bv_int (by rw [e]; omega), e]
theorem ior_nat {a b n : Nat} (hn : 2 ^ n ≤ 2147483648) (ha : a < 2 ^ n) (hb : b < 2 ^ n) : ior (a : Int) (b : Int) = ((a ||| b : Nat) : Int) := by
  have ha' : a < 2147483648 := by omega
  have hb' : b < 2147483648 := by omega
  have e : (Int32.ofInt (a : Int) ||| Int32.ofInt (b : Int)).toBitVec.toNat = a ||| b := by
    rw [i32_nat ha', i32_nat hb', Int32.toBitVec_or, BitVec.toNat_or, bv_nat ha', bv_nat hb']
  have hl : a ||| b < 2 ^ n := Nat.or_lt_two_pow ha hb
  unfold ior
  rw [bv_int (by rw [e]; omega), e]
theorem ish_1 : ∀ x : Nat, x < 26 → ish 1 (x : Int) = ((2 ^ x : Nat) : Int) := by decide +kernel
section MTEXT
variable {I : Mem} {g : GS}
theorem t_mlettersOf (h : GW I g) (w : WF g) {a : Int} (ha : 0 ≤ a ∧ a < 26) : Tr (f_M_lettersOf a I) (fun x J => x = ((gTx g).count a : Int) ∧ GW J g ∧ Fm FUN I J) := by
  have hl4 := gTx_len w
  have hT4 := w.2.2.2.2.1
  have hlet := exL_let w (w.1 0 (by omega))
  unfold f_M_lettersOf
  refine tr_call (t_munfolds h w) ?_
  rintro x J ⟨rfl, hU, hF⟩
  rw [whl_ro (r := ((gTx g).count a : Int)) (s0 := ((0 : Int), (0 : Int))) (fun k => ((((gTx g).take k).count a : Int), (k : Int))) (gTx g).length (by simp) ?_ ?_, bnd_some]
  · exact tr_ret ⟨rfl, h.fun_ hF, hF⟩
  · intro k hk
    have q := hlet _ (getD_mem (d := -1) hk)
    have e7 := (hU k hk).1
    unfold f_M_lettersOf_w10
    dsimp only
    rw [w32_of (x := (k : Int)) (by omega) (by omega), w32_of (x := ((gTx g).length : Int)) (by omega) (by omega), if_pos (by omega), if_pos (by omega), Int.toNat_natCast, e7]
    have q : 0 ≤ (gTx g).getD k (-1) ∧ (gTx g).getD k (-1) < 26 := q
    rw [w32_of (x := (gTx g).getD k (-1)) (by omega) (by omega), w32_of (x := a) (by omega) (by omega), m_oneI, bnd_some, take_at (d := -1) hk, List.count_append, List.count_singleton]
    by_cases e : (gTx g).getD k (-1) = a
    · rw [bI_pos e, if_pos (by simpa using e)]; rfl
    · rw [bI_neg e, if_neg (by simpa using e)]; rfl
  · unfold f_M_lettersOf_w10
    dsimp only
    rw [w32_of (x := ((gTx g).length : Int)) (by omega) (by omega), if_neg (by omega), List.take_length]
theorem t_munlike (h : GW I g) (w : WF g) : Tr (f_M_unlike I) (fun x J => x = unlN (gTx g) ∧ GW J g ∧ Fm FUN I J) := by
  have hl4 := gTx_len w
  have hT4 := w.2.2.2.2.1
  have hlet : ∀ y ∈ gTx g, 0 ≤ y ∧ y < 26 := exL_let w (w.1 0 (by omega))
  unfold f_M_unlike
  refine tr_call (t_munfolds h w) ?_
  rintro x J ⟨rfl, hU, hF⟩
  -- the set of letters as a number
  obtain ⟨SB, SB0, SBs⟩ : ∃ SB : Nat → Nat, SB 0 = 0 ∧ ∀ k : Nat, SB (k + 1) = SB k ||| 2 ^ ((gTx g).getD k (-1)).toNat :=
    ⟨fun k => Nat.rec (motive := fun _ => Nat) 0 (fun j m => m ||| 2 ^ ((gTx g).getD j (-1)).toNat) k, rfl, fun _ => rfl⟩
  have SBlt : ∀ k : Nat, k ≤ (gTx g).length → SB k < 2 ^ 26 := by
    intro k
    induction k with
    | zero => intro _; rw [SB0]; decide
    | succ k ih =>
      intro hk
      rw [SBs]
      have hx := hlet _ (getD_mem (d := -1) (show k < (gTx g).length by omega))
      exact Nat.or_lt_two_pow (ih (by omega)) (Nat.pow_lt_pow_right (by decide) (by omega))
  have SBbit : ∀ k : Nat, k ≤ (gTx g).length → ∀ a : Nat, (SB k).testBit a = true ↔ (a : Int) ∈ (gTx g).take k := by
    intro k
    induction k with
    | zero => intro _ a; rw [SB0]; simp
    | succ k ih =>
      intro hk a
      have hx := hlet _ (getD_mem (d := -1) (show k < (gTx g).length by omega))
      rw [SBs, Nat.testBit_or, Bool.or_eq_true, ih (by omega) a, take_at (d := -1) (show k < (gTx g).length by omega), List.mem_append, List.mem_singleton, Nat.testBit_two_pow, decide_eq_true_iff]
      constructor
      · rintro (z | z)
        · exact Or.inl z
        · exact Or.inr (by omega)
      · rintro (z | z)
        · exact Or.inl z
        · exact Or.inr (by omega)
  have w1 : whl (f_M_unlike_w9 ((gTx g).length : Int)) (0, 0) J = some (((SB (gTx g).length : Nat) : Int), J) := by
    refine whl_ro (fun k => (((SB k : Nat) : Int), (k : Int))) (gTx g).length (by rw [SB0]; rfl) (fun k hk => ?_) ?_
    · have hx := hlet _ (getD_mem (d := -1) hk)
      have e7 := (hU k hk).1
      unfold f_M_unlike_w9
      dsimp only
      rw [w32_of (x := (k : Int)) (by omega) (by omega), w32_of (x := ((gTx g).length : Int)) (by omega) (by omega), if_pos (by omega), if_pos (by omega), Int.toNat_natCast, e7, show (gTx g).getD k (-1) = ((((gTx g).getD k (-1)).toNat : Nat) : Int) by omega, ish_1 _ (by omega), ior_nat (n := 26) (by decide) (SBlt k (by omega)) (Nat.pow_lt_pow_right (by decide) (by omega)), SBs]
      rfl
    · unfold f_M_unlike_w9
      dsimp only
      rw [w32_of (x := ((gTx g).length : Int)) (by omega) (by omega), if_neg (by omega)]
  have w2 : whl f_M_unlike_w36 (0, ((SB (gTx g).length : Nat) : Int)) J = some (unlN (gTx g), J) := by
    have hfin : ((pcN 26 (SB (gTx g).length) : Nat) : Int) = unlN (gTx g) := by
      rw [pcN_sum]
      unfold unlN
      refine sT_congr (fun a _ => bI_congr ?_)
      rw [SBbit _ (Nat.le_refl _) a, List.take_length]
      constructor
      · intro z
        have := List.count_pos_iff.mpr z
        omega
      · intro z
        exact List.count_pos_iff.mp (by omega)
    refine tr_ro (tr_whl (fun n s K => ∃ (m c : Nat), pcN 26 m = n ∧ m < 2 ^ 26 ∧ s = ((c : Int), (m : Int)) ∧ c + pcN 26 m = pcN 26 (SB (gTx g).length) ∧ K = J) ?_ (pcN 26 (SB (gTx g).length)) _ _ ⟨SB (gTx g).length, 0, rfl, SBlt _ (Nat.le_refl _), rfl, by omega, rfl⟩)
    rintro n s K ⟨m, c, rfl, hm, rfl, hc, rfl⟩
    have hm' : m < 67108864 := hm
    unfold f_M_unlike_w36
    dsimp only
    rw [w32_of (x := (m : Int)) (by omega) (by omega)]
    by_cases q : m = 0
    · subst q
      rw [if_pos (show ((0 : Nat) : Int) = 0 from rfl)]
      rw [pcN_0] at hc
      exact tr_ret ⟨by rw [← hfin]; omega, rfl⟩
    · rw [if_neg (by omega), show (m : Int) - 1 = ((m - 1 : Nat) : Int) by omega, ian_nat (by omega) (by omega)]
      have h1 := pcN_step 26 m (by omega) hm
      have h2 : m &&& (m - 1) ≤ m := Nat.and_le_left
      exact tr_ret ⟨pcN 26 (m &&& (m - 1)), by omega, m &&& (m - 1), c + 1, rfl, by omega, rfl, by omega, rfl⟩
  rw [w1, bnd_some, w2, bnd_some]
  exact tr_ret ⟨rfl, h.fun_ hF, hF⟩
theorem t_mgap (h : GW I g) (w : WF g) : Tr (f_M_gap I) (fun x J => x = gapN (gTx g) (gT g) ∧ GW J g ∧ Fm (fun k i s => FUN k i s ∨ (k = 26 ∧ i = 0 ∧ s = 7)) I J ∧ J 26 0 7 = 0) := by
  have hl4 := gTx_len w
  have hT4 := w.2.2.2.2.1
  unfold f_M_gap
  show Tr (bnd (f_M_unfolds (sI I 26 0 7 0)) _) _
  have f0 : Fm (fun k i s => k = 26 ∧ i = 0 ∧ s = 7) I (sI I 26 0 7 0) := Fm.sI (by decide) (by omega) (by omega) ⟨rfl, rfl, rfl⟩
  have h0 := h.fm f0 (fun s hs z => by omega)
  refine tr_call (t_munfolds h0 w) ?_
  rintro x J ⟨rfl, hU, hF⟩
  have hJ := h0.fun_ hF
  have h3 : J 27 0 3 = ((gT g).length : Int) := hJ.2.1
  rw [h3]
  have ei : iab (((gTx g).length : Int) - ((gT g).length : Int)) = (if ((gTx g).length : Int) < (gT g).length then ((gT g).length : Int) - (gTx g).length else ((gTx g).length : Int) - (gT g).length) := by
    unfold iab
    rw [w32_of (by omega) (by omega)]
    split <;> split <;> omega
  rw [ei]
  rw [whl_ro (r := gapN (gTx g) (gT g)) (fun k => ((if ((gTx g).length : Int) < (gT g).length then ((gT g).length : Int) - (gTx g).length else ((gTx g).length : Int) - (gT g).length) + sT (fun j => if w32 ((gTx g).getD j (-1)) = w32 ((gT g).getD j (-1)) then 0 else 1) k, (k : Int))) (min (gTx g).length (gT g).length) ?_ ?_ ?_, bnd_some]
  · exact tr_ret ⟨rfl, hJ, (f0.mono (fun a b c z => Or.inr z)).trans (hF.mono (fun a b c z => Or.inl z)), by rw [hF.at (by decide) (by unfold FUN; omega), sI_self]⟩
  · exact Prod.ext (by show _ = _ + (0 : Int); omega) rfl
  · intro k hk
    have e7 := (hU k (by omega)).1
    unfold f_M_gap_w24
    dsimp only
    rw [h3, w32_of (x := (k : Int)) (by omega) (by omega), w32_of (x := ((gTx g).length : Int)) (by omega) (by omega), w32_of (x := ((gT g).length : Int)) (by omega) (by omega), if_pos (by omega), if_pos (by omega), if_pos (by omega), w32_of (x := 16460 + (k : Int)) (by omega) (by omega), if_pos (by omega), Int.toNat_natCast, show ((16460 : Int) + (k : Int)).toNat = 16460 + k by omega, e7, hJ.2.2.2.1 k (by omega)]
    show bnd (f_M_one (if w32 ((gTx g).getD k (-1)) = w32 ((gT g).getD k (-1)) then 0 else 1) J) _ = _
    by_cases e : w32 ((gTx g).getD k (-1)) = w32 ((gT g).getD k (-1))
    · rw [if_pos e, m_one0, bnd_some]
      show some (Sum.inl (_ + 0, (k : Int) + 1), J) = some (Sum.inl (_ + (sT _ k + if w32 ((gTx g).getD k (-1)) = w32 ((gT g).getD k (-1)) then 0 else 1), ((k + 1 : Nat) : Int)), J)
      rw [if_pos e, Int.add_zero, Int.add_zero]; rfl
    · rw [if_neg e, m_one1, bnd_some]
      show some (Sum.inl (_ + 1, (k : Int) + 1), J) = some (Sum.inl (_ + (sT _ k + if w32 ((gTx g).getD k (-1)) = w32 ((gT g).getD k (-1)) then 0 else 1), ((k + 1 : Nat) : Int)), J)
      rw [if_neg e, Int.add_assoc]; rfl
  · unfold f_M_gap_w24
    dsimp only
    rw [h3, w32_of (x := ((min (gTx g).length (gT g).length : Nat) : Int)) (by omega) (by omega), w32_of (x := ((gTx g).length : Int)) (by omega) (by omega), w32_of (x := ((gT g).length : Int)) (by omega) (by omega)]
    by_cases q : ((min (gTx g).length (gT g).length : Nat) : Int) < ((gTx g).length : Int)
    · rw [if_pos q, if_neg (by omega)]; rfl
    · rw [if_neg q]; rfl
theorem t_mdigest (h : GW I g) (w : WF g) : Tr (f_M_digest I) (fun x J => x = dgN (gTx g) (gTx g).length ∧ GW J g ∧ Fm (fun k i s => FUN k i s ∨ (k = 26 ∧ i = 0 ∧ s = 7)) I J ∧ J 26 0 7 = 0) := by
  have hl4 := gTx_len w
  have hT4 := w.2.2.2.2.1
  unfold f_M_digest
  show Tr (bnd (f_M_unfolds (sI I 26 0 7 0)) _) _
  have f0 : Fm (fun k i s => k = 26 ∧ i = 0 ∧ s = 7) I (sI I 26 0 7 0) := Fm.sI (by decide) (by omega) (by omega) ⟨rfl, rfl, rfl⟩
  have h0 := h.fm f0 (fun s hs z => by omega)
  refine tr_call (t_munfolds h0 w) ?_
  rintro x J ⟨rfl, hU, hF⟩
  rw [whl_ro (r := dgN (gTx g) (gTx g).length) (s0 := ((1 : Int), (0 : Int))) (fun k => (dgN (gTx g) k, (k : Int))) (gTx g).length rfl ?_ ?_, bnd_some]
  · exact tr_ret ⟨rfl, h0.fun_ hF, (f0.mono (fun a b c z => Or.inr z)).trans (hF.mono (fun a b c z => Or.inl z)), by rw [hF.at (by decide) (by unfold FUN; omega), sI_self]⟩
  · intro k hk
    have e7 := (hU k hk).1
    unfold f_M_digest_w15
    dsimp only
    rw [w32_of (x := (k : Int)) (by omega) (by omega), w32_of (x := ((gTx g).length : Int)) (by omega) (by omega), if_pos (by omega), if_pos (by omega), Int.toNat_natCast, e7]
    rfl
  · unfold f_M_digest_w15
    dsimp only
    rw [w32_of (x := ((gTx g).length : Int)) (by omega) (by omega), if_neg (by omega)]
theorem tot_congr {c c' : Nat → Int} {D D' : Nat → Bool} (h1 : ∀ r : Nat, r < 40 → c r = c' r) (h2 : ∀ r : Nat, r < 40 → D r = D' r) (y : Nat) : tot g c D y = tot g c' D' y := by
  unfold tot
  exact sT_congr (fun r hr => by rw [h1 r hr, h2 r hr])
abbrev FCM : FP := fun k i _ => k = 27 ∧ i = 21
theorem t_comesBy (h : GW I g) (w : ∀ i : Nat, i < 41 → SY (gR g i)) {i : Nat} (hi : i < 41) (v : Int) : Tr (f_M_comesBy (i : Int) v I) (fun _ J => (∀ r : Nat, r < 40 → J 27 21 (26 + r) = I 27 21 (26 + r) + v * ((gR g i).count (26 + (r : Int)) : Int)) ∧ Fm FCM I J) := by
  have hl := (h.1 i hi).2.1
  unfold f_M_comesBy
  refine tr_call (P := fun _ J => (∀ r : Nat, r < 40 → J 27 21 (26 + r) = I 27 21 (26 + r) + v * ((gR g i).count (26 + (r : Int)) : Int)) ∧ Fm FCM I J) (tr_cnt (fun k => (k : Int)) (fun k J => (∀ r : Nat, r < 40 → J 27 21 (26 + r) = I 27 21 (26 + r) + v * (((gR g i).take k).count (26 + (r : Int)) : Int)) ∧ Fm FCM I J) (gR g i).length rfl ⟨fun r _ => by simp, Fm.refl _ _⟩ ?_ ?_) (fun _ _ q => tr_ret q)
  · rintro k J hk ⟨k1, k2⟩
    have hG := h.fm k2 (fun s hs z => by unfold FCM at z; omega)
    have q := (w i hi).at hk
    unfold f_M_comesBy_w2
    rw [m_many hG hi, bnd_some, w32_of (x := (k : Int)) (by omega) (by omega), w32_of (x := ((gR g i).length : Int)) (by omega) (by omega), if_pos (by omega), m_at hG hi hk, bnd_some, w32_of (x := (gR g i).getD k (-1)) (by omega) (by omega), if_pos (by omega)]
    refine tr_ret ⟨rfl, fun r hr => ?_, k2.trans (Fm.sI (by decide) (by omega) (by omega) ⟨rfl, rfl⟩)⟩
    rw [take_at (d := -1) hk, List.count_append, List.count_singleton]
    by_cases e : (gR g i).getD k (-1) = 26 + (r : Int)
    · rw [show ((gR g i).getD k (-1)).toNat = 26 + r by omega, sI_self, k1 r hr, if_pos (by simpa using e), Int.natCast_add, Int.mul_add]
      simp
      omega
    · rw [sI_ne (by omega), k1 r hr, if_neg (by simpa using e)]
      simp
  · rintro J ⟨k1, k2⟩
    have hG := h.fm k2 (fun s hs z => by unfold FCM at z; omega)
    unfold f_M_comesBy_w2
    rw [m_many hG hi, bnd_some, w32_of (x := ((gR g i).length : Int)) (by omega) (by omega), if_neg (by omega)]
    rw [List.take_length] at k1
    exact tr_ret ⟨k1, k2⟩
theorem t_comesOf (h : GW I g) (w : WF g) {r0 : Nat} (hr0 : r0 < 40) (hn0 : gR g (r0 + 1) ≠ []) : Tr (f_M_comesOf (26 + (r0 : Int)) I) (fun x J => x = cm g r0 ∧ GW J g ∧ Fm (fun k i s => FL k i s ∨ FCM k i s) I J) := by
  have hsr : ∀ r : Nat, r < 40 → gR g (r + 1) ≠ [] → SYr (gR g) (26 + (r : Int)) := fun r hr hn => ⟨by omega, by omega, fun _ => by rw [show (26 + (r : Int) - 26).toNat = r by omega]; exact hn⟩
  have hdp1 : ∀ r : Nat, r < 40 → gR g (r + 1) ≠ [] → 1 ≤ dp g (26 + (r : Int)) ∧ dp g (26 + (r : Int)) ≤ 40 := fun r hr hn => by
    have h1 := dp_rule w (hsr r hr hn) (by omega)
    have h2 := (dp_40 w (hsr r hr hn)).2
    rw [show (26 + (r : Int) - 26).toNat = r by omega] at h1
    have h3 := (mT_le (f := fun j => dp g ((gR g (r + 1)).getD j (-1))) (c := 40) (by decide) (n := (gR g (r + 1)).length) (fun j hj => (dp_40 w (w.1 (r + 1) (by omega) _ (getD_mem hj))).2)).1
    unfold mxd at h1
    omega
  -- what stands in a body lies less deep
  have deeper : ∀ r : Nat, r < 40 → gR g (r + 1) ≠ [] → ∀ y ∈ gR g (r + 1), dp g y < dp g (26 + (r : Int)) := fun r hr hn y hy => by
    have h1 := dp_rule w (hsr r hr hn) (by omega)
    rw [show (26 + (r : Int) - 26).toNat = r by omega] at h1
    obtain ⟨j, hj, ej⟩ := List.mem_iff_getElem.mp hy
    have ej2 : (gR g (r + 1)).getD j (-1) = y := by simp [List.getD_eq_getElem?_getD, hj, ej]
    have key : ∀ n : Nat, j < n → dp g y ≤ mT (fun j => dp g ((gR g (r + 1)).getD j (-1))) n := by
      intro n
      induction n with
      | zero => intro h; omega
      | succ n ih =>
        intro hjn
        unfold mT
        by_cases e : j = n
        · subst e; rw [ej2]; split <;> omega
        · have := ih (by omega); split <;> omega
    have := key _ hj
    unfold mxd at h1
    omega
  have absent : ∀ r : Nat, gR g (r + 1) = [] → ∀ i : Nat, i < 41 → (gR g i).count (26 + (r : Int)) = 0 := by
    intro r hn i hi
    rw [List.count_eq_zero]
    intro hm
    exact (w.1 i hi _ hm).2.2 (by omega) (by rw [show (26 + (r : Int) - 26).toNat = r by omega]; exact hn)
  unfold f_M_comesOf
  refine tr_call (t_laysLengths h w) ?_
  rintro _ J1 ⟨l1, g1, f1⟩
  refine tr_call (P := fun _ J => (∀ x : Nat, x < 66 → J 27 21 x = 0) ∧ Fm FCM J1 J) (tr_cnt (fun k => (k : Int)) (fun k J => (∀ x : Nat, x < k → J 27 21 x = 0) ∧ Fm FCM J1 J) 66 rfl ⟨fun x hx => absurd hx (Nat.not_lt_zero x), Fm.refl _ _⟩ ?_ ?_) ?_
  · rintro k J hk ⟨k1, k2⟩
    unfold f_M_comesOf_w6
    rw [w32_of (by omega) (by omega), if_pos (by omega), if_pos (by omega), Int.toNat_natCast]
    refine tr_ret ⟨rfl, fun x hx => ?_, k2.trans (Fm.sI (by decide) (by omega) (by omega) ⟨rfl, rfl⟩)⟩
    by_cases e : x = k
    · subst e; exact sI_self ..
    · rw [sI_ne (by omega)]; exact k1 x (by omega)
  · rintro J ⟨k1, k2⟩
    unfold f_M_comesOf_w6
    rw [if_neg (by decide)]
    exact tr_ret ⟨k1, k2⟩
  rintro _ J2 ⟨z2, f2⟩
  have gcm : ∀ {J : Mem}, Fm FCM J1 J → GW J g := fun f => g1.fm f (fun s hs z => by unfold FCM at z; omega)
  rw [show (0 : Int) = ((0 : Nat) : Int) from rfl]
  refine tr_call (t_comesBy (gcm f2) (fun i hi => w.sy hi) (by omega) 1) ?_
  rintro _ J3 ⟨z3, f3⟩
  have F3 := f2.trans f3
  have c3 : ∀ r : Nat, r < 40 → J3 27 21 (26 + r) = ((gR g 0).count (26 + (r : Int)) : Int) := fun r hr => by rw [z3 r hr, z2 (26 + r) (by omega)]; omega
  refine tr_call (P := fun _ J => (∀ r : Nat, r < 40 → gR g (r + 1) ≠ [] → J 27 21 (26 + r) = cm g r) ∧ Fm FCM J1 J) (tr_whl (fun n s J => ∃ d : Nat, d = n ∧ d ≤ 40 ∧ s = (d : Int) ∧ (∀ y : Nat, y < 40 → tot g (fun r => J 27 21 (26 + r)) (fun r => decide (gR g (r + 1) ≠ [] ∧ (d : Int) < dp g (26 + (r : Int)))) y = cm g y) ∧ (∀ r : Nat, r < 40 → gR g (r + 1) = [] → J 27 21 (26 + r) = 0) ∧ Fm FCM J1 J) ?_ 40 _ _ ⟨40, rfl, by omega, rfl, fun y hy => ?_, fun r hr hn => by rw [c3 r hr, absent r hn 0 (by omega)]; rfl, F3⟩) ?_
  · rintro n s J ⟨d, rfl, hd, rfl, t1, t2, t3⟩
    unfold f_M_comesOf_w34
    rw [w32_of (x := (d : Int)) (by omega) (by omega)]
    by_cases q : d = 0
    · subst q
      rw [if_neg (by omega)]
      refine tr_ret ⟨fun r hr hn => ?_, t3⟩
      have h1 := tot_end (g := g) (c := fun r => J 27 21 (26 + r)) (D := fun r => decide (gR g (r + 1) ≠ [] ∧ ((0 : Nat) : Int) < dp g (26 + (r : Int)))) (fun r hr hD => by
        by_cases e : gR g (r + 1) = []
        · exact t2 r hr e
        · have h2 := (hdp1 r hr e).1
          have h3 := of_decide_eq_false hD
          exact absurd ⟨e, by omega⟩ h3) hr
      rw [t1 r hr] at h1
      exact h1.symm
    · rw [if_pos (by omega)]
      refine tr_call (P := fun _ K => (∀ y : Nat, y < 40 → tot g (fun r => K 27 21 (26 + r)) (fun r => decide (gR g (r + 1) ≠ [] ∧ ((d : Int) < dp g (26 + (r : Int)) ∨ (dp g (26 + (r : Int)) = d ∧ r < 40)))) y = cm g y) ∧ (∀ r : Nat, r < 40 → gR g (r + 1) = [] → K 27 21 (26 + r) = 0) ∧ Fm FCM J1 K) (tr_cnt (fun k => (k : Int)) (fun k K => (∀ y : Nat, y < 40 → tot g (fun r => K 27 21 (26 + r)) (fun r => decide (gR g (r + 1) ≠ [] ∧ ((d : Int) < dp g (26 + (r : Int)) ∨ (dp g (26 + (r : Int)) = d ∧ r < k)))) y = cm g y) ∧ (∀ r : Nat, r < 40 → gR g (r + 1) = [] → K 27 21 (26 + r) = 0) ∧ Fm FCM J1 K) 40 rfl ⟨fun y hy => ?_, t2, t3⟩ ?_ ?_) ?_
      · rw [← t1 y hy]
        exact tot_congr (fun _ _ => rfl) (fun r hr => by congr 1; simp) y
      · rintro k K hk ⟨u1, u2, u3⟩
        have hG := gcm u3
        have l27 : ∀ x : Nat, K 27 6 x = J1 27 6 x := fun x => u3.at (by decide) (by unfold FCM; omega)
        unfold f_M_comesOf_w40
        rw [w32_of (x := (k : Int)) (by omega) (by omega), if_pos (by omega), m_isHere hG hk, bnd_some]
        have noch : (gR g (k + 1) = [] ∨ dp g (26 + (k : Int)) ≠ d) → (∀ y : Nat, y < 40 → tot g (fun r => K 27 21 (26 + r)) (fun r => decide (gR g (r + 1) ≠ [] ∧ ((d : Int) < dp g (26 + (r : Int)) ∨ (dp g (26 + (r : Int)) = d ∧ r < k + 1)))) y = cm g y) := by
          intro hq y hy
          rw [← u1 y hy]
          refine tot_congr (fun _ _ => rfl) (fun r hr => ?_) y
          by_cases e : r = k
          · subst e
            rcases hq with z | z
            · simp [z]
            · simp [z]
          · have : r < k + 1 ↔ r < k := by omega
            simp only [this]
        by_cases e : gR g (k + 1) = []
        · rw [if_pos (wb_neg (fun z => z e))]
          exact tr_ret ⟨rfl, noch (Or.inl e), u2, u3⟩
        · have hd6 := (l1.2 k hk e).2
          have hdr := hdp1 k hk e
          rw [if_neg (wb_pos e), w32_of (x := 26 + (k : Int)) (by omega) (by omega), if_pos (by omega), show ((26 : Int) + (k : Int)).toNat = 26 + k by omega, l27, hd6, w32_of (x := dp g (26 + (k : Int))) (by omega) (by omega), w32_of (x := (d : Int)) (by omega) (by omega)]
          by_cases ed : dp g (26 + (k : Int)) = (d : Int)
          · rw [if_pos ed, show (k : Int) + 1 = ((k + 1 : Nat) : Int) from rfl]
            refine tr_call (t_comesBy hG (fun i hi => w.sy hi) (by omega) _) ?_
            rintro _ L ⟨v1, v2⟩
            refine tr_ret ⟨rfl, fun y hy => ?_, fun r hr hn => ?_, u3.trans v2⟩
            · rw [← u1 y hy, ← tot_step w (c := fun r => K 27 21 (26 + r)) (c' := fun r => L 27 21 (26 + r)) (D := fun r => decide (gR g (r + 1) ≠ [] ∧ ((d : Int) < dp g (26 + (r : Int)) ∨ (dp g (26 + (r : Int)) = d ∧ r < k)))) hk e (decide_eq_false (fun z => by have := z.2; omega)) (fun r hr => v1 r hr) (fun r hr hD => ?_) y]
              · refine tot_congr (fun _ _ => rfl) (fun r hr => ?_) y
                by_cases e2 : r = k
                · subst e2; simp [e, ed]
                · have : r < k + 1 ↔ r < k := by omega
                  simp only [this, e2, decide_false, Bool.or_false]
              · rw [List.count_eq_zero]
                intro hm
                have h1 := deeper k hk e _ hm
                have h2 := (of_decide_eq_true hD).2
                omega
            · rw [v1 r hr, u2 r hr hn, absent r hn _ (by omega)]; simp
          · rw [if_neg ed]
            exact tr_ret ⟨rfl, noch (Or.inr ed), u2, u3⟩
      · rintro K ⟨u1, u2, u3⟩
        unfold f_M_comesOf_w40
        rw [if_neg (by decide)]
        exact tr_ret ⟨u1, u2, u3⟩
      rintro _ K ⟨u1, u2, u3⟩
      refine tr_ret ⟨d - 1, by omega, d - 1, rfl, by omega, by show (d : Int) + -1 = _; omega, fun y hy => ?_, u2, u3⟩
      rw [← u1 y hy]
      refine tot_congr (fun _ _ => rfl) (fun r hr => ?_) y
      congr 1
      apply propext
      constructor
      · rintro ⟨z1, z2⟩
        refine ⟨z1, ?_⟩
        by_cases e : dp g (26 + (r : Int)) = (d : Int)
        · exact Or.inr ⟨e, hr⟩
        · left; omega
      · rintro ⟨z1, z2⟩
        refine ⟨z1, ?_⟩
        rcases z2 with z | z <;> omega
  · rw [cm_0 w y]
    refine tot_congr (fun r hr => (c3 r hr)) (fun r hr => ?_) y
    refine decide_eq_false (fun z => ?_)
    have := (hdp1 r hr z.1).2
    have := z.2
    omega
  rintro _ J4 ⟨z4, f4⟩
  rw [w32_of (by omega) (by omega), if_pos (by omega), show ((26 : Int) + (r0 : Int)).toNat = 26 + r0 by omega, z4 r0 hr0 hn0]
  exact tr_ret ⟨rfl, gcm f4, (f1.mono (fun a b c z => Or.inl z)).trans (f4.mono (fun a b c z => Or.inr z))⟩
theorem t_textLong (h : GW I g) (w : WF g) : Tr (f_M_textLong I) (fun x J => x = ((gT g).length : Int) ∧ J 26 0 10 = mxd (dp g) (gR g 0) ∧ GW J g ∧ Fm FL I J) := by
  unfold f_M_textLong
  refine tr_call (t_laysLengths h w) ?_
  rintro _ J1 ⟨l1, g1, f1⟩
  have hP : PLN J1 g ∨ True := Or.inr trivial
  -- lengths of rules that there are not aren't looked at
  have e : Tr (f_M_lengthOf ((0 : Nat) : Int) J1) (fun x J => x = ll (gL g) (gR g 0) ∧ J 26 0 10 = mxd (dp g) (gR g 0) ∧ Fm (fun k i s => k = 26 ∧ i = 0 ∧ s = 10) J1 J) := by
    have hl4 := w.len400 0 (by omega)
    have hs := w.1 0 (by omega)
    have hsy := w.sy (i := 0) (by omega)
    unfold f_M_lengthOf
    show Tr (whl (f_M_lengthOf_w9 ((0 : Nat) : Int)) (0, 0) (sI J1 26 0 10 0)) _
    refine tr_cnt (fun k => (ll (gL g) ((gR g 0).take k), (k : Int))) (fun k J => J 26 0 10 = mT (fun j => dp g ((gR g 0).getD j (-1))) k ∧ Fm (fun k i s => k = 26 ∧ i = 0 ∧ s = 10) J1 J) (gR g 0).length (by simp [ll]) ⟨sI_self .., Fm.sI (by decide) (by omega) (by omega) ⟨rfl, rfl, rfl⟩⟩ ?_ ?_
    · rintro k J hk ⟨k1, k3⟩
      have hG := g1.fm k3 (fun s hs => by omega)
      have q := hsy.at hk
      have hx := hs _ (getD_mem (d := -1) hk)
      have hdr := dp_40 w hx
      have hmt := mT_le (f := fun j => dp g ((gR g 0).getD j (-1))) (c := 40) (by decide) (n := k) (fun j hj => (dp_40 w (hs _ (getD_mem (by omega)))).2)
      have hsl := w.sl1 hx
      unfold f_M_lengthOf_w9
      dsimp only
      rw [m_many hG (by omega), bnd_some, w32_of (x := (k : Int)) (by omega) (by omega), w32_of (x := ((gR g 0).length : Int)) (by omega) (by omega), if_pos (by omega), m_at hG (by omega) hk, bnd_some, w32_of (x := (gR g 0).getD k (-1)) (by omega) (by omega), if_pos (by omega)]
      have e5 : J 27 5 ((gR g 0).getD k (-1)).toNat = J1 27 5 ((gR g 0).getD k (-1)).toNat := k3.at (by decide) (by omega)
      have e6 : J 27 6 ((gR g 0).getD k (-1)).toNat = J1 27 6 ((gR g 0).getD k (-1)).toNat := k3.at (by decide) (by omega)
      obtain ⟨z1, z2⟩ := l1.sym hx
      rw [e5, e6, z1, z2, w32_of (x := sl (gL g) _) (by omega) (by omega), if_neg (by omega)]
      refine tr_ret ⟨?_, ?_, k3.trans (Fm.sI (by decide) (by omega) (by omega) ⟨rfl, rfl, rfl⟩)⟩
      · rw [take_at (d := -1) hk, ll_app, ll_cons, ll_nil, Int.add_zero]; rfl
      · rw [sI_self, k1]
        unfold imx
        rw [w32_of (x := mT _ k) (by omega) (by omega), w32_of (x := dp g _) (by omega) (by omega)]
        rfl
    · rintro J ⟨k1, k3⟩
      have hG := g1.fm k3 (fun s hs => by omega)
      unfold f_M_lengthOf_w9
      dsimp only
      rw [m_many hG (by omega), bnd_some, w32_of (x := ((gR g 0).length : Int)) (by omega) (by omega), if_neg (by omega)]
      exact tr_ret ⟨by rw [List.take_length], k1, k3⟩
  rw [show (0 : Int) = ((0 : Nat) : Int) from rfl]
  refine tr_call e ?_
  rintro x J2 ⟨rfl, e10, f2⟩
  have f2' : Fm FL J1 J2 := f2.mono (fun a b c z => Or.inr ⟨z.1, z.2.2⟩)
  exact tr_ret ⟨w.2.2.1, e10, g1.fm f2' (fun s hs z => by unfold FL at z; omega), f1.trans f2'⟩
end MTEXT
end
section
/-! ===== the law from its entry to its loop ===== -/
def Zm (Z : ZT) (B : Nat) : ZT := (Z.1, Z.2.1, Z.2.2.1, Z.2.2.2.1, fun k i => match k with | 26 => B + mp 26 i | 27 => B + mp 27 i | 28 => B + mp 28 i | k => zA Z k i)
def Zo (Z : ZT) (B : Nat) : ZT := (Z.1, Z.2.1, Z.2.2.1, Z.2.2.2.1, fun k i => match k with | 29 => B | k => zA Z k i)
theorem KC_m {Z : ZT} {B : Nat} {U : State} (h : KC Z U) : KC (Zm Z B) U := h
theorem KC_o {Z : ZT} {B : Nat} {U : State} (h : KC Z U) : KC (Zo Z B) U := h
theorem AtM_m {Z : ZT} {B : Nat} : AtM (Zm Z B) B := by
  intro k i hk hi
  have h2 := kb_lt hi
  rcases (show k = 26 ∨ k = 27 ∨ k = 28 by omega) with rfl | rfl | rfl <;> rfl
theorem zA_m {Z : ZT} {B k i : Nat} (hk : k < 26) : zA (Zm Z B) k i = zA Z k i := by
  show (match k with | 26 => B + mp 26 i | 27 => B + mp 27 i | 28 => B + mp 28 i | k => zA Z k i) = _
  split <;> first | omega | rfl
theorem zA_o {Z : ZT} {B k i : Nat} (hk : k ≠ 29) : zA (Zo Z B) k i = zA Z k i := by
  show (match k with | 29 => B | k => zA Z k i) = _
  split <;> first | omega | rfl
theorem ad_m {Z : ZT} {gr : Nat → Nat} {B k i : Nat} (hk : k < 26) : adG (Zm Z B) gr k i = adG Z gr k i := by
  unfold adG
  rw [zA_m hk]
theorem ad_o {Z : ZT} {gr : Nat → Nat} {B k i : Nat} (hk : k ≠ 29) : adG (Zo Z B) gr k i = adG Z gr k i := by
  unfold adG
  rw [zA_o hk]
theorem ent_m {Z : ZT} {gr : Nat → Nat} {I : Mem} {B k i : Nat} (hk : k < 26) : ent (Zm Z B) gr I k i = ent Z gr I k i := by
  match k, hk with
  | 0, _ | 1, _ | 2, _ | 3, _ | 4, _ | 5, _ | 6, _ | 7, _ | 8, _ | 9, _ | 10, _ | 11, _ | 12, _ | 13, _ | 14, _ | 15, _ | 16, _ | 17, _ | 18, _ | 19, _ | 20, _ | 21, _ | 22, _ | 23, _ | 24, _ | 25, _ => rfl
  | k + 26, hk => exact absurd hk (by omega)
theorem ent_o {Z : ZT} {gr : Nat → Nat} {I : Mem} {B k i : Nat} (hk : k < 29) : ent (Zo Z B) gr I k i = ent Z gr I k i := by
  match k, hk with
  | 0, _ | 1, _ | 2, _ | 3, _ | 4, _ | 5, _ | 6, _ | 7, _ | 8, _ | 9, _ | 10, _ | 11, _ | 12, _ | 13, _ | 14, _ | 15, _ | 16, _ | 17, _ | 18, _ | 19, _ | 20, _ | 21, _ | 22, _ | 23, _ | 24, _ | 25, _ | 26, _ | 27, _ | 28, _ => rfl
  | k + 29, hk => exact absurd hk (by omega)
theorem re_m {Z : ZT} {gr : Nat → Nat} {I : Mem} {B : Nat} {H : Heap} (h : HHA_a Z gr I H) : HHA_a (Zm Z B) gr I H := by
  obtain ⟨h1, h2, h3, h4⟩ := h
  refine ⟨h1, fun k i k' i' hi hi' he => ?_, fun k i hi => ?_, fun k i hi => ?_⟩
  · rw [ad_m (ka_lt hi), ad_m (ka_lt hi')] at he
    exact h2 k i k' i' hi hi' he
  · rw [ad_m (ka_lt hi)]; exact h3 k i hi
  · rw [ad_m (ka_lt hi), ent_m (ka_lt hi)]; exact h4 k i hi
theorem k30 {k i : Nat} (h : i < ksz k) : k < 30 := by
  rcases Nat.lt_or_ge k 30 with q | q
  · exact q
  · exfalso
    unfold ksz at h
    split at h <;> first | omega | (rw [if_neg (by omega)] at h; omega)
theorem kz_b {k i : Nat} (hk : k ≠ 29) (h : i < ksz k) : i < ksz_b k := by
  have h30 := k30 h
  match k, h30, h with
  | 0, _, h | 1, _, h | 2, _, h | 3, _, h | 4, _, h | 5, _, h | 6, _, h | 7, _, h | 8, _, h | 9, _, h | 10, _, h | 11, _, h | 12, _, h | 13, _, h | 14, _, h | 15, _, h | 16, _, h | 17, _, h | 18, _, h | 19, _, h | 20, _, h | 21, _, h | 22, _, h | 23, _, h | 24, _, h | 25, _, h | 26, _, h | 27, _, h | 28, _, h => exact h
  | 29, _, _ => exact absurd rfl hk
  | k + 30, hk, _ => exact absurd hk (by omega)
theorem re_o {Z : ZT} {gr : Nat → Nat} {I : Mem} {E : Nat → va_E} {H1 H : Heap} (h : HHA_b Z gr I H1) (hI : I 29 0 = fun _ => 0) (hE : E 0 = .inl (zC Z 3, 1, .inr (.inl fun _ => Int64.ofInt 0))) (hH : CHp (zD Z) H1.size H1 1 E H) : HHA (Zo Z H1.size) gr I H := by
  obtain ⟨⟨a1, a2, a3⟩, a4, a5, a6⟩ := h
  obtain ⟨c1, c2, c3, c4⟩ := hH
  have lt : ∀ k i : Nat, k ≠ 29 → i < ksz k → adG Z gr k i < H1.size := fun k i hk hi => (a6 k i (kz_b hk hi)).lt
  have a29 : ∀ i : Nat, adG (Zo Z H1.size) gr 29 i = H1.size := fun i => rfl
  refine ⟨⟨a1, by show zB Z ≤ _; omega, fun q hq => (c3 q (by have hq : q < zB Z := hq; omega)).trans (a3 q hq)⟩, fun k i k' i' hi hi' he => ?_, fun k i hi => ?_, fun k i hi => ?_⟩
  · by_cases q : k = 29
    · subst q
      have hi : i < 1 := hi
      by_cases q' : k' = 29
      · subst q'
        have hi' : i' < 1 := hi'
        exact ⟨rfl, by omega⟩
      · rw [a29, ad_o q'] at he
        have := lt k' i' q' hi'
        omega
    · by_cases q' : k' = 29
      · subst q'
        rw [a29, ad_o q] at he
        have := lt k i q hi
        omega
      · rw [ad_o q, ad_o q'] at he
        exact a4 k i k' i' (kz_b q hi) (kz_b q' hi') he
  · by_cases q : k = 29
    · subst q
      rw [a29]
      exact a2
    · rw [ad_o q]; exact a5 k i (kz_b q hi)
  · by_cases q : k = 29
    · subst q
      rw [a29]
      have hz := c4 0 (by omega)
      rw [hE] at hz
      show va_at (zD Z) cls (H1.size, .inl (zC Z 3, 1, .inr (.inl fun j => Int64.ofInt (I 29 i j)))) H
      have hi : i < 1 := hi
      obtain rfl : i = 0 := by omega
      rw [hI]
      exact hz
    · have h30 := k30 hi
      rw [ad_o q, ent_o (by omega)]
      exact (a6 k i (kz_b q hi)).kept (c3 _ (lt k i q hi))
theorem cls_start {args : Array Value} {s : State} (hts : ∀ w ∈ lw_tbl, w.before args s = true) : ∃ (D : va_G) (zc : Nat → ClassId), ∀ Z : ZT, zD Z = D → zC Z = zc → va_K (zD Z) cls (tysOf Z) s := by
  have hg : ∀ w ∈ lw_good, w.before args s = true := fun w hw => hts w (List.mem_filter.mp hw).1
  obtain ⟨c0, iS0, hKn0⟩ := u_known (C := RX12) (T := TX12) (N := 10) (n := 10) hg in_0 (hg _ (li_1 31 (by decide +kernel) (by decide +kernel)))
  obtain ⟨c1, iS1, hKn1⟩ := u_known (C := RX1) (T := TX1) (N := 10) (n := 10) hg in_1 (hg _ (li_1 39 (by decide +kernel) (by decide +kernel)))
  obtain ⟨c2, iS2, hKn2⟩ := u_known (C := RX5) (T := TX5) (N := 2) (n := 2) hg in_2 (hg _ (li_1 45 (by decide +kernel) (by decide +kernel)))
  obtain ⟨c3, iS3, hKn3⟩ := u_known (C := RX9) (T := TX9) (N := 2) (n := 2) hg in_3 (hg _ (li_1 91 (by decide +kernel) (by decide +kernel)))
  obtain ⟨c4, iS4, hKn4⟩ := u_known (C := RX3) (T := TX3) (N := 10) (n := 10) hg in_4 (hg _ (li_1 97 (by decide +kernel) (by decide +kernel)))
  obtain ⟨c5, iS5, hKn5⟩ := u_known (C := RX10) (T := TX10) (N := 8) (n := 8) hg in_5 (hg _ (li_1 141 (by decide +kernel) (by decide +kernel)))
  obtain ⟨c6, iS6, hKn6⟩ := u_known (C := RX8) (T := TX8) (N := 8) (n := 8) hg in_6 (hg _ (li_1 172 (by decide +kernel) (by decide +kernel)))
  obtain ⟨c7, iS7, hKn7⟩ := u_known (C := RX7) (T := TX7) (N := 7) (n := 7) hg in_7 (hg _ (li_1 203 (by decide +kernel) (by decide +kernel)))
  obtain ⟨c8, iS8, hKn8⟩ := u_known (C := RX6) (T := TX6) (N := 11) (n := 11) hg in_8 (hg _ (li_1 231 (by decide +kernel) (by decide +kernel)))
  obtain ⟨c9, iS9, hKn9⟩ := u_known (C := RX2) (T := TX2) (N := 5) (n := 5) hg in_9 (hg _ (li_2 35 (by decide +kernel) (by decide +kernel)))
  obtain ⟨c10, iS10, hKn10⟩ := u_known (C := RX4) (T := TX4) (N := 2) (n := 2) hg in_10 (hg _ (li_2 61 (by decide +kernel) (by decide +kernel)))
  obtain ⟨c11, iS11, hKn11⟩ := u_known (C := RX13) (T := TX13) (N := 44) (n := 44) hg in_26 (hg _ (li_7 7 (by decide +kernel) (by decide +kernel)))
  have prim : ∀ ty : FieldType, (Cond.arrayClass ty).before args s = true → ∃ cA : ClassId, ArrOfT s cA ty ∧ s.vm.findClass ("[" ++ ty.toString) = some cA := fun ty h => by
    obtain ⟨cA, kA, comp, h1, h2, h3⟩ := Cond.arrayClass_spec h
    exact ⟨cA, fun n z => ⟨fun k h => (by cases h), kA, h2, comp, h3⟩, h1⟩
  have robj : ∀ C : String, (Cond.arrayOver (.object C)).before args s = true → ∃ cA : ClassId, ArrOfT s cA (.object C) ∧ va_RA s cA (.object C) := fun C h => by
    obtain ⟨comp, cA, kA, h1, -, h3, h4, h5⟩ := Cond.arrayOver_spec h
    exact ⟨cA, fun n z => ⟨fun k h => (by cases h), kA, h3, comp, h4⟩, kA, comp, h3, h4, h1, h5⟩
  obtain ⟨a0, p0, q0⟩ := prim .int (hg _ (li_1 57 (by decide +kernel) (by decide +kernel)))
  obtain ⟨a1, p1, q1⟩ := prim .boolean (hg _ (li_2 59 (by decide +kernel) (by decide +kernel)))
  obtain ⟨a2, p2, q2⟩ := prim .byte (hg _ (li_2 73 (by decide +kernel) (by decide +kernel)))
  obtain ⟨a3, p3, q3⟩ := prim .long (hg _ (li_10 2 (by decide +kernel) (by decide +kernel)))
  obtain ⟨a4, p4, q4⟩ := robj RX5 (tbk hts 195 (by decide +kernel))
  obtain ⟨a5, p5, q5⟩ := robj RX1 (tbk hts 418 (by decide +kernel))
  obtain ⟨a6, p6, q6⟩ := robj RX11 (tbk hts 374 (by decide +kernel))
  refine ⟨(fun k => [c0, c1, c2, c3, c4, c5, c6, c7, c8, c9, c10, c11].getD k 0, fun k => ([iS0, iS1, iS2, iS3, iS4, iS5, iS6, iS7, iS8, iS9, iS10, iS11] : List (Nat → Nat)).getD k (fun _ => 0)), fun k => [a0, a1, a2, a3, a4, a5, a6].getD k 0, fun Z e1 e2 => ?_⟩
  rw [e1]
  refine ⟨fun k q hq => ?_, fun k q hq => ?_⟩
  · match k, hq with
    | 0, hq => cases hq; exact hKn0
    | 1, hq => cases hq; exact hKn1
    | 2, hq => cases hq; exact hKn2
    | 3, hq => cases hq; exact hKn3
    | 4, hq => cases hq; exact hKn4
    | 5, hq => cases hq; exact hKn5
    | 6, hq => cases hq; exact hKn6
    | 7, hq => cases hq; exact hKn7
    | 8, hq => cases hq; exact hKn8
    | 9, hq => cases hq; exact hKn9
    | 10, hq => cases hq; exact hKn10
    | 11, hq => cases hq; exact hKn11
    | k + 12, hq => simp [cls] at hq
  · unfold tysOf at hq
    rw [e2] at hq
    match k, hq with
    | 0, hq => cases hq; exact ⟨p0, q0⟩
    | 1, hq => cases hq; exact ⟨p1, q1⟩
    | 2, hq => cases hq; exact ⟨p2, q2⟩
    | 3, hq => cases hq; exact ⟨p3, q3⟩
    | 4, hq => cases hq; exact ⟨p4, q4⟩
    | 5, hq => cases hq; exact ⟨p5, q5⟩
    | 6, hq => cases hq; exact ⟨p6, q6⟩
    | k + 7, hq => simp at hq
def R_law : String := "PairRulesLaw"
def lw_P (b : Addr) (xs : List Int32) (args : Array Value) (s : State) : Prop := args = #[.ref b] ∧ s.IntsAt b xs ∧ xs.length ≤ 3072 ∧ (Jvm.Cond.and given_1 narrow_1).before args s = true
/-- what a walk over the start with the record d0 says of its end, said of the start itself -/
theorem lw_closed {s t : State} {o : Outcome} {d0 : Drawn} {L : List Loc} {k n : Nat} (hd0 : s.drawn.sameBut d0 lw_cs) (hv : ∃ v, o = .returned v) (hW : (s.setDrawn d0).WarmedH t.vm) (hs : (s.setDrawn d0).sameButNew ({ t with vm := s.vm } : State) L k n) : State.butDraws s t lw_cs (fun t1 => Framed s o t1 L k n) := by
  have h2 : t.drawn = d0 := congrArg State.drawn hs.1
  refine ⟨⟨hv, hW, State.sameButNew.setDrawn hs s.drawn⟩, ?_, by decide⟩
  rw [h2]
  exact hd0
def lw_Q (_ : Array Value) (s : State) (o : Outcome) (t : State) : Prop := o = .returned (some (.int 1)) ∧ State.butDraws s t lw_cs (fun t1 => Framed s o t1 [] 601024 7293034)
def lw_Z (below : List Frame) (a : Array Value) (s : State) : State → Prop := fun t => ∃ o, t.status = .running ∧ Ended t below o ∧ lw_Q a s o t
/-- the law's own end, with 1 on the stack, nothing written that was there before, its room as the claim has it; d0: the record of draws at this point (at the entry s.drawn: begin with 'refine W.base ?_' and 'have hd0 := Drawn.sameBut.refl s.drawn lw_cs') -/
theorem lw_ret {p : Program} {l : Launch} {e : Env} {s : State} {m : MethodId} {below : List Frame} {meth : Method} {c : Code} {b : Nat} {d0 : Drawn} (hd0 : s.drawn.sameBut d0 lw_cs) (hx : p.tables.exec = Jvm.exec) (hb : c.code = code) (hr : meth.sig.returnType = ret) (hlocks : meth.locks = false) {pc : Nat} {H : Heap} {ls : Array Slot} (hdg : decode code pc = .ok (.ireturn, 1)) : W p l e room_1 (s.setDrawn d0) m #[Value.ref b] below meth c H [] 601024 7293034 (lw_Z below #[Value.ref b] s) (F0 m pc ls [.int 1]) := by
  intro T hT X
  obtain ⟨fs, hret, hrun, hended, hW, hframe⟩ := X.leave (v := some (.int 1)) (hlocks := hlocks) (fun h => by rw [hr] at h; cases h)
  have hmeth' : T.vm.method? m = some meth := X.method'
  refine ⟨T.setFrames fs, ?_, .returned (some (.int 1)), hrun, hended, rfl, lw_closed hd0 ⟨_, rfl⟩ hW hframe⟩
  jvm_step X.here [X.here.top, hx, hb, hdg, hmeth', hr, ret, narrow_b1]
  (try refine ⟨rfl, ?_⟩); (try refine ⟨rfl, ?_⟩)
  first | (intro acts; rw [hret _ acts rfl rfl rfl]) | rw [hret _ _ rfl rfl rfl]
  exact Steps.refl _
/-- what holds at the law's entry: the machine, the code, the tables' words (any of lw_tbl by 'hts w (by decide +kernel)'), the script of L ints xs at the cell b, what the Statement gives of the start (any of its parts by flat_of_before) -/
def lw_At (p : Program) (s : State) (m : MethodId) (meth : Method) (c : Code) (b L : Nat) (xs : Nat → Int32) : Prop :=
  p.tables.exec = Jvm.exec ∧ c.code = code ∧ meth.sig.returnType = ret ∧ c.maxLocals = 9 ∧ s.vm.findClass R_law = some m.cls ∧ (∀ w ∈ lw_tbl, w.before #[Value.ref b] s = true) ∧ va_X b L xs s s.heap ∧ b < s.heap.size ∧ meth.locks = false ∧ (Jvm.Cond.and given_1 narrow_1).before #[Value.ref b] s = true
set_option maxRecDepth 20000 in
set_option maxHeartbeats 8000000 in
/-- up to the loop's head: a fresh object, a fresh model, the array of one long -/
theorem law_head {p : Program} {e : Env} {s : State} {m : MethodId} {below : List Frame} {meth : Method} {c : Code} {l : Launch} (hfl : l.stackTraces = false) {b0 L : Nat} {xs : Nat → Int32} {Q : State → Prop} (C0 : lw_At p s m meth c b0 L xs)
    (kk : ∀ (Z : ZT) (I : Mem) (H : Heap) (locs : List Loc) (ls : Array Slot) (c0 s0 : Nat), BB p s m #[Value.ref b0] c RL cL_law 9 Z → zB Z = s.heap.size ∧ zH Z = s.heap → FS I → HH Z I H → (∀ q ∈ locs, zN Z q.base) → c0 ≤ 213000 → s0 ≤ 957200 → lv_has ls 9 [(0, .ref b0), (1, vr Z 0 0), (2, vr Z 26 0), (3, vr Z 29 0), (4, vi 0)] → W p l e room_1 s m #[Value.ref b0] below meth c H locs c0 s0 Q (F0 m 23 ls [])) :
    W p l e room_1 s m #[Value.ref b0] below meth c s.heap [] 0 0 Q (entryFrame m ([Value.ref b0] : List Value).toArray 9) := by
  obtain ⟨hx, hb, hr, hml, hown, hts, hX, hbl, hlocks, hgv⟩ := id C0
  have hg : ∀ w ∈ lw_good, w.before #[Value.ref b0] s = true := fun w hw => hts w (List.mem_filter.mp hw).1
  obtain ⟨D, zc, hK0⟩ := cls_start hts
  obtain ⟨a, hSta⟩ := sta_start hts hgv (Z0 := (s.heap.size, s.heap, D, zc, fun _ _ => 0)) ⟨rfl, rfl⟩
  obtain ⟨Z1, e1⟩ : ∃ Z1 : ZT, Z1 = (s.heap.size, s.heap, D, zc, fun k i => if k = 11 ∨ 32 ≤ k then a k i else s.heap.size + pos k i) := ⟨_, rfl⟩
  have hAt : AtF Z1 := by
    intro k i hi h12 h25
    have h26 := ka_lt hi
    have h11 : k ≠ 11 := fun z => by subst z; exact absurd hi (Nat.not_lt_zero _)
    rw [e1]
    show (if k = 11 ∨ 32 ≤ k then a k i else s.heap.size + pos k i) = s.heap.size + pos k i
    rw [if_neg (by omega)]
  have hZ1 : zB Z1 = s.heap.size ∧ zH Z1 = s.heap := by rw [e1]; exact ⟨rfl, rfl⟩
  have hKC1 : KC Z1 s := by
    refine ⟨⟨hK0 Z1 (by rw [e1]) (by rw [e1]), hSta Z1 (by rw [e1]) (by rw [e1]) (fun k i hk => by
      rw [e1]
      show (if k = 11 ∨ 32 ≤ k then a k i else s.heap.size + pos k i) = a k i
      rw [if_pos hk])⟩, fun C hC => ?_⟩
    simp only [aoC, List.mem_cons, List.mem_nil_iff, or_false] at hC
    rcases hC with rfl | rfl | rfl
    · exact va_AO.of (tbk hts 195 (by decide +kernel))
    · exact va_AO.of (tbk hts 418 (by decide +kernel))
    · exact va_AO.of (tbk hts 374 (by decide +kernel))
  clear e1 hK0 hSta
  have b : BB p s m #[Value.ref b0] c RL cL_law 9 Z1 := ⟨hx, hb, hown, hg, hKC1, hml⟩
  obtain ⟨JA, J1, J2, J3, f1, fA, f2, f3, f4, hFS, gr1, gr2⟩ := fs_all
  have hl := lv_entry ([.ref b0]) (n := 9) (Nat.le_of_ble_eq_true rfl)
  rw [lg_entry_eq]
  generalize (lg_sl ([.ref b0]) ++ List.replicate (9 - (lg_sl ([.ref b0])).length) Slot.unset).toArray = ls at hl ⊢
  have hl : lv_has ls 9 [(0, .ref b0)] := hl
  have hlo : ∀ q ∈ ([] : List Loc), zN Z1 q.base := fun q hq => by cases hq
  -- the object
  have hH0 : CHp (zD Z1) (zB Z1) (zH Z1) 0 (fun _ => .inr (0, [])) s.heap := ⟨by rw [hZ1.1, hZ1.2], by rw [hZ1.1]; rfl, fun q _ => by rw [hZ1.2], fun j hj => absurd hj (Nat.not_lt_zero j)⟩
  refine ch_new (ci := 0) tyX12 [.null, .null, .null, .null, .null, .null, .null, .null, .null, vi 0] b hH0 in_0 tyX12_ok (li_1 30 (by decide +kernel) (by decide +kernel)) (li_1 31 (by decide +kernel) (by decide +kernel)) (li_1 1 (by decide +kernel) (by decide +kernel)) rfl (fun j hj => by rcases (show j = 0 ∨ j = 1 ∨ j = 2 ∨ j = 3 ∨ j = 4 ∨ j = 5 ∨ j = 6 ∨ j = 7 ∨ j = 8 ∨ j = 9 by omega) with rfl | rfl | rfl | rfl | rfl | rfl | rfl | rfl | rfl | rfl <;> rfl) (show 0 + 1 ≤ 601024 by omega) (show 0 + 10 ≤ 7293034 by omega) dL_law_0 (fun H hH => ?_)
  refine lv_dup b.1 b.2.1 dL_law_3 rfl ?_
  have hcA := cap_room hFS gr1 gr2
  refine ch_call (y' := yX12_init) (cc' := cX12_init) (maxL' := 1) (h' := 4) (nA := 0) (a := zB Z1 + 0) (As := []) (rest := [.ref (zB Z1 + 0)]) b hl.1 (C_RX12 Z1 hAt f1) ⟨_, uE_self _ _ _, hH⟩ hfl (li_1 34 (by decide +kernel) (by decide +kernel)) (li_1 32 (by decide +kernel) (by decide +kernel)) (li_1 33 (by decide +kernel) (by decide +kernel)) (li_1 1 (by decide +kernel) (by decide +kernel)) rfl (by decide +kernel) rfl rfl ⟨Nat.le_of_ble_eq_true rfl, Nat.le_of_ble_eq_true rfl⟩ (Nat.le_of_ble_eq_true rfl) ⟨show 0 + 1 + (1111 + dC FR0 JA) ≤ 601024 by omega, show 0 + 10 + (21377 + dS FR0 JA) ≤ 7293034 by omega⟩ hlo dL_law_4 (fun H locs hH hlo => ?_)
  have e2 : (.ref (zB Z1 + 0) : Value) = vr Z1 0 0 := by
    unfold vr
    rw [hAt 0 0 (by decide) (by decide) (by decide)]
    rfl
  rw [e2]
  refine lv_astore_n (lv' := [(1, vr Z1 0 0), (0, .ref b0)]) b.1 b.2.1 dL_law_7 rfl hl (by decide) rfl (fun ls hl => ?_)
  -- the model
  obtain ⟨gr, hA⟩ := hH
  obtain ⟨Z2, e3⟩ : ∃ Z2 : ZT, Z2 = Zm Z1 H.size := ⟨_, rfl⟩
  have hA2 : HHA_a Z2 gr JA H := by rw [e3]; exact re_m hA
  have hM2 : AtM Z2 H.size := by rw [e3]; exact AtM_m
  have hZ2 : zB Z2 = s.heap.size ∧ zH Z2 = s.heap := by rw [e3]; exact hZ1
  have hKC2 : KC Z2 s := by rw [e3]; exact KC_m hKC1
  have hv2 : vr Z1 0 0 = vr Z2 0 0 := by rw [e3]; rfl
  rw [hv2] at hl
  have hlo : ∀ q ∈ locs, zN Z2 q.base := fun q hq => by
    have := hlo q hq
    show zB Z2 ≤ _
    rw [hZ2.1, ← hZ1.1]
    exact this
  clear e3
  have b : BB p s m #[Value.ref b0] c RL cL_law 9 Z2 := ⟨hx, hb, hown, hg, hKC2, hml⟩
  have hB2 : zB Z2 ≤ H.size := hA2.1.2.1
  obtain ⟨H1, eH1⟩ : ∃ H1, H1 = H := ⟨_, rfl⟩
  have hH0 : CHp (zD Z2) H.size H 0 (fun _ => .inr (0, [])) H := ⟨rfl, rfl, fun q _ => rfl, fun j hj => absurd hj (Nat.not_lt_zero j)⟩
  refine ch_new (ci := 11) tyX13 [.null, .null, .null, .null, .null, .null, vi 0, vi 0, .null, .null, vi 0, .null, .null, .null, .null, .null, .null, .null, vi 0, .null, vi 0, vi 0, vi 0, vi 0, vi 0, vi 0, vi 0, vi 0, vi 0, vi 0, vi 0, vi 0, .null, .null, .null, .null, .null, .null, vi 0, vi 0, vi 0, .null, .null, vi 0] b hH0 in_26 tyX13_ok (li_7 6 (by decide +kernel) (by decide +kernel)) (li_7 7 (by decide +kernel) (by decide +kernel)) (li_1 16 (by decide +kernel) (by decide +kernel)) rfl (fun j hj => by rcases (show j = 0 ∨ j = 1 ∨ j = 2 ∨ j = 3 ∨ j = 4 ∨ j = 5 ∨ j = 6 ∨ j = 7 ∨ j = 8 ∨ j = 9 ∨ j = 10 ∨ j = 11 ∨ j = 12 ∨ j = 13 ∨ j = 14 ∨ j = 15 ∨ j = 16 ∨ j = 17 ∨ j = 18 ∨ j = 19 ∨ j = 20 ∨ j = 21 ∨ j = 22 ∨ j = 23 ∨ j = 24 ∨ j = 25 ∨ j = 26 ∨ j = 27 ∨ j = 28 ∨ j = 29 ∨ j = 30 ∨ j = 31 ∨ j = 32 ∨ j = 33 ∨ j = 34 ∨ j = 35 ∨ j = 36 ∨ j = 37 ∨ j = 38 ∨ j = 39 ∨ j = 40 ∨ j = 41 ∨ j = 42 ∨ j = 43 by omega) with rfl | rfl | rfl | rfl | rfl | rfl | rfl | rfl | rfl | rfl | rfl | rfl | rfl | rfl | rfl | rfl | rfl | rfl | rfl | rfl | rfl | rfl | rfl | rfl | rfl | rfl | rfl | rfl | rfl | rfl | rfl | rfl | rfl | rfl | rfl | rfl | rfl | rfl | rfl | rfl | rfl | rfl | rfl | rfl <;> rfl) (show 0 + 1 + (1111 + dC FR0 JA) + 1 ≤ 601024 by omega) (show 0 + 10 + (21377 + dS FR0 JA) + 44 ≤ 7293034 by omega) dL_law_8 (fun H' hH => ?_)
  refine lv_dup b.1 b.2.1 dL_law_11 rfl ?_
  refine ch_call (y' := yX13_init) (cc' := cX13_init) (maxL' := 1) (h' := 6) (nA := 0) (a := H.size + 0) (As := []) (rest := [.ref (H.size + 0)]) b hl.1 (C_RX13 Z2 hB2 hM2 fA f2 f3 f4) ⟨_, H, rfl, ⟨gr, hA2⟩, uE_self _ _ _, hH⟩ hfl (li_7 10 (by decide +kernel) (by decide +kernel)) (li_7 8 (by decide +kernel) (by decide +kernel)) (li_7 9 (by decide +kernel) (by decide +kernel)) (li_1 16 (by decide +kernel) (by decide +kernel)) rfl (by decide +kernel) rfl rfl ⟨Nat.le_of_ble_eq_true rfl, Nat.le_of_ble_eq_true rfl⟩ (Nat.le_of_ble_eq_true rfl) ⟨show 0 + 1 + (1111 + dC FR0 JA) + 1 + (24 + dC JA J3) ≤ 601024 by omega, show 0 + 10 + (21377 + dS FR0 JA) + 44 + (304194 + dS JA J3) ≤ 7293034 by omega⟩ hlo dL_law_12 (fun H2 locs hH hlo => ?_)
  have e2 : (.ref (H.size + 0) : Value) = vr Z2 26 0 := by
    unfold vr
    rw [hM2 26 0 (by decide) (by decide)]
    rfl
  rw [e2]
  refine lv_astore_n (lv' := [(2, vr Z2 26 0), (1, vr Z2 0 0), (0, .ref b0)]) b.1 b.2.1 dL_law_15 rfl hl (by decide) rfl (fun ls hl => ?_)
  -- the array
  obtain ⟨gr3, hB⟩ := hH
  have hH0 : CHp (zD Z2) H2.size H2 0 (fun _ => .inr (0, [])) H2 := ⟨rfl, rfl, fun q _ => rfl, fun j hj => absurd hj (Nat.not_lt_zero j)⟩
  refine lv_iconst (v := Int32.ofInt 1) b.1 b.2.1 dL_law_16 rfl ?_
  refine ch_newl (t0 := 3) (N' := 1) (cA := zC Z2 3) b hH0 (li_10 2 (by decide +kernel) (by decide +kernel)) rfl (by decide) (by decide) (show 0 + 1 + (1111 + dC FR0 JA) + 1 + (24 + dC JA J3) + 1 ≤ 601024 by omega) (show 0 + 10 + (21377 + dS FR0 JA) + 44 + (304194 + dS JA J3) + 1 ≤ 7293034 by omega) dL_law_17 (fun H3 hH => ?_)
  have hO := re_o hB (funext fun q => (hFS.2.2.2 29 0 q (by decide) (fun z => by unfold FG at z; omega) (fun z => by unfold FMC FW at z; omega)).trans rfl) (uE_self _ _ _) hH
  obtain ⟨Z3, e3⟩ : ∃ Z3 : ZT, Z3 = Zo Z2 H2.size := ⟨_, rfl⟩
  rw [← e3] at hO
  have hZ3 : zB Z3 = s.heap.size ∧ zH Z3 = s.heap := by rw [e3]; exact hZ2
  have hKC3 : KC Z3 s := by rw [e3]; exact KC_o hKC2
  have e4 : (.ref (H2.size + 0) : Value) = vr Z3 29 0 := by rw [e3]; rfl
  have e5 : vr Z2 26 0 = vr Z3 26 0 := by rw [e3]; rfl
  have e6 : vr Z2 0 0 = vr Z3 0 0 := by rw [e3]; rfl
  rw [e4]
  rw [e5, e6] at hl
  refine lv_astore_n (lv' := [(3, vr Z3 29 0), (2, vr Z3 26 0), (1, vr Z3 0 0), (0, .ref b0)]) b.1 b.2.1 dL_law_19 rfl hl (by decide) rfl (fun ls hl => ?_)
  refine lv_iconst (v := Int32.ofInt 0) b.1 b.2.1 dL_law_20 rfl ?_
  refine lv_istore (lv' := [(4, vi 0), (3, vr Z3 29 0), (2, vr Z3 26 0), (1, vr Z3 0 0), (0, .ref b0)]) b.1 b.2.1 dL_law_21 hl (by decide) rfl (fun ls hl => ?_)
  exact kk Z3 J3 H3 locs ls _ _ ⟨hx, hb, hown, hg, hKC3, hml⟩ hZ3 hFS ⟨gr3, hO⟩ (fun q hq => by
    have := hlo q hq
    show zB Z3 ≤ _
    rw [hZ3.1, ← hZ2.1]
    exact this) (by omega) (by omega) (lv_sub hl [4, 3, 2, 1, 0] rfl)
section LTAB
variable {p : Program} {l : Launch} {e : Env} {R : Room} {s : State} {m : MethodId} {args : Array Value} {below : List Frame} {meth : Method} {c : Code} {H : Heap} {locs : List Loc} {cells slots : Nat} {Q : State → Prop} {cc : ByteArray} {pc nL : Nat} {ls : Array Slot} {rest : List Value} {own : String} {Z : ZT}
theorem lx_tin {x n dflt lo hi off : Int} {offs : Array Int} {len : Nat} (tgt : Nat) (b : BB p s m args c own cc nL Z) (d : decode cc pc = .ok (.tableswitch dflt lo hi offs, len)) (hx : w32 x = n) (h1 : lo ≤ n) (h2 : n ≤ hi) (ho : offs[(n - lo).toNat]? = some off) (ht : (pc : Int) + off = (tgt : Int)) (k : W p l e R s m args below meth c H locs cells slots Q (F0 m tgt ls rest)) : W p l e R s m args below meth c H locs cells slots Q (F0 m pc ls (vi x :: rest)) :=
  lv_tableIn b.1 b.2.1 d (by rw [w_toInt, hx]; omega) (by rw [w_toInt, hx]; omega) (by rw [w_toInt, hx]; exact ho) ht k
theorem lx_tout {x dflt lo hi : Int} {offs : Array Int} {len : Nat} (tgt : Nat) (b : BB p s m args c own cc nL Z) (d : decode cc pc = .ok (.tableswitch dflt lo hi offs, len)) (hx : w32 x < lo ∨ hi < w32 x) (ht : (pc : Int) + dflt = (tgt : Int)) (k : W p l e R s m args below meth c H locs cells slots Q (F0 m tgt ls rest)) : W p l e R s m args below meth c H locs cells slots Q (F0 m pc ls (vi x :: rest)) :=
  lv_tableOut b.1 b.2.1 d (by rw [w_toInt]; exact hx) ht k
end LTAB
end
section
/-! ===== calls one by one: reads ===== -/
section OPS1
variable {I J : Mem} {g : GS}
theorem GW.t0 {v : Int} (h : GW J g) : GW (sI J 26 0 7 v) g := GWf.congr h (fun s _ => sI_ne (by omega))
theorem MPo_s {s : Nat} {v : Int} : MPo J (sI J 26 0 s v) := ⟨sI_ne (by omega), sI_ne (by omega), sI_ne (by omega)⟩
theorem m_fz {w : Int} (h : J 26 0 7 = 0) : f_M_fails 0 w J = some (0, J) := by
  unfold f_M_fails f_M_fails_j16
  rw [h, if_pos (by decide), if_pos (by decide), if_pos (by decide)]
theorem m_f1 {w : Int} (h : J 26 0 7 = 0) (hw : w = 1 ∨ w = 2) : f_M_fails 1 w J = some (1, sI J 26 0 7 w) := by
  unfold f_M_fails f_M_fails_j16
  rw [h, if_pos (by decide), if_neg (by decide)]
  try dsimp only [ltI]
  rw [sI_self, if_neg (by rcases hw with rfl | rfl <;> decide)]
theorem m_in1 {a lo hi : Int} (h : w32 lo ≤ w32 a ∧ w32 a ≤ w32 hi) : f_M_in a lo hi J = some (1, J) := by
  unfold f_M_in
  rw [if_neg (by omega), if_neg (by omega)]
theorem m_in0 {a lo hi : Int} (h : w32 a < w32 lo ∨ w32 hi < w32 a) : f_M_in a lo hi J = some (0, J) := by
  unfold f_M_in
  by_cases q : w32 a < w32 lo
  · rw [if_pos q]
  · rw [if_neg q, if_pos (by omega)]
theorem chk_in {a lo hi w : Int} {K : Mem → Option (Int × Mem)} (h : J 26 0 7 = 0) (hr : w32 lo ≤ w32 a ∧ w32 a ≤ w32 hi) : (bnd (f_M_in a lo hi J) fun x4 J3 => bnd (f_M_fails (if (w32 x4) = 0 then 1 else 0) w J3) fun x7 J6 => if (w32 x7) = 0 then K J6 else some (0, J6)) = K J := by
  rw [m_in1 hr, bnd_some, if_neg (by decide), m_fz h, bnd_some, if_pos (by decide)]
theorem chk_out {a lo hi w : Int} {K : Mem → Option (Int × Mem)} (h : J 26 0 7 = 0) (hw : w = 1 ∨ w = 2) (hr : w32 a < w32 lo ∨ w32 hi < w32 a) : (bnd (f_M_in a lo hi J) fun x4 J3 => bnd (f_M_fails (if (w32 x4) = 0 then 1 else 0) w J3) fun x7 J6 => if (w32 x7) = 0 then K J6 else some (0, J6)) = some (0, sI J 26 0 7 w) := by
  rw [m_in0 hr, bnd_some, if_pos (by decide), m_f1 h hw, bnd_some, if_neg (by decide)]
theorem t_out {w : Int} {e : Option (Int × Mem)} {J0 : Mem} (h : MPo J0 J) (he : e = some (0, sI J 26 0 7 w)) : Tr e (fun _ K => K 26 0 7 = w ∧ MPo J0 K) := by
  rw [he]
  exact tr_ret ⟨sI_self _ _ _ _ _, h.trans MPo_s⟩
theorem w0 : w32 0 = 0 := by decide
theorem w32c (n : Int) (h : -2147483648 ≤ n ∧ n < 2147483648) : w32 n = n := w32_of h.1 h.2
theorem ok_3 (hI : FS I) : ∃ (r1 r2 : Int) (J K : Mem), f_PR_errorPosition I = some (r1, J) ∧ f_M_errorPosition J = some (r2, K) ∧ w32 r1 = w32 r2 ∧ dC I K ≤ 210600 ∧ dS I K ≤ 631700 := by
  refine ok_I (u := -1) ?_ (fun J cp => ?_)
  · unfold f_PR_errorPosition
    refine tr_ret ⟨?_, CP_same⟩
    rw [hI.at (by decide) (by decide)]
    decide
  · unfold f_M_errorPosition
    refine tr_ret ⟨?_, MPo_s⟩
    rw [sI_ne (by decide), cp.1 26 0 27 (by decide) (by decide), hI.at (by decide) (by decide)]
    decide
theorem ok_12 (hI : FS I) (a1 : Int) (h1 : w32 a1 = a1) : OKW (f_L_account a1) (f_M_account a1) I := by
  by_cases hr : 0 ≤ a1 ∧ a1 < 9
  · obtain ⟨j, rfl, hj⟩ : ∃ j : Nat, a1 = (j : Int) ∧ j < 9 := ⟨a1.toNat, by omega, by omega⟩
    refine ok_W (fp := f_PR_account (j : Int)) (u := w32 (gA gF j)) ?_ (fun J cp => ?_)
    · unfold f_PR_account
      rw [h1, if_neg (by omega), if_pos (by omega), g_accountOf hI.1 hj, bnd_some]
      exact tr_ret ⟨⟨_, rfl, rfl⟩, CP_same⟩
    · have gw := (hI.2.2.1.cp cp).t0 (v := 0)
      unfold f_M_account
      try dsimp only [ltI]
      rw [chk_in (sI_self _ _ _ _ _) (by rw [h1, w0, w32c 8 (by decide)]; omega), w32c (6 + (j : Int)) (by omega), if_pos (by omega), show ((6 : Int) + (j : Int)).toNat = 6 + j by omega, gw.2.2.2.2.1 j hj]
      exact tr_ret ⟨rfl, sI_self _ _ _ _ _, MPo_s⟩
  · refine ok_X (fp := f_PR_account a1) (E := xIA) (J := thrw I) (k := 1) ?_ CP_thr (if_pos rfl) (by decide) ?_
    · unfold f_PR_account
      rw [h1]
      by_cases q : a1 < 0
      · rw [if_pos q]
      · rw [if_neg q, if_neg (by omega)]
    · unfold f_M_account
      exact t_out MPo_s (chk_out (sI_self _ _ _ _ _) (Or.inl rfl) (by rw [h1, w0, w32c 8 (by decide)]; omega))
theorem FS.r0 (hI : FS I) : RW I 0 [0] := hI.1.2.1 0 (by decide)
theorem FS.m16 (hI : FS I) : I 27 0 16 = 1 := (hI.2.2.1.1 0 (by decide)).1
theorem FS.m60 (hI : FS I) : I 27 0 60 = 0 := (hI.2.2.1.1 0 (by decide)).2.2 0 (by decide)
theorem m_many0 (h : J 27 0 16 = 1) : f_M_many 0 J = some (1, J) := by
  unfold f_M_many
  rw [if_pos (by decide), show (w32 (16 + 0)).toNat = 16 by decide, h]
theorem ok_8 (hI : FS I) (a1 : Int) (h1 : w32 a1 = a1) : OKW (f_L_startAt a1) (f_M_startAt a1) I := by
  have hb := w32_rng a1
  rw [h1] at hb
  have hrow := row_atI hI.r0 hb.1 hb.2
  by_cases hr : a1 = 0
  · subst hr
    refine ok_W (fp := f_PR_startAt 0) (u := 0) ?_ (fun J cp => ?_)
    · unfold f_PR_startAt
      rw [show 43 * 0 = 0 from rfl, hrow, bnd_some, if_neg (by decide)]
      exact tr_ret ⟨⟨_, rfl, by decide⟩, CP_same⟩
    · have e16 : (sI J 26 0 7 0) 27 0 16 = 1 := by rw [sI_ne (by decide), cp.1 27 0 16 (by decide) (by decide)]; exact hI.m16
      unfold f_M_startAt
      try dsimp only [ltI]
      rw [m_many0 e16, bnd_some, chk_in (sI_self _ _ _ _ _) (by decide)]
      unfold f_M_at
      rw [if_pos (by decide), show (w32 (60 + 400 * 0 + 0)).toNat = 60 by decide, sI_ne (by decide), cp.1 27 0 60 (by decide) (by decide), hI.m60]
      exact tr_ret ⟨by decide, sI_self _ _ _ _ _, MPo_s⟩
  · refine ok_X (fp := f_PR_startAt a1) (E := xIO) (J := thrw I) (k := 1) ?_ CP_thr (if_pos rfl) (by decide) ?_
    · unfold f_PR_startAt
      rw [show 43 * 0 = 0 from rfl, hrow, bnd_some]
      have e : (if a1 < 0 then (-1 : Int) else [(0 : Int)].getD a1.toNat (-1)) = -1 := by
        by_cases q : a1 < 0
        · rw [if_pos q]
        · rw [if_neg q]
          exact getD_out (by simp; omega)
      rw [e, if_pos (by decide)]
    · unfold f_M_startAt
      have e16 : (sI (thrw I) 26 0 7 0) 27 0 16 = 1 := by rw [sI_ne (by decide), (CP_thr (I := I)).1 27 0 16 (by decide) (by decide)]; exact hI.m16
      try dsimp only [ltI]
      rw [m_many0 e16, bnd_some]
      exact t_out MPo_s (chk_out (sI_self _ _ _ _ _) (Or.inl rfl) (by rw [h1, w0, w32c (1 - 1) (by decide)]; omega))
theorem m_isHere0 (h : GW J gF) {r : Nat} (hr : r < 40) : f_M_isHere (r : Int) J = some (0, J) := by
  rw [m_isHere h hr, bI_neg (by rw [gF_Rs]; simp)]
theorem m_noSuch (h : GW J gF) (h7 : J 26 0 7 = 0) {a1 : Int} (h1 : w32 a1 = a1) : f_M_noSuchRule a1 J = some (1, sI J 26 0 7 1) := by
  have key : f_M_noSuchRule_j19 J = some (1, sI J 26 0 7 1) := by
    unfold f_M_noSuchRule_j19
    rw [m_f1 h7 (Or.inl rfl), bnd_some, if_pos (Or.inr rfl)]
  unfold f_M_noSuchRule
  by_cases hr : 0 ≤ a1 ∧ a1 < 40
  · obtain ⟨j, rfl, hj⟩ : ∃ j : Nat, a1 = (j : Int) ∧ j < 40 := ⟨a1.toNat, by omega, by omega⟩
    rw [m_in1 (by rw [h1, w0, w32c 39 (by decide)]; omega), bnd_some, if_neg (by decide), m_isHere0 h hj, bnd_some, if_pos (by decide)]
    exact key
  · rw [m_in0 (by rw [h1, w0, w32c 39 (by decide)]; omega), bnd_some, if_pos (by decide)]
    exact key
theorem ok_7 (hI : FS I) (a1 a2 : Int) (h1 : w32 a1 = a1) (h2 : w32 a2 = a2) : OKW (f_L_bodyAt a1 a2) (f_M_bodyAt a1 a2) I := by
  have hb := w32_rng a1
  rw [h1] at hb
  have hb2 := w32_rng a2
  rw [h2] at hb2
  refine ok_X (fp := f_PR_bodyAt a1 a2) (E := xIO) (J := thrw I) (k := 1) ?_ CP_thr (if_pos rfl) (by decide) ?_
  · have hrw : ∃ r : Nat, f_G_body 0 a1 I = some (r, I) ∧ RW I r [] := by
      refine ⟨_, g_bodyI (by decide) hb.1 hb.2, ?_⟩
      by_cases q : 0 ≤ a1 ∧ a1 < 40
      · rw [if_pos q]; exact hI.1.2.1 (a1.toNat + 1) (by omega)
      · rw [if_neg q]; exact hI.1.2.2.2.1
    obtain ⟨r, e1, hrr⟩ := hrw
    unfold f_PR_bodyAt
    rw [e1, bnd_some, if_pos hrr.1, row_atI hrr hb2.1 hb2.2, bnd_some]
    have e : (if a2 < 0 then (-1 : Int) else ([] : List Int).getD a2.toNat (-1)) = -1 := by
      by_cases q : a2 < 0
      · rw [if_pos q]
      · rw [if_neg q]; rfl
    rw [e, if_pos (by decide)]
  · have gw := (hI.2.2.1.cp (CP_thr (I := I))).t0 (v := 0)
    unfold f_M_bodyAt
    try dsimp only [ltI]
    rw [m_noSuch gw (sI_self _ _ _ _ _) h1, bnd_some, if_neg (by decide)]
    exact t_out MPo_s rfl
theorem g_noRule (hI : FS I) {a1 : Int} (h1 : w32 a1 = a1) : f_G_hasRule 0 a1 I = some (0, I) := by
  have hb := w32_rng a1
  rw [h1] at hb
  rw [g_hasRuleI hI.1 hb.1 hb.2, bI_neg (fun z => z.2.2 (gF_Rs _))]
theorem ok_6 (hI : FS I) (a1 a2 : Int) (h1 : w32 a1 = a1) (_h2 : w32 a2 = a2) : OKW (f_L_rule a1 a2) (f_M_rule a1 a2) I := by
  refine ok_X (fp := f_PR_rule a1 a2) (E := xIO) (J := thrw I) (k := 1) ?_ CP_thr (if_pos rfl) (by decide) ?_
  · unfold f_PR_rule
    rw [g_noRule hI h1, bnd_some, if_pos (by decide)]
  · have gw := (hI.2.2.1.cp (CP_thr (I := I))).t0 (v := 0)
    unfold f_M_rule
    try dsimp only [ltI]
    rw [m_noSuch gw (sI_self _ _ _ _ _) h1, bnd_some, if_neg (by decide)]
    exact t_out MPo_s rfl
theorem m_noRule1 (h7 : J 26 0 7 = 0) {a1 : Int} (h1 : w32 a1 = a1) (hr : 0 ≤ a1 ∧ a1 < 40) : f_M_noRule a1 J = some (0, J) := by
  unfold f_M_noRule
  rw [m_in1 (by rw [h1, w0, w32c 39 (by decide)]; omega), bnd_some, if_neg (by decide), m_fz h7, bnd_some, if_pos (Or.inl rfl)]
theorem m_noRule0 (h7 : J 26 0 7 = 0) {a1 : Int} (h1 : w32 a1 = a1) (hr : ¬ (0 ≤ a1 ∧ a1 < 40)) : f_M_noRule a1 J = some (1, sI J 26 0 7 1) := by
  unfold f_M_noRule
  rw [m_in0 (by rw [h1, w0, w32c 39 (by decide)]; omega), bnd_some, if_pos (by decide), m_f1 h7 (Or.inl rfl), bnd_some, if_pos (Or.inr rfl)]
theorem ok_5 (hI : FS I) (a1 : Int) (h1 : w32 a1 = a1) : ∃ (r1 r2 : Int) (J K : Mem), f_L_isRule a1 I = some (r1, J) ∧ f_M_isRule a1 J = some (r2, K) ∧ w32 (K 26 0 7) = w32 r1 ∧ (w32 r1 = 0 → w64 (K 29 0 0) = w64 (if w32 r2 = 0 then 0 else 1)) ∧ dC I K ≤ 210600 ∧ dS I K ≤ 631700 := by
  by_cases hr : 0 ≤ a1 ∧ a1 < 40
  · obtain ⟨j, rfl, hj⟩ : ∃ j : Nat, a1 = (j : Int) ∧ j < 40 := ⟨a1.toNat, by omega, by omega⟩
    have cp := CP_out (v := 0) (CP_same (I := I))
    have gw := (hI.2.2.1.cp cp).t0 (v := 0)
    refine ⟨0, 0, sI I 29 0 0 0, sI (sI I 29 0 0 0) 26 0 7 0, ?_, ?_, by rw [sI_self], fun _ => ?_, ?_⟩
    · unfold f_L_isRule f_PR_isRule
      rw [h1, if_neg (by omega), if_pos (by omega), g_noRule hI h1, bnd_some, if_pos (Or.inl rfl)]
      exact (if_pos (by decide) : (if w32 0 = 0 then some ((0 : Int), sI I 29 0 0 0) else some (0, sI I 29 0 0 1)) = some (0, sI I 29 0 0 0))
    · unfold f_M_isRule
      try dsimp only [ltI]
      rw [m_noRule1 (sI_self _ _ _ _ _) h1 (by omega), bnd_some, if_pos (by decide), m_isHere0 gw hj, bnd_some, if_pos (by decide)]
    · rw [sI_ne (by decide), sI_self, if_pos (by decide)]
    · have d := d_MPo (I := I) (MPo_s (J := sI I 29 0 0 0) (s := 7) (v := 0))
      have := cp.2.2
      omega
  · have cp := CP_thr (I := I)
    refine ⟨1, 0, thrw I, sI (sI (thrw I) 26 0 7 0) 26 0 7 1, ?_, ?_, by rw [sI_self], fun z => absurd z (by decide), ?_⟩
    · have e : f_PR_isRule a1 I = some (.inr xIO, thrw I) := by
        unfold f_PR_isRule
        rw [h1]
        by_cases q : a1 < 0
        · rw [if_pos q]
        · rw [if_neg q, if_neg (by omega)]
      unfold f_L_isRule
      rw [e]
      exact (if_pos rfl : (if xIO = xIO then some ((1 : Int), thrw I) else none) = some (1, thrw I))
    · unfold f_M_isRule
      try dsimp only [ltI]
      rw [m_noRule0 (sI_self _ _ _ _ _) h1 hr, bnd_some, if_neg (by decide)]
    · have d := d_MPo (I := I) (MPo.trans (MPo_s (J := thrw I) (s := 7) (v := 0)) (MPo_s (s := 7) (v := 1)))
      have := cp.2.2
      omega
theorem ok_14 (hI : FS I) : ∃ (r1 r2 : Int) (J K : Mem), f_PR_rulesGap I = some (r1, J) ∧ f_M_rulesGap J = some (r2, K) ∧ w32 r1 = w32 r2 ∧ dC I K ≤ 210600 ∧ dS I K ≤ 631700 := by
  refine ok_I (u := w32 (((((gN gF 3 + gA gF 1) - gA gF 2) - gA gF 3) - gA gF 4) - nRules gF)) ?_ (fun J cp => ?_)
  · unfold f_PR_rulesGap
    rw [show (1 : Int) = ((1 : Nat) : Int) from rfl, show (2 : Int) = ((2 : Nat) : Int) from rfl, show (3 : Int) = ((3 : Nat) : Int) from rfl, show (4 : Int) = ((4 : Nat) : Int) from rfl, g_accountOf hI.1 (by decide), bnd_some, g_accountOf hI.1 (by decide), bnd_some, g_accountOf hI.1 (by decide), bnd_some, g_accountOf hI.1 (by decide), bnd_some, g_manyRules hI.1, bnd_some, hI.1.2.2.2.2.2.2.2.2.2]
    exact tr_ret ⟨rfl, CP_same⟩
  · have gw := (hI.2.2.1.cp cp).t0 (v := 0)
    unfold f_M_rulesGap
    try dsimp only [ltI]
    rw [m_rules gw, bnd_some, gw.2.2.2.2.2.2.2.2]
    rw [show (sI J 26 0 7 0) 27 0 7 = gA gF 1 from gw.2.2.2.2.1 1 (by decide), show (sI J 26 0 7 0) 27 0 8 = gA gF 2 from gw.2.2.2.2.1 2 (by decide), show (sI J 26 0 7 0) 27 0 9 = gA gF 3 from gw.2.2.2.2.1 3 (by decide), show (sI J 26 0 7 0) 27 0 10 = gA gF 4 from gw.2.2.2.2.1 4 (by decide)]
    exact tr_ret ⟨rfl, MPo_s⟩
theorem ok_35 (hI : FS I) (a1 : Int) (h1 : w32 a1 = a1) : ∃ (r1 r2 : Int) (J K : Mem), f_PR_reportByte a1 I = some (r1, J) ∧ f_M_reportByte a1 J = some (r2, K) ∧ w32 r1 = w32 r2 ∧ dC I K ≤ 210600 ∧ dS I K ≤ 631700 := by
  refine ok_I (u := -1) ?_ (fun J cp => ?_)
  · have e : f_Rep_at a1 I = some (-1, I) := by
      unfold f_Rep_at
      rw [h1]
      by_cases q : a1 < 0
      · rw [if_pos q]
      · rw [if_neg q, hI.at (k := 10) (i := 0) (s := 1) (by decide) (by decide), if_neg (by show ¬ a1 < w32 0; rw [w0]; exact q)]
    unfold f_PR_reportByte
    rw [e, bnd_some]
    exact tr_ret ⟨by decide, CP_same⟩
  · have e43 : (sI J 26 0 7 0) 26 0 43 = 0 := by rw [sI_ne (by decide), cp.1 26 0 43 (by decide) (by decide), hI.at (by decide) (by decide)]; rfl
    unfold f_M_reportByte
    try dsimp only [ltI]
    rw [e43, m_in0 (by rw [h1, w0, w32c (0 - 1) (by decide)]; omega), bnd_some, if_pos (by decide)]
    exact tr_ret ⟨by decide, MPo_s⟩
theorem ok_36 (hI : FS I) : OKW (f_L_undo) (f_M_undo) I := by
  refine ok_X (fp := f_PR_undo) (E := xNS) (J := thrw I) (k := 1) ?_ CP_thr (if_pos rfl) (by decide) ?_
  · unfold f_PR_undo
    rw [hI.at (k := 9) (i := 0) (s := 4) (by decide) (by decide), if_pos (by decide)]
  · have e6 : (sI (thrw I) 26 0 7 0) 26 0 6 = 0 := by rw [sI_ne (by decide), (CP_thr (I := I)).1 26 0 6 (by decide) (by decide), hI.at (by decide) (by decide)]; rfl
    unfold f_M_undo
    try dsimp only [ltI]
    rw [e6, if_pos (by decide), m_f1 (sI_self _ _ _ _ _) (Or.inl rfl), bnd_some, if_neg (by decide)]
    exact t_out MPo_s rfl
theorem m_noSlot1 (h7 : J 26 0 7 = 0) {a1 : Int} (h1 : w32 a1 = a1) (hr : 0 ≤ a1 ∧ a1 < 2) : f_M_noSlot a1 J = some (0, J) := by
  unfold f_M_noSlot
  rw [m_in1 (by rw [h1, w0, w32c 1 (by decide)]; omega), bnd_some, if_neg (by decide), m_fz h7, bnd_some, if_pos (Or.inl rfl)]
theorem m_noSlot0 (h7 : J 26 0 7 = 0) {a1 : Int} (h1 : w32 a1 = a1) (hr : ¬ (0 ≤ a1 ∧ a1 < 2)) : f_M_noSlot a1 J = some (1, sI J 26 0 7 1) := by
  unfold f_M_noSlot
  rw [m_in0 (by rw [h1, w0, w32c 1 (by decide)]; omega), bnd_some, if_pos (by decide), m_f1 h7 (Or.inl rfl), bnd_some, if_pos (Or.inr rfl)]
theorem ok_38 (hI : FS I) (a1 : Int) (h1 : w32 a1 = a1) : OKW (f_L_restore a1) (f_M_restore a1) I := by
  by_cases hr : 0 ≤ a1 ∧ a1 < 2
  · refine ok_X (fp := f_PR_restore a1) (E := xNS) (J := thrw I) (k := 2) ?_ CP_thr ?_ (by decide) ?_
    · have e : f_His_hasKept a1 I = some (0, I) := by
        unfold f_His_hasKept
        rw [h1, if_neg (by omega), if_pos (by omega), if_pos (by omega), hI.at (k := 24) (by decide) (by decide), if_pos (by show w32 0 = 0; decide)]
      unfold f_PR_restore
      rw [h1, if_neg (by omega), if_pos (by omega), e, bnd_some, if_pos (by decide)]
    · show (if xNS = xIA then _ else if xNS = xNS then _ else _) = _
      rw [if_neg (by decide), if_pos rfl]
    · have e28 : (sI (thrw I) 26 0 7 0) 28 0 a1.toNat = 0 := by rw [sI_ne (by omega), (CP_thr (I := I)).1 28 0 _ (by decide) (by decide), hI.at (by decide) (by decide)]; rfl
      unfold f_M_restore
      try dsimp only [ltI]
      rw [m_noSlot1 (sI_self _ _ _ _ _) h1 hr, bnd_some, if_pos (by decide), h1, if_pos (by omega), e28, if_pos (by decide), m_f1 (sI_self _ _ _ _ _) (Or.inr rfl), bnd_some, if_neg (by decide)]
      exact t_out MPo_s rfl
  · refine ok_X (fp := f_PR_restore a1) (E := xIA) (J := thrw I) (k := 1) ?_ CP_thr ?_ (by decide) ?_
    · unfold f_PR_restore
      rw [h1]
      by_cases q : a1 < 0
      · rw [if_pos q]
      · rw [if_neg q, if_neg (by omega)]
    · show (if xIA = xIA then _ else _) = _
      rw [if_pos rfl]
    · unfold f_M_restore
      try dsimp only [ltI]
      rw [m_noSlot0 (sI_self _ _ _ _ _) h1 hr, bnd_some, if_neg (by decide)]
      exact t_out MPo_s rfl
end OPS1
end
section
/-! ===== calls one by one: the text ===== -/
section OPS2
variable {I J : Mem} {g : GS}
theorem gTx_gF : gTx gF = [0] := by decide
theorem LET_gF : LET (gTx gF) := by
  rw [gTx_gF]
  intro x hx
  cases List.mem_singleton.mp hx
  decide
theorem FS.len (hI : FS I) : f_G_textLength 0 I = some (1, I) := by
  rw [g_textLength hI.1 (fun i hi => WF_gF.sy hi)]
  rfl
theorem unfJ (cp : CP I J) (hI : FS I) : f_M_unfolds (sI J 26 0 7 0) = some (1, sI (sI (sI (sI (sI J 26 0 7 0) 27 9 0 0) 27 10 0 0) 27 7 0 0) 27 8 0 0) :=
  unf1 (by rw [sI_ne (by decide), cp.1 27 0 16 (by decide) (by decide)]; exact hI.m16) (by rw [sI_ne (by decide), cp.1 27 0 60 (by decide) (by decide)]; exact hI.m60)
theorem MPo_27 {i s : Nat} {v : Int} : MPo J (sI J 27 i s v) := ⟨sI_ne (by omega), sI_ne (by omega), sI_ne (by omega)⟩
theorem m_place1 (cp : CP I J) (hI : FS I) : f_M_noPlace 0 (sI J 26 0 7 0) = some (0, sI (sI (sI (sI (sI J 26 0 7 0) 27 9 0 0) 27 10 0 0) 27 7 0 0) 27 8 0 0) := by
  unfold f_M_noPlace
  rw [unfJ cp hI, bnd_some, m_in1 (by decide), bnd_some, if_neg (by decide), m_fz (by rw [sI_ne (by decide), sI_ne (by decide), sI_ne (by decide), sI_ne (by decide), sI_self]), bnd_some, if_pos (Or.inl rfl)]
theorem m_place0 (cp : CP I J) (hI : FS I) {a1 : Int} (h1 : w32 a1 = a1) (hr : a1 ≠ 0) : f_M_noPlace a1 (sI J 26 0 7 0) = some (1, sI (sI (sI (sI (sI (sI J 26 0 7 0) 27 9 0 0) 27 10 0 0) 27 7 0 0) 27 8 0 0) 26 0 7 1) := by
  unfold f_M_noPlace
  rw [unfJ cp hI, bnd_some, m_in0 (by rw [h1, w0, w32c (1 - 1) (by decide)]; omega), bnd_some, if_pos (by decide), m_f1 (by rw [sI_ne (by decide), sI_ne (by decide), sI_ne (by decide), sI_ne (by decide), sI_self]) (Or.inl rfl), bnd_some, if_pos (Or.inr rfl)]
theorem MPo_unf : MPo J (sI (sI (sI (sI (sI J 26 0 7 0) 27 9 0 0) 27 10 0 0) 27 7 0 0) 27 8 0 0) := (MPo_s.trans (MPo_27.trans MPo_27)).trans (MPo_27.trans MPo_27)
theorem ok_9 (hI : FS I) (a1 : Int) (h1 : w32 a1 = a1) : OKW (f_L_letterAt a1) (f_M_letterAt a1) I := by
  by_cases hr : a1 = 0
  · subst hr
    refine ok_W (fp := f_PR_letterAt 0) (u := 0) ?_ (fun J cp => ?_)
    · unfold f_PR_letterAt
      rw [if_neg (by decide), hI.len, bnd_some, if_pos (by decide), show (0 : Int) = ((0 : Nat) : Int) from rfl, g_letterOfText hI.1 WF_gF (by rw [gTx_gF]; decide), bnd_some, gTx_gF]
      exact tr_ret ⟨⟨_, rfl, by decide⟩, CP_same⟩
    · unfold f_M_letterAt
      try dsimp only [ltI]
      rw [m_place1 cp hI, bnd_some, if_pos (by decide), if_pos (by decide), show (w32 0).toNat = 0 by decide]
      exact tr_ret ⟨by rw [sI_ne (by decide), sI_self]; decide, by rw [sI_ne (by decide), sI_ne (by decide), sI_ne (by decide), sI_ne (by decide), sI_self], MPo_unf⟩
  · refine ok_X (fp := f_PR_letterAt a1) (E := xIO) (J := thrw I) (k := 1) ?_ CP_thr (if_pos rfl) (by decide) ?_
    · unfold f_PR_letterAt
      rw [h1]
      by_cases q : a1 < 0
      · rw [if_pos q]
      · rw [if_neg q, hI.len, bnd_some, if_neg (by rw [w32c 1 (by decide)]; omega)]
    · unfold f_M_letterAt
      try dsimp only [ltI]
      rw [m_place0 CP_thr hI h1 hr, bnd_some, if_neg (by decide)]
      exact t_out MPo_unf rfl
theorem ok_10 (hI : FS I) (a1 : Int) (h1 : w32 a1 = a1) : OKW (f_L_symbolOf a1) (f_M_symbolOf a1) I := by
  by_cases hr : a1 = 0
  · subst hr
    refine ok_W (fp := f_PR_symbolOf 0) (u := 0) ?_ (fun J cp => ?_)
    · have e := g_placeOver hI.1 WF_gF (i := 0) (p := 0) (by decide) (by decide)
      unfold f_PR_symbolOf
      rw [if_neg (by decide), hI.len, bnd_some, if_pos (by decide), show 43 * 0 = rix 0 0 from rfl, e, bnd_some]
      exact tr_ret ⟨⟨_, rfl, by decide⟩, CP_same⟩
    · unfold f_M_symbolOf
      try dsimp only [ltI]
      rw [m_place1 cp hI, bnd_some, if_pos (by decide), if_pos (by decide), show (w32 0).toNat = 0 by decide]
      exact tr_ret ⟨by rw [sI_self]; decide, by rw [sI_ne (by decide), sI_ne (by decide), sI_ne (by decide), sI_ne (by decide), sI_self], MPo_unf⟩
  · refine ok_X (fp := f_PR_symbolOf a1) (E := xIO) (J := thrw I) (k := 1) ?_ CP_thr (if_pos rfl) (by decide) ?_
    · unfold f_PR_symbolOf
      rw [h1]
      by_cases q : a1 < 0
      · rw [if_pos q]
      · rw [if_neg q, hI.len, bnd_some, if_neg (by rw [w32c 1 (by decide)]; omega)]
    · unfold f_M_symbolOf
      try dsimp only [ltI]
      rw [m_place0 CP_thr hI h1 hr, bnd_some, if_neg (by decide)]
      exact t_out MPo_unf rfl
theorem FSV_ok : ∀ k i s : Nat, FSV k i s → k < 26 ∧ k ≠ 10 := fun k i s z => by unfold FSV at z; omega
theorem FSV_G : ∀ t : Nat, t < 12 → ¬ False → ∀ k i s : Nat, FG t k i s → ¬ FSV k i s := fun t _ _ k i s z q => by unfold FG at z; unfold FSV at q; omega
theorem CP_sv (hI : FS I) (f : Fm FSV I J) : CP I J := CP_of hI f FSV_ok (hI.all.go f (fun _ => False) (fun _ _ z => z.elim) FSV_G)
theorem MPo_fun {J0 K : Mem} (f : Fm FUN J0 K) : MPo J0 K := MPo_of f (fun k i s z => by unfold FUN at z; omega)
theorem ok_11 (hI : FS I) (a1 : Int) (h1 : w32 a1 = a1) : OKW (f_L_letters a1) (f_M_letters a1) I := by
  by_cases hr : 0 ≤ a1 ∧ a1 < 26
  · refine ok_W (fp := f_PR_letters a1) (u := w32 ((gTx gF).count a1 : Int)) ?_ (fun J cp => ?_)
    · have e : f_PR_isLetter a1 I = some (1, I) := by
        unfold f_PR_isLetter
        rw [h1, if_neg (by omega), if_pos (by omega)]
      unfold f_PR_letters
      rw [e, bnd_some, if_neg (by decide)]
      refine tr_call (t_unfold hI.1 WF_gF) ?_
      rintro _ J1 ⟨tx, f1⟩
      rw [s_times tx LET_gF hr, bnd_some]
      exact tr_ret ⟨⟨_, rfl, rfl⟩, CP_sv hI f1⟩
    · have gw := (hI.2.2.1.cp cp).t0 (v := 0)
      unfold f_M_letters
      try dsimp only [ltI]
      rw [chk_in (sI_self _ _ _ _ _) (by rw [h1, w0, w32c 25 (by decide)]; omega)]
      refine tr_call (t_mlettersOf gw WF_gF hr) ?_
      rintro x K ⟨rfl, -, f⟩
      exact tr_ret ⟨rfl, by rw [f.at (by decide) (by decide), sI_self], MPo_s.trans (MPo_fun f)⟩
  · refine ok_X (fp := f_PR_letters a1) (E := xIA) (J := thrw I) (k := 1) ?_ CP_thr (if_pos rfl) (by decide) ?_
    · have e : f_PR_isLetter a1 I = some (0, I) := by
        unfold f_PR_isLetter
        rw [h1]
        by_cases q : a1 < 0
        · rw [if_pos q]
        · rw [if_neg q, if_neg (by omega)]
      unfold f_PR_letters
      rw [e, bnd_some, if_pos (by decide)]
    · unfold f_M_letters
      exact t_out MPo_s (chk_out (sI_self _ _ _ _ _) (Or.inl rfl) (by rw [h1, w0, w32c 25 (by decide)]; omega))
theorem ok_13 (hI : FS I) : ∃ (r1 r2 : Int) (J K : Mem), f_PR_gap I = some (r1, J) ∧ f_M_gap J = some (r2, K) ∧ w32 r1 = w32 r2 ∧ dC I K ≤ 210600 ∧ dS I K ≤ 631700 := by
  refine ok_I (u := w32 (gapN (gTx gF) (gT gF))) ?_ (fun J cp => ?_)
  · unfold f_PR_gap
    refine tr_call (t_unfold hI.1 WF_gF) ?_
    rintro _ J1 ⟨tx, f1⟩
    have hr := (hI.1.fsv f1).2.2.1
    rw [s_gap tx hr, bnd_some]
    exact tr_ret ⟨rfl, CP_sv hI f1⟩
  · refine tr_mono (t_mgap (hI.2.2.1.cp cp) WF_gF) ?_
    rintro x K ⟨rfl, -, f, -⟩
    exact ⟨rfl, MPo_of f (fun k i s z => by unfold FUN at z; omega)⟩
theorem ok_17 (hI : FS I) : ∃ (r1 r2 : Int) (J K : Mem), f_PR_digest I = some (r1, J) ∧ f_M_digest J = some (r2, K) ∧ w64 r1 = w64 r2 ∧ dC I K ≤ 210600 ∧ dS I K ≤ 631700 := by
  have hc : Tr (f_PR_digest I) (fun x J => x = dgN (gTx gF) (gTx gF).length ∧ CP I J) := by
    unfold f_PR_digest
    refine tr_call (t_unfold hI.1 WF_gF) ?_
    rintro _ J1 ⟨tx, f1⟩
    rw [s_number tx, bnd_some]
    exact tr_ret ⟨rfl, CP_sv hI f1⟩
  obtain ⟨r1, J, e1, h1, cp⟩ := hc
  obtain ⟨r2, K, e2, h2, -, f, -⟩ := t_mdigest (hI.2.2.1.cp cp) WF_gF
  have d := d_MPo (I := I) (MPo_of f (fun k i s z => by unfold FUN at z; omega))
  have c3 := cp.2.2
  exact ⟨r1, r2, J, K, e1, e2, by rw [h1, h2], by omega, by omega⟩
theorem FL_ok {J0 K : Mem} (f : Fm FL J0 K) : MPo J0 K := MPo_of f (fun k i s z => by unfold FL at z; omega)
theorem size_x (hI : FS I) (a1 : Int) (h1 : w32 a1 = a1) (hr : ¬ (0 ≤ a1 ∧ a1 < 12)) : OKW (f_L_size a1) (f_M_size a1) I := by
  refine ok_X (fp := f_PR_size a1) (E := xIA) (J := thrw I) (k := 1) ?_ CP_thr (if_pos rfl) (by decide) ?_
  · unfold f_PR_size
    rw [h1, if_neg (by omega), if_neg (by omega), if_neg (by omega), if_neg (by omega), if_neg (by omega), if_neg (by omega), if_neg (by omega), if_neg (by omega), if_neg (by omega), if_neg (by omega), if_neg (by omega), if_neg (by omega)]
  · unfold f_M_size
    exact t_out MPo_s (chk_out (sI_self _ _ _ _ _) (Or.inl rfl) (by rw [h1, w0, w32c 11 (by decide)]; omega))
/-- the model's way to a number of SIZE -/
theorem ok_size {n : Int} (hn : 0 ≤ n ∧ n < 12) {u : Int} (hc : Tr (f_PR_size n I) (fun x J => (∃ v : Int, x = .inl v ∧ w32 v = u) ∧ CP I J)) (hm : ∀ J : Mem, CP I J → Tr (f_M_size n J) (fun x K => w32 x = u ∧ K 26 0 7 = 0 ∧ MPo J K)) : OKW (f_L_size n) (f_M_size n) I := ok_W (fp := f_PR_size n) hc hm
theorem ok_4 (hI : FS I) (a1 : Int) (h1 : w32 a1 = a1) : OKW (f_L_size a1) (f_M_size a1) I := by
  refine Classical.byCases (p := 0 ≤ a1 ∧ a1 < 12) (fun hr => ?_) (size_x hI a1 h1)
  have gwt := fun (J : Mem) (cp : CP I J) => (hI.2.2.1.cp cp).t0 (v := 0)
  have s7 := fun J : Mem => sI_self J 26 0 7 0
  rcases (show a1 = 0 ∨ a1 = 1 ∨ a1 = 2 ∨ a1 = 3 ∨ a1 = 4 ∨ a1 = 5 ∨ a1 = 6 ∨ a1 = 7 ∨ a1 = 8 ∨ a1 = 9 ∨ a1 = 10 ∨ a1 = 11 by omega) with rfl | rfl | rfl | rfl | rfl | rfl | rfl | rfl | rfl | rfl | rfl | rfl
  · refine ok_W (fp := f_PR_size 0) (u := 1) ?_ (fun J cp => ?_)
    · unfold f_PR_size
      rw [if_pos (by decide), hI.len, bnd_some]
      exact tr_ret ⟨⟨_, rfl, by decide⟩, CP_same⟩
    · unfold f_M_size
      try dsimp only [ltI]
      rw [chk_in (s7 J) (by decide), if_pos (by decide)]
      refine tr_call (t_textLong (gwt J cp) WF_gF) ?_
      rintro x K ⟨rfl, -, -, f⟩
      exact tr_ret ⟨by decide, by rw [f.at (by decide) (by decide), s7], MPo_s.trans (FL_ok f)⟩
  · refine ok_W (fp := f_PR_size 1) (u := 1) ?_ (fun J cp => ?_)
    · unfold f_PR_size
      rw [if_neg (by decide), if_pos (by decide), show 43 * 0 = 0 from rfl, hI.r0.2.1]
      exact tr_ret ⟨⟨_, rfl, by decide⟩, CP_same⟩
    · unfold f_M_size
      try dsimp only [ltI]
      rw [chk_in (s7 J) (by decide), if_neg (by decide), if_pos (by decide), m_many0 (by rw [sI_ne (by decide), cp.1 27 0 16 (by decide) (by decide)]; exact hI.m16), bnd_some]
      exact tr_ret ⟨by decide, s7 J, MPo_s⟩
  · refine ok_W (fp := f_PR_size 2) (u := w32 (nRules gF)) ?_ (fun J cp => ?_)
    · unfold f_PR_size
      rw [if_neg (by decide), if_neg (by decide), if_pos (by decide), g_manyRules hI.1, bnd_some]
      exact tr_ret ⟨⟨_, rfl, rfl⟩, CP_same⟩
    · unfold f_M_size
      try dsimp only [ltI]
      rw [chk_in (s7 J) (by decide), if_neg (by decide), if_neg (by decide), if_pos (by decide), m_rules (gwt J cp), bnd_some]
      exact tr_ret ⟨rfl, s7 J, MPo_s⟩
  · refine ok_W (fp := f_PR_size 3) (u := w32 (gSize gF)) ?_ (fun J cp => ?_)
    · unfold f_PR_size
      rw [if_neg (by decide), if_neg (by decide), if_neg (by decide), if_pos (by decide), g_totalSize hI.1, bnd_some]
      exact tr_ret ⟨⟨_, rfl, rfl⟩, CP_same⟩
    · unfold f_M_size
      try dsimp only [ltI]
      rw [chk_in (s7 J) (by decide), if_neg (by decide), if_neg (by decide), if_neg (by decide), if_pos (by decide), m_sizeNow (gwt J cp), bnd_some]
      exact tr_ret ⟨rfl, s7 J, MPo_s⟩
  · refine ok_W (fp := f_PR_size 4) (u := w32 (gN gF 0)) ?_ (fun J cp => ?_)
    · unfold f_PR_size
      rw [if_neg (by decide), if_neg (by decide), if_neg (by decide), if_neg (by decide), if_pos (by decide), show (4 : Int) = 4 + ((0 : Nat) : Int) from rfl, g_number hI.1 (by decide), bnd_some]
      exact tr_ret ⟨⟨_, rfl, rfl⟩, CP_same⟩
    · unfold f_M_size
      try dsimp only [ltI]
      rw [chk_in (s7 J) (by decide), if_neg (by decide), if_neg (by decide), if_neg (by decide), if_neg (by decide), if_pos (by decide), if_pos (by decide), show (w32 (4 - 4)).toNat = 0 by decide, (gwt J cp).2.2.2.2.2.1]
      exact tr_ret ⟨rfl, s7 J, MPo_s⟩
  · refine ok_W (fp := f_PR_size 5) (u := w32 (gN gF 1)) ?_ (fun J cp => ?_)
    · unfold f_PR_size
      rw [if_neg (by decide), if_neg (by decide), if_neg (by decide), if_neg (by decide), if_neg (by decide), if_pos (by decide), show (5 : Int) = 4 + ((1 : Nat) : Int) from rfl, g_number hI.1 (by decide), bnd_some]
      exact tr_ret ⟨⟨_, rfl, rfl⟩, CP_same⟩
    · unfold f_M_size
      try dsimp only [ltI]
      rw [chk_in (s7 J) (by decide), if_neg (by decide), if_neg (by decide), if_neg (by decide), if_neg (by decide), if_neg (by decide), if_pos (by decide), if_pos (by decide), show (w32 (5 - 4)).toNat = 1 by decide, (gwt J cp).2.2.2.2.2.2.1]
      exact tr_ret ⟨rfl, s7 J, MPo_s⟩
  · refine ok_W (fp := f_PR_size 6) (u := w32 (gN gF 2)) ?_ (fun J cp => ?_)
    · unfold f_PR_size
      rw [if_neg (by decide), if_neg (by decide), if_neg (by decide), if_neg (by decide), if_neg (by decide), if_neg (by decide), if_pos (by decide), show (6 : Int) = 4 + ((2 : Nat) : Int) from rfl, g_number hI.1 (by decide), bnd_some]
      exact tr_ret ⟨⟨_, rfl, rfl⟩, CP_same⟩
    · unfold f_M_size
      try dsimp only [ltI]
      rw [chk_in (s7 J) (by decide), if_neg (by decide), if_neg (by decide), if_neg (by decide), if_neg (by decide), if_neg (by decide), if_neg (by decide), if_pos (by decide), if_pos (by decide), show (w32 (6 - 4)).toNat = 2 by decide, (gwt J cp).2.2.2.2.2.2.2.1]
      exact tr_ret ⟨rfl, s7 J, MPo_s⟩
  · refine ok_W (fp := f_PR_size 7) (u := w32 (gLongest gF)) ?_ (fun J cp => ?_)
    · unfold f_PR_size
      rw [if_neg (by decide), if_neg (by decide), if_neg (by decide), if_neg (by decide), if_neg (by decide), if_neg (by decide), if_neg (by decide), if_pos (by decide), g_longestBody hI.1, bnd_some]
      exact tr_ret ⟨⟨_, rfl, rfl⟩, CP_same⟩
    · unfold f_M_size
      try dsimp only [ltI]
      rw [chk_in (s7 J) (by decide), if_neg (by decide), if_neg (by decide), if_neg (by decide), if_neg (by decide), if_neg (by decide), if_neg (by decide), if_neg (by decide), if_pos (by decide), m_longest (gwt J cp), bnd_some]
      exact tr_ret ⟨rfl, s7 J, MPo_s⟩
  · refine ok_W (fp := f_PR_size 8) (u := w32 (mxd (dp gF) (gR gF 0))) ?_ (fun J cp => ?_)
    · unfold f_PR_size
      rw [if_neg (by decide), if_neg (by decide), if_neg (by decide), if_neg (by decide), if_neg (by decide), if_neg (by decide), if_neg (by decide), if_neg (by decide), if_pos (by decide)]
      refine tr_call (t_measure hI.1 WF_gF) ?_
      rintro _ J1 ⟨-, f1⟩
      have hr0 := (hI.1.fsv f1).2.1 0 (by decide)
      rw [show 43 * 0 = rix 0 0 from rfl, s_deepest (d := dp gF) hr0 (WF_gF.sy (by decide)) (fun x hx => ?_) (fun x hx h26 => ?_) (fun x hx => ?_), bnd_some]
      · exact tr_ret ⟨⟨_, rfl, rfl⟩, CP_sv hI f1⟩
      · unfold dp
        rw [show sl (gL gF) x = 1 from if_pos hx]
        show dpF (gR gF) 1 x = 0
        unfold dpF
        rw [if_pos hx]
      · cases List.mem_singleton.mp hx
        exact absurd h26 (by decide)
      · cases List.mem_singleton.mp hx
        decide
    · unfold f_M_size
      try dsimp only [ltI]
      rw [chk_in (s7 J) (by decide), if_neg (by decide), if_neg (by decide), if_neg (by decide), if_neg (by decide), if_neg (by decide), if_neg (by decide), if_neg (by decide), if_neg (by decide), if_pos (by decide)]
      unfold f_M_deepNow
      rw [tr_bnd, tr_bnd]
      refine tr_mono (t_textLong (gwt J cp) WF_gF) ?_
      rintro x K ⟨rfl, h10, -, f⟩
      rw [if_pos (by decide), h10]
      refine tr_ret (tr_ret ⟨rfl, by rw [f.at (by decide) (by decide), s7], MPo_s.trans (FL_ok f)⟩)
  · refine ok_W (fp := f_PR_size 9) (u := w32 (unlN (gTx gF))) ?_ (fun J cp => ?_)
    · unfold f_PR_size
      rw [if_neg (by decide), if_neg (by decide), if_neg (by decide), if_neg (by decide), if_neg (by decide), if_neg (by decide), if_neg (by decide), if_neg (by decide), if_neg (by decide), if_pos (by decide)]
      refine tr_call (t_unfold hI.1 WF_gF) ?_
      rintro _ J1 ⟨tx, f1⟩
      rw [s_unlike tx LET_gF, bnd_some]
      exact tr_ret ⟨⟨_, rfl, rfl⟩, CP_sv hI f1⟩
    · unfold f_M_size
      try dsimp only [ltI]
      rw [chk_in (s7 J) (by decide), if_neg (by decide), if_neg (by decide), if_neg (by decide), if_neg (by decide), if_neg (by decide), if_neg (by decide), if_neg (by decide), if_neg (by decide), if_neg (by decide), if_pos (by decide)]
      refine tr_call (t_munlike (gwt J cp) WF_gF) ?_
      rintro x K ⟨rfl, -, f⟩
      exact tr_ret ⟨rfl, by rw [f.at (by decide) (by decide), s7], MPo_s.trans (MPo_fun f)⟩
  · refine ok_W (fp := f_PR_size 10) (u := w32 (worthN gF)) ?_ (fun J cp => ?_)
    · unfold f_PR_size
      rw [if_neg (by decide), if_neg (by decide), if_neg (by decide), if_neg (by decide), if_neg (by decide), if_neg (by decide), if_neg (by decide), if_neg (by decide), if_neg (by decide), if_neg (by decide), if_pos (by decide)]
      refine tr_call (t_readFrom hI.1 WF_gF hI.2.1) ?_
      rintro _ J1 ⟨hd, -, -, f1⟩
      refine tr_ret ⟨⟨_, rfl, by rw [hd.2.2.1]⟩, CP_of hI f1 (fun k i s z => by unfold FPA at z; omega) (hI.all.go f1 (fun _ => False) (fun _ _ z => z.elim) (fun t _ _ k i s z q => by unfold FG at z; unfold FPA at q; omega))⟩
    · unfold f_M_size
      try dsimp only [ltI]
      rw [chk_in (s7 J) (by decide), if_neg (by decide), if_neg (by decide), if_neg (by decide), if_neg (by decide), if_neg (by decide), if_neg (by decide), if_neg (by decide), if_neg (by decide), if_neg (by decide), if_neg (by decide), if_pos (by decide)]
      unfold f_M_worthNow
      rw [tr_bnd, tr_bnd]
      refine tr_mono (t_laysPairs (gwt J cp) (fun i hi => WF_gF.sy hi)) ?_
      rintro _ K ⟨mp, gk, f⟩
      rw [m_worthy gk mp WF_gF (by decide), bnd_some, if_pos rfl]
      refine tr_ret (tr_ret ⟨rfl, by rw [f.at (by decide) (by decide), s7], MPo_s.trans (MPo_of f (fun k i s z => by unfold FMP at z; omega))⟩)
  · refine ok_W (fp := f_PR_size 11) (u := 0) ?_ (fun J cp => ?_)
    · unfold f_PR_size
      rw [if_neg (by decide), if_neg (by decide), if_neg (by decide), if_neg (by decide), if_neg (by decide), if_neg (by decide), if_neg (by decide), if_neg (by decide), if_neg (by decide), if_neg (by decide), if_neg (by decide), if_pos (by decide), hI.at (k := 9) (by decide) (by decide)]
      exact tr_ret ⟨⟨_, rfl, by decide⟩, CP_same⟩
    · unfold f_M_size
      try dsimp only [ltI]
      rw [chk_in (s7 J) (by decide), if_neg (by decide), if_neg (by decide), if_neg (by decide), if_neg (by decide), if_neg (by decide), if_neg (by decide), if_neg (by decide), if_neg (by decide), if_neg (by decide), if_neg (by decide), if_neg (by decide), if_pos (by decide), sI_ne (by decide), cp.1 26 0 6 (by decide) (by decide), hI.at (k := 26) (by decide) (by decide)]
      exact tr_ret ⟨by decide, s7 J, MPo_s⟩
end OPS2
end
section
/-! ===== calls one by one: pairs and steps ===== -/
section OPS3
variable {I J : Mem} {g : GS}
theorem nz_F (h : gR g = gR gF) (x : Nat) : nz g x = false := by
  have hl : (gR gF (x / 400)).length ≤ 1 := by
    rw [gF_R]
    split
    · exact Nat.le_refl 1
    · exact Nat.zero_le 1
  unfold nz
  rw [h, decide_eq_false (by omega : ¬ (x % 400 + 1 < (gR gF (x / 400)).length)), Bool.false_and, Bool.and_false]
theorem cz_F (h : gR g = gR gF) (p c : Nat) : cz g p c = 0 := by
  refine Classical.byContradiction fun q => ?_
  obtain ⟨x, _, hx, _⟩ := cz_mem q
  rw [nz_F h] at hx
  cases hx
theorem bestP_F (h : gR g = gR gF) (w : WF g) : bestP g = -1 := bestP_none (fun q _ => by
  cases e : wz g q with
  | false => rfl
  | true => exact absurd (cz_F h _ _) (wz_cz w e))
theorem stepsG_F (h : gR g = gR gF) (w : WF g) (n : Nat) : stepsG n g = (0, g) := stepsG_none (bestP_F h w)
abbrev FX (t u : Nat) : FP := fun k i s => FG t k i s ∨ FG u k i s ∨ (k < 26 ∧ k ≠ 10 ∧ k ≠ 1 ∧ k ≠ 2 ∧ k ≠ 12 ∧ k ≠ 14 ∧ k ≠ 15)
theorem CP_x {t u : Nat} {g' : GS} (hI : FS I) (f : Fm (FX t u) I J) (ht : GC J t g) (hu : GC J u g') : CP I J := by
  refine CP_of hI f (fun k i s z => by unfold FX FG at z; omega) (hI.all.go f (fun x => x = t ∨ x = u) (fun x _ z => ?_) (fun x _ z k i s q q2 => by unfold FG at q; unfold FX FG at q2; omega))
  rcases z with rfl | rfl
  · exact ⟨_, ht⟩
  · exact ⟨_, hu⟩
theorem fx_g {t u : Nat} : ∀ k i s : Nat, FG t k i s → FX t u k i s := fun _ _ _ z => Or.inl z
theorem fx_h {t u : Nat} : ∀ k i s : Nat, FG u k i s → FX t u k i s := fun _ _ _ z => Or.inr (Or.inl z)
theorem fx_p {t u : Nat} : ∀ k i s : Nat, FPA k i s → FX t u k i s := fun k i s z => Or.inr (Or.inr (by unfold FPA at z; omega))
theorem fx_s {t u : Nat} : ∀ k i s : Nat, FST t k i s → FX t u k i s := fun k i s z => by
  rcases z with q | q | q
  · exact Or.inl q
  · exact Or.inr (Or.inr (by omega))
  · exact fx_p _ _ _ q
theorem fx_s' {t u : Nat} : ∀ k i s : Nat, FST u k i s → FX t u k i s := fun k i s z => by
  rcases z with q | q | q
  · exact fx_h _ _ _ q
  · exact Or.inr (Or.inr (by omega))
  · exact fx_p _ _ _ q
theorem fx_u {t u : Nat} : ∀ k i s : Nat, FGU t k i s → FX t u k i s := fun k i s z => z.elim Or.inl (fun q => Or.inr (Or.inr (by omega)))
abbrev FM7 : FP := fun k _ s => k = 27 ∨ k = 28 ∨ (k = 26 ∧ s ≠ 7)
theorem m7 (f : Fm FM7 I J) : MPo I J := MPo_of f (fun k i s z => by unfold FM7 at z; omega)
theorem m7z (f : Fm FM7 I J) : J 26 0 7 = I 26 0 7 := f.at (by decide) (by decide)
theorem f7_w : ∀ k i s : Nat, FW k i s → FM7 k i s := fun k i s z => by unfold FW at z; unfold FM7; omega
theorem f7_mp : ∀ k i s : Nat, FMP k i s → FM7 k i s := fun k i s z => by unfold FMP at z; unfold FM7; omega
theorem f7_l : ∀ k i s : Nat, FL k i s → FM7 k i s := fun k i s z => by unfold FL at z; unfold FM7; omega
theorem f7_bp : ∀ k i s : Nat, FBP k i s → FM7 k i s := fun k i s z => z.elim (f7_mp k i s) (f7_l k i s)
theorem f7_ms : ∀ k i s : Nat, FMS k i s → FM7 k i s := fun k i s z => z.elim (f7_w k i s) (f7_bp k i s)
/-- one call of the model, begun with the fault's cell at 0 -/
theorem m7_end {e : Option (Int × Mem)} {J : Mem} {u : Int} (h : Tr e (fun x K => w32 x = u ∧ Fm FM7 (sI J 26 0 7 0) K)) : Tr e (fun x K => w32 x = u ∧ K 26 0 7 = 0 ∧ MPo J K) := by
  refine tr_mono h (fun x K z => ⟨z.1, ?_, MPo_s.trans (m7 z.2)⟩)
  rw [m7z z.2, sI_self]
theorem m7_I {e : Option (Int × Mem)} {J : Mem} {u : Int} (h : Tr e (fun x K => w32 x = u ∧ Fm FM7 (sI J 26 0 7 0) K)) : Tr e (fun x K => w32 x = u ∧ MPo J K) := tr_mono h (fun _ _ z => ⟨z.1, MPo_s.trans (m7 z.2)⟩)
theorem m_noPair1 (h7 : J 26 0 7 = 0) {a b : Int} (ha : w32 a = a) (hb : w32 b = b) (hr : (0 ≤ a ∧ a < 66) ∧ 0 ≤ b ∧ b < 66) : f_M_noPair a b J = some (0, J) := by
  unfold f_M_noPair
  rw [m_in1 (by rw [ha, w0, w32c 65 (by decide)]; omega), bnd_some, if_neg (by decide), m_in1 (by rw [hb, w0, w32c 65 (by decide)]; omega), bnd_some, if_neg (by decide), m_fz h7, bnd_some, if_pos (Or.inl rfl)]
theorem m_noPair0 (h7 : J 26 0 7 = 0) {a b : Int} (ha : w32 a = a) (hb : w32 b = b) (hr : ¬ ((0 ≤ a ∧ a < 66) ∧ 0 ≤ b ∧ b < 66)) : f_M_noPair a b J = some (1, sI J 26 0 7 1) := by
  have key : f_M_noPair_j21 J = some (1, sI J 26 0 7 1) := by
    unfold f_M_noPair_j21
    rw [m_f1 h7 (Or.inl rfl), bnd_some, if_pos (Or.inr rfl)]
  unfold f_M_noPair
  by_cases q : 0 ≤ a ∧ a < 66
  · rw [m_in1 (by rw [ha, w0, w32c 65 (by decide)]; omega), bnd_some, if_neg (by decide), m_in0 (by rw [hb, w0, w32c 65 (by decide)]; omega), bnd_some, if_pos (by decide)]
    exact key
  · rw [m_in0 (by rw [ha, w0, w32c 65 (by decide)]; omega), bnd_some, if_pos (by decide)]
    exact key
theorem nat_pair {a b : Int} (hr : (0 ≤ a ∧ a < 66) ∧ 0 ≤ b ∧ b < 66) : ∃ p : Nat, p < 4356 ∧ a * 66 + b = (p : Int) ∧ 66 * a + b = (p : Int) := ⟨(a * 66 + b).toNat, by omega, by omega, by omega⟩
theorem FS.read (hI : FS I) : Tr (f_PT_readFrom 0 I) (fun _ J => PTd J 0 gF ∧ CP I J) := tr_mono (t_readFrom hI.1 WF_gF hI.2.1) (fun _ _ z => ⟨z.1, CP_x hI (z.2.2.2.mono fx_p) z.2.2.1 z.2.2.1⟩)
theorem kz_F (h : gR g = gR gF) (p : Nat) : kz g p 40 = -1 := by
  rcases Int.lt_or_eq_of_le (fF_rng (p := fun r => decide (gR g (r + 1) = [((p / 66 : Nat) : Int), ((p % 66 : Nat) : Int)])) 40 0 |>.elim And.left (fun z => by rw [z]; decide)) with q | q
  · obtain ⟨j, _, _, _, hj, _⟩ := fF_some (p := fun r => decide (gR g (r + 1) = [((p / 66 : Nat) : Int), ((p % 66 : Nat) : Int)])) (n := 40) (k := 0) (by omega)
    rw [h] at hj
    cases of_decide_eq_true hj
  · exact q.symm
theorem mLay (h : GW J gF) : Tr (f_M_laysPairs J) (fun _ K => MP K gF ∧ Fm FM7 J K) := tr_mono (t_laysPairs h (fun i hi => WF_gF.sy hi)) (fun _ _ z => ⟨z.1, z.2.2.mono f7_mp⟩)
/-- two symbols out of range -/
theorem pair_x {fp : Int → Int → Mem → Option ((Int ⊕ String) × Mem)} {fm : Int → Int → Mem → Option (Int × Mem)} {a1 a2 : Int} (h1 : w32 a1 = a1) (h2 : w32 a2 = a2) (hr : ¬ ((0 ≤ a1 ∧ a1 < 66) ∧ 0 ≤ a2 ∧ a2 < 66))
    (hc : ∀ x y : Int, x = bI (0 ≤ a1 ∧ a1 < 66) → y = bI (0 ≤ a2 ∧ a2 < 66) → f_PR_isSymbol a1 I = some (x, I) → f_PR_isSymbol a2 I = some (y, I) → w32 x = 0 ∨ w32 x ≠ 0 ∧ w32 y = 0 → fp a1 a2 I = some (.inr xIA, thrw I))
    (hm : ∀ J : Mem, f_M_noPair a1 a2 (sI J 26 0 7 0) = some (1, sI (sI J 26 0 7 0) 26 0 7 1) → fm a1 a2 J = some (0, sI (sI J 26 0 7 0) 26 0 7 1))
    {KR : Int → Mem → Option (Int × Mem)} {KX : String → Mem → Option (Int × Mem)} (hk : KX xIA (thrw I) = some (1, thrw I)) : OKW (fun I => bndX (fp a1 a2 I) KR KX) (fm a1 a2) I := by
  have hb := w32_rng a1
  rw [h1] at hb
  have hb2 := w32_rng a2
  rw [h2] at hb2
  refine ok_X (fp := fp a1 a2) (E := xIA) (J := thrw I) (k := 1) ?_ CP_thr hk (by decide) ?_
  · refine hc _ _ rfl rfl (p_isSymbol hb.1 hb.2) (p_isSymbol hb2.1 hb2.2) ?_
    by_cases q : 0 ≤ a1 ∧ a1 < 66
    · exact Or.inr ⟨by rw [bI_pos q]; decide, by rw [bI_neg (fun z => hr ⟨q, z⟩)]; decide⟩
    · exact Or.inl (by rw [bI_neg q]; decide)
  · exact t_out MPo_s (hm _ (m_noPair0 (sI_self _ _ _ _ _) h1 h2 hr))
theorem sym_in {a : Int} (ha : w32 a = a) (hr : 0 ≤ a ∧ a < 66) : f_PR_isSymbol a I = some (1, I) := by
  have hb := w32_rng a
  rw [ha] at hb
  rw [p_isSymbol hb.1 hb.2, bI_pos hr]
theorem ok_18 (hI : FS I) (a1 a2 : Int) (h1 : w32 a1 = a1) (h2 : w32 a2 = a2) : OKW (f_L_count a1 a2) (f_M_count a1 a2) I := by
  by_cases hr : (0 ≤ a1 ∧ a1 < 66) ∧ 0 ≤ a2 ∧ a2 < 66
  · obtain ⟨p, hp, e1, e2⟩ := nat_pair hr
    refine ok_W (fp := f_PR_count a1 a2) (u := 0) ?_ (fun J cp => m7_end ?_)
    · unfold f_PR_count
      rw [sym_in h1 hr.1, bnd_some, if_neg (by decide), sym_in h2 hr.2, bnd_some, if_neg (by decide)]
      refine tr_call hI.read ?_
      rintro _ J1 ⟨pd, cp⟩
      rw [p_pairOf hr.1 hr.2, bnd_some, e1, p_countOf pd.1 hp, bnd_some, cz_F rfl]
      exact tr_ret ⟨⟨_, rfl, by decide⟩, cp⟩
    · unfold f_M_count
      try dsimp only [ltI]
      rw [m_noPair1 (sI_self _ _ _ _ _) h1 h2 hr, bnd_some, if_pos (by decide)]
      refine tr_call (mLay ((hI.2.2.1.cp cp).t0 (v := 0))) ?_
      rintro _ K ⟨mp, f⟩
      unfold f_M_pair
      rw [bnd_some, e2, w32_of (by omega) (by omega), if_pos (by omega), Int.toNat_natCast, (mp p hp).1, cz_F rfl]
      exact tr_ret ⟨by decide, f⟩
  · refine pair_x (fp := f_PR_count) (fm := f_M_count) h1 h2 hr (fun x y _ _ ex ey z => ?_) (fun J e => ?_) (if_pos rfl)
    · unfold f_PR_count
      rw [ex, bnd_some]
      rcases z with z | ⟨z1, z2⟩
      · rw [if_pos z]
      · rw [if_neg z1, ey, bnd_some, if_pos z2]
    · unfold f_M_count
      try dsimp only [ltI]
      rw [e, bnd_some, if_neg (by decide)]
theorem ok_21 (hI : FS I) (a1 a2 : Int) (h1 : w32 a1 = a1) (h2 : w32 a2 = a2) : OKW (f_L_gain a1 a2) (f_M_gain a1 a2) I := by
  by_cases hr : (0 ≤ a1 ∧ a1 < 66) ∧ 0 ≤ a2 ∧ a2 < 66
  · obtain ⟨p, hp, e1, e2⟩ := nat_pair hr
    refine ok_W (fp := f_PR_gain a1 a2) (u := 0) ?_ (fun J cp => m7_end ?_)
    · unfold f_PR_gain
      rw [sym_in h1 hr.1, bnd_some, if_neg (by decide), sym_in h2 hr.2, bnd_some, if_neg (by decide)]
      refine tr_call hI.read ?_
      rintro _ J1 ⟨pd, cp⟩
      rw [p_pairOf hr.1 hr.2, bnd_some, e1, p_countOf pd.1 hp, bnd_some, cz_F rfl, if_pos (by decide)]
      exact tr_ret ⟨⟨_, rfl, by decide⟩, cp⟩
    · unfold f_M_gain
      try dsimp only [ltI]
      rw [m_noPair1 (sI_self _ _ _ _ _) h1 h2 hr, bnd_some, if_pos (by decide)]
      refine tr_call (mLay ((hI.2.2.1.cp cp).t0 (v := 0))) ?_
      rintro _ K ⟨mp, f⟩
      unfold f_M_pair
      rw [bnd_some, e2, w32_of (by omega) (by omega), if_pos (by omega), Int.toNat_natCast, (mp p hp).1, cz_F rfl, if_pos (by decide)]
      exact tr_ret ⟨by decide, f⟩
  · refine pair_x (fp := f_PR_gain) (fm := f_M_gain) h1 h2 hr (fun x y _ _ ex ey z => ?_) (fun J e => ?_) (if_pos rfl)
    · unfold f_PR_gain
      rw [ex, bnd_some]
      rcases z with z | ⟨z1, z2⟩
      · rw [if_pos z]
      · rw [if_neg z1, ey, bnd_some, if_pos z2]
    · unfold f_M_gain
      try dsimp only [ltI]
      rw [e, bnd_some, if_neg (by decide)]
theorem mBest (h : GW J gF) : Tr (f_M_bestPair J) (fun x K => x = -1 ∧ MP K gF ∧ Fm FM7 J K) := tr_mono (t_bestPair h WF_gF) (fun _ _ z => ⟨z.1.trans (bestP_F rfl WF_gF), z.2.1, z.2.2.2.2.mono f7_bp⟩)
theorem ok_20 (hI : FS I) (a1 a2 : Int) (h1 : w32 a1 = a1) (h2 : w32 a2 = a2) : OKW (f_L_why a1 a2) (f_M_why a1 a2) I := by
  by_cases hr : (0 ≤ a1 ∧ a1 < 66) ∧ 0 ≤ a2 ∧ a2 < 66
  · obtain ⟨p, hp, e1, e2⟩ := nat_pair hr
    refine ok_W (fp := f_PR_why a1 a2) (u := 1) ?_ (fun J cp => m7_end ?_)
    · unfold f_PR_why
      rw [sym_in h1 hr.1, bnd_some, if_neg (by decide), sym_in h2 hr.2, bnd_some, if_neg (by decide)]
      refine tr_call hI.read ?_
      rintro _ J1 ⟨pd, cp⟩
      rw [p_pairOf hr.1 hr.2, bnd_some, e1, p_countOf pd.1 hp, bnd_some, cz_F rfl, if_pos (by decide)]
      exact tr_ret ⟨⟨_, rfl, by decide⟩, cp⟩
    · unfold f_M_why
      try dsimp only [ltI]
      rw [m_noPair1 (sI_self _ _ _ _ _) h1 h2 hr, bnd_some, if_pos (by decide)]
      refine tr_call (mBest ((hI.2.2.1.cp cp).t0 (v := 0))) ?_
      rintro _ K ⟨-, mp, f⟩
      unfold f_M_pair
      rw [bnd_some, e2, w32_of (by omega) (by omega), if_pos (by omega), Int.toNat_natCast, (mp p hp).1, cz_F rfl, if_pos (by decide)]
      exact tr_ret ⟨by decide, f⟩
  · refine pair_x (fp := f_PR_why) (fm := f_M_why) h1 h2 hr (fun x y _ _ ex ey z => ?_) (fun J e => ?_) (if_pos rfl)
    · unfold f_PR_why
      rw [ex, bnd_some]
      rcases z with z | ⟨z1, z2⟩
      · rw [if_pos z]
      · rw [if_neg z1, ey, bnd_some, if_pos z2]
    · unfold f_M_why
      try dsimp only [ltI]
      rw [e, bnd_some, if_neg (by decide)]
theorem ok_19 (hI : FS I) (a1 : Int) (h1 : w32 a1 = a1) : OKW (f_L_best a1) (f_M_best a1) I := by
  by_cases hr : 0 ≤ a1 ∧ a1 < 5
  · refine ok_W (fp := f_PR_best a1) (u := if a1 = 4 then 0 else -1) ?_ (fun J cp => m7_end ?_)
    · unfold f_PR_best
      rw [h1, if_neg (by omega), if_neg (by omega)]
      refine tr_call hI.read ?_
      rintro _ J1 ⟨pd, cp⟩
      rw [pd.2.1, bestP_F rfl WF_gF, if_pos (by decide)]
      by_cases q : a1 = 4
      · rw [if_pos q, if_pos q]
        exact tr_ret ⟨⟨_, rfl, by decide⟩, cp⟩
      · rw [if_neg q, if_neg q]
        exact tr_ret ⟨⟨_, rfl, by decide⟩, cp⟩
    · unfold f_M_best
      try dsimp only [ltI]
      rw [chk_in (sI_self _ _ _ _ _) (by rw [h1, w0, w32c 4 (by decide)]; omega)]
      refine tr_call (mBest ((hI.2.2.1.cp cp).t0 (v := 0))) ?_
      rintro _ K ⟨rfl, mp, f⟩
      rw [if_pos (by decide), h1]
      by_cases q : a1 = 4
      · rw [if_pos q, if_pos q]
        exact tr_ret ⟨by decide, f⟩
      · rw [if_neg q, if_neg q]
        exact tr_ret ⟨by decide, f⟩
  · refine ok_X (fp := f_PR_best a1) (E := xIA) (J := thrw I) (k := 1) ?_ CP_thr (if_pos rfl) (by decide) ?_
    · unfold f_PR_best
      rw [h1]
      by_cases q : a1 < 0
      · rw [if_pos q]
      · rw [if_neg q, if_pos (by omega)]
    · unfold f_M_best
      exact t_out MPo_s (chk_out (sI_self _ _ _ _ _) (Or.inl rfl) (by rw [h1, w0, w32c 4 (by decide)]; omega))
abbrev F27 : FP := fun k i _ => k = 27 ∧ i = 1
theorem t_aside (h : GW J g) : Tr (f_M_aside J) (fun _ K => GW K g ∧ Fm FM7 J K) := by
  unfold f_M_aside
  refine tr_call (t_mlays (k := 0) (b := 0) (k' := 1) (b' := 0) (I := J) (by decide) (by decide) (by decide) (by decide) (by decide) (by decide) (by decide)) ?_
  rintro _ K ⟨-, f⟩
  exact tr_ret ⟨h.fm f (fun s _ z => absurd z.2.1 (by decide)), f.mono (fun a b c z => Or.inl z.1)⟩
theorem t_back (r : Int) : Tr (f_M_back r J) (fun x K => x = r ∧ Fm FM7 J K) := by
  unfold f_M_back
  refine tr_call (t_mlays (k := 1) (b := 0) (k' := 0) (b' := 0) (I := J) (by decide) (by decide) (by decide) (by decide) (by decide) (by decide) (by decide)) ?_
  rintro _ K ⟨-, f⟩
  exact tr_ret ⟨rfl, f.mono (fun a b c z => Or.inl z.1)⟩
theorem FS.aside (hI : FS I) : Tr (f_G_takeFrom 1 0 I) (fun _ J => GC J 1 gF ∧ PTi J ∧ Fm (FX 1 1) I J) := tr_mono (t_gtakeFrom (hI.g (by decide) (by decide)) hI.1 (by decide)) (fun _ _ z => ⟨z.1, hI.2.1.fgu (z.2.mono (fun _ _ _ => Or.inl)), z.2.mono fx_g⟩)
theorem mu_gF : mu gF ≤ ((42 : Nat) : Int) := by decide
theorem mu_gF2 : mu gF ≤ ((1000000 : Nat) : Int) := Int.le_trans mu_gF (by decide)
theorem ok_22 (hI : FS I) : ∃ (r1 r2 : Int) (J K : Mem), f_PR_stepsLeft I = some (r1, J) ∧ f_M_stepsLeft J = some (r2, K) ∧ w32 r1 = w32 r2 ∧ dC I K ≤ 210600 ∧ dS I K ≤ 631700 := by
  refine ok_I (u := 0) ?_ (fun J cp => m7_I ?_)
  · unfold f_PR_stepsLeft
    refine tr_call hI.aside ?_
    rintro _ J1 ⟨gc, pt, f1⟩
    rw [show (1000000 : Int) = ((1000000 : Nat) : Int) from rfl]
    refine tr_call (t_makeSteps gc WF_gF pt (by decide)) ?_
    rintro x J2 ⟨hx, gc2, -, -, f2⟩
    rw [stepsG_F rfl WF_gF] at hx
    subst hx
    exact tr_ret ⟨by decide, CP_x hI (f1.trans (f2.mono fx_s)) gc2 gc2⟩
  · unfold f_M_stepsLeft
    try dsimp only [ltI]
    refine tr_call (t_aside ((hI.2.2.1.cp cp).t0 (v := 0))) ?_
    rintro _ K1 ⟨gw, f1⟩
    refine tr_call (t_mstepsAll gw WF_gF mu_gF) ?_
    rintro x K2 ⟨hx, -, f2⟩
    rw [stepsG_F rfl WF_gF] at hx
    subst hx
    refine tr_call (t_back _) ?_
    rintro x K3 ⟨rfl, f3⟩
    exact tr_ret ⟨by decide, f1.trans ((f2.mono f7_ms).trans f3)⟩
theorem ok_23 (hI : FS I) (a1 : Int) (h1 : w32 a1 = a1) : OKW (f_L_sizeIn a1) (f_M_sizeIn a1) I := by
  by_cases hr : 0 ≤ a1 ∧ a1 < 101
  · obtain ⟨n, rfl, hn⟩ : ∃ n : Nat, a1 = (n : Int) ∧ n < 101 := ⟨a1.toNat, by omega, by omega⟩
    refine ok_W (fp := f_PR_sizeIn (n : Int)) (u := w32 (gSize gF)) ?_ (fun J cp => m7_end ?_)
    · unfold f_PR_sizeIn
      rw [h1, if_neg (by omega), if_neg (by omega)]
      refine tr_call hI.aside ?_
      rintro _ J1 ⟨gc, pt, f1⟩
      refine tr_call (t_makeSteps gc WF_gF pt (by omega)) ?_
      rintro x J2 ⟨-, gc2, -, -, f2⟩
      rw [stepsG_F rfl WF_gF] at gc2
      rw [g_totalSize gc2, bnd_some]
      exact tr_ret ⟨⟨_, rfl, rfl⟩, CP_x hI (f1.trans (f2.mono fx_s)) gc2 gc2⟩
    · unfold f_M_sizeIn
      try dsimp only [ltI]
      rw [chk_in (sI_self _ _ _ _ _) (by rw [h1, w0, w32c 100 (by decide)]; omega)]
      refine tr_call (t_aside ((hI.2.2.1.cp cp).t0 (v := 0))) ?_
      rintro _ K1 ⟨gw, f1⟩
      refine tr_call (t_mstepsMany gw WF_gF (by omega)) ?_
      rintro x K2 ⟨-, gw2, f2⟩
      rw [stepsG_F rfl WF_gF] at gw2
      rw [m_sizeNow gw2, bnd_some]
      refine tr_call (t_back _) ?_
      rintro x K3 ⟨rfl, f3⟩
      exact tr_ret ⟨rfl, f1.trans ((f2.mono f7_ms).trans f3)⟩
  · refine ok_X (fp := f_PR_sizeIn a1) (E := xIA) (J := thrw I) (k := 1) ?_ CP_thr (if_pos rfl) (by decide) ?_
    · unfold f_PR_sizeIn
      rw [h1]
      by_cases q : a1 < 0
      · rw [if_pos q]
      · rw [if_neg q, if_pos (by omega)]
    · unfold f_M_sizeIn
      exact t_out MPo_s (chk_out (sI_self _ _ _ _ _) (Or.inl rfl) (by rw [h1, w0, w32c 100 (by decide)]; omega))
theorem ok_26 (hI : FS I) : ∃ (r1 r2 : Int) (J K : Mem), f_PR_inlinable I = some (r1, J) ∧ f_M_inlinable J = some (r2, K) ∧ w32 r1 = w32 r2 ∧ dC I K ≤ 210600 ∧ dS I K ≤ 631700 := by
  refine ok_I (u := w32 ((inlG 40 gF).1 : Int)) ?_ (fun J cp => m7_I ?_)
  · unfold f_PR_inlinable
    refine tr_call hI.aside ?_
    rintro _ J1 ⟨gc, pt, f1⟩
    refine tr_call (t_inlineAll gc WF_gF) ?_
    rintro x J2 ⟨rfl, gc2, -, f2⟩
    exact tr_ret ⟨rfl, CP_x hI (f1.trans (f2.mono fx_u)) gc2 gc2⟩
  · unfold f_M_inlinable
    try dsimp only [ltI]
    refine tr_call (t_aside ((hI.2.2.1.cp cp).t0 (v := 0))) ?_
    rintro _ K1 ⟨gw, f1⟩
    refine tr_call (t_minlines gw WF_gF) ?_
    rintro x K2 ⟨rfl, -, f2⟩
    refine tr_call (t_back _) ?_
    rintro x K3 ⟨rfl, f3⟩
    exact tr_ret ⟨rfl, f1.trans ((f2.mono f7_w).trans f3)⟩
end OPS3
end
section
/-! ===== calls one by one: changes ===== -/
section OPS4
variable {I J : Mem} {g : GS}
abbrev FM6 : FP := fun k _ s => k = 27 ∨ (k = 26 ∧ s ≠ 7 ∧ s ≠ 6)
theorem f67 : ∀ k i s : Nat, FM6 k i s → FM7 k i s := fun k i s z => by unfold FM6 at z; unfold FM7; omega
theorem f6_w : ∀ k i s : Nat, FW k i s → FM6 k i s := fun k i s z => by unfold FW at z; unfold FM6; omega
theorem f6_ms : ∀ k i s : Nat, FMS k i s → FM6 k i s := fun k i s z => by
  rcases z with z | z | z
  · exact f6_w k i s z
  · unfold FMP at z; unfold FM6; omega
  · unfold FL at z; unfold FM6; omega
theorem t_hold (h : GW J g) : Tr (f_M_holds J) (fun _ K => GW K g ∧ Fm FM6 J K) := by
  unfold f_M_holds
  refine tr_call (t_mlays (k := 0) (b := 0) (k' := 2) (b' := 0) (I := J) (by decide) (by decide) (by decide) (by decide) (by decide) (by decide) (by decide)) ?_
  rintro _ K ⟨-, f⟩
  exact tr_ret ⟨h.fm f (fun s _ z => absurd z.2.1 (by decide)), f.mono (fun a b c z => Or.inl z.1)⟩
theorem t_remb {k : Nat} (hk : k < 3) (h6 : J 26 0 6 = 0) : Tr (f_M_remembers k J) (fun _ K => Fm FM7 J K) := by
  unfold f_M_remembers
  rw [if_pos (by omega), h6, if_neg (by decide)]
  unfold f_M_remembers_j50
  rw [h6, show (16860 : Int) * 0 = ((0 : Nat) : Int) from rfl]
  refine tr_call (t_mlays (k := k) (b := 0) (k' := 3) (b' := 0) (I := J) (by omega) (by decide) (by unfold mLen; rw [if_pos hk]; exact Nat.le_refl _) (by decide) (by unfold mLen; rw [if_pos hk]; decide) (by decide) (by omega)) ?_
  rintro _ K ⟨-, f⟩
  try dsimp only [ltI]
  exact tr_ret ((f.mono (fun a b c z => Or.inl z.1)).trans (Fm.sI (by decide) (by omega) (by omega) (Or.inr (Or.inr ⟨rfl, by decide⟩))))
theorem t_rec (h6 : J 26 0 6 = 0) (x : Int) : Tr (f_M_recorded x J) (fun y K => y = x ∧ Fm FM7 J K) := by
  unfold f_M_recorded
  by_cases q : w32 x < 0
  · rw [if_pos q]
    exact tr_ret ⟨rfl, Fm.refl _ _⟩
  · rw [if_neg q]
    refine tr_call (t_remb (k := 2) (by decide) h6) ?_
    rintro _ K f
    exact tr_ret ⟨rfl, f⟩
theorem m_mut {now : Mem → Option (Int × Mem)} {x : Int} (hI : FS I) (cp : CP I J) (hn : ∀ K : Mem, GW K gF → Tr (now K) (fun y L => y = x ∧ Fm FM6 K L)) : Tr (bnd (f_M_holds (sI J 26 0 7 0)) fun _ J9 => bnd (now J9) fun x13 J12 => bnd (f_M_recorded x13 J12) fun x16 J15 => some (x16, J15)) (fun y K => w32 y = w32 x ∧ Fm FM7 (sI J 26 0 7 0) K) := by
  have e6 : (sI J 26 0 7 0) 26 0 6 = 0 := by rw [sI_ne (by decide), cp.1 26 0 6 (by decide) (by decide), hI.at (by decide) (by decide)]; rfl
  refine tr_call (t_hold ((hI.2.2.1.cp cp).t0 (v := 0))) ?_
  rintro _ K1 ⟨gw, f1⟩
  refine tr_call (hn K1 gw) ?_
  rintro y K2 ⟨rfl, f2⟩
  have f12 := f1.trans f2
  refine tr_call (t_rec (by rw [f12.at (by decide) (by decide)]; exact e6) _) ?_
  rintro y2 K3 ⟨rfl, f3⟩
  exact tr_ret ⟨rfl, (f12.mono f67).trans f3⟩
theorem FS.rem (hI : FS I) : Tr (f_His_remember 0 I) (fun _ J => GC J 0 gF ∧ GC J 2 gF ∧ PTi J ∧ Fm (FX 0 2) I J) := by
  have e3 : I 9 0 3 = 0 := (hI.at (by decide) (by decide)).trans rfl
  unfold f_His_remember
  rw [if_pos (by decide), e3, if_pos (by decide)]
  refine tr_call (t_gtakeFrom (t := 2) (a := 0) (hI.g (by decide) (by decide)) hI.1 (by decide)) ?_
  rintro _ J ⟨gc2, f⟩
  have gc0 : GC J 0 gF := hI.1.fm f (fun k i s z q => by unfold FG at z q; omega)
  have pt : PTi J := hI.2.1.fgu (f.mono (fun _ _ _ => Or.inl))
  have e3' : J 9 0 3 = 0 := (f.at (by decide) (by unfold FG; omega)).trans e3
  have f9 : ∀ v w : Int, Fm (fun k _ _ => k = 9) J (sI (sI J 9 0 3 v) 9 0 4 w) := fun v w => (Fm.sI (by decide) (by omega) (by omega) rfl).trans (Fm.sI (by decide) (by omega) (by omega) rfl)
  rw [e3', if_pos (by decide)]
  unfold f_His_remember_j35
  try dsimp only [ltI]
  obtain ⟨c, kf, pl, hp⟩ := pt
  exact tr_ret ⟨gc0.fm (f9 _ _) (fun k i s z q => by unfold FG at z; omega), gc2.fm (f9 _ _) (fun k i s z q => by unfold FG at z; omega), ⟨c, kf, pl, hp.fm (f9 _ _) (fun i s => ⟨fun z => absurd z (by decide), fun z => absurd z (by decide)⟩)⟩, (f.mono fx_h).trans ((f9 _ _).mono (fun a b c z => Or.inr (Or.inr (by omega))))⟩
theorem ok_27 (hI : FS I) (a1 : Int) (h1 : w32 a1 = a1) : OKW (f_L_step a1) (f_M_step a1) I := by
  by_cases hr : 1 ≤ a1 ∧ a1 < 51
  · obtain ⟨n, rfl, hn⟩ : ∃ n : Nat, a1 = (n : Int) ∧ n < 51 := ⟨a1.toNat, by omega, by omega⟩
    refine ok_W (fp := f_PR_step (n : Int)) (u := w32 ((stepsG n gF).1 : Int)) ?_ (fun J cp => m7_end ?_)
    · unfold f_PR_step
      rw [h1, if_neg (by omega), if_neg (by omega)]
      refine tr_call hI.rem ?_
      rintro _ J1 ⟨gc0, gc2, pt, f1⟩
      refine tr_call (t_makeSteps gc0 WF_gF pt (by omega)) ?_
      rintro x J2 ⟨rfl, gc, -, -, f2⟩
      exact tr_ret ⟨⟨_, rfl, rfl⟩, CP_x hI (f1.trans (f2.mono fx_s)) gc (gc2.fm f2 (fun k i s z q => by unfold FG at z; unfold FST FG FPA at q; omega))⟩
    · unfold f_M_step
      try dsimp only [ltI]
      rw [chk_in (sI_self _ _ _ _ _) (by rw [h1, w32c 1 (by decide), w32c 50 (by decide)]; omega)]
      exact m_mut (now := f_M_stepsMany (n : Int)) hI cp (fun K gw => tr_mono (t_mstepsMany gw WF_gF (by omega)) (fun _ _ z => ⟨z.1, z.2.2.mono f6_ms⟩))
  · refine ok_X (fp := f_PR_step a1) (E := xIA) (J := thrw I) (k := 1) ?_ CP_thr (if_pos rfl) (by decide) ?_
    · unfold f_PR_step
      rw [h1]
      by_cases q : a1 < 1
      · rw [if_pos q]
      · rw [if_neg q, if_pos (by omega)]
    · unfold f_M_step
      exact t_out MPo_s (chk_out (sI_self _ _ _ _ _) (Or.inl rfl) (by rw [h1, w32c 1 (by decide), w32c 50 (by decide)]; omega))
theorem ok_28 (hI : FS I) : ∃ (r1 r2 : Int) (J K : Mem), f_PR_inline I = some (r1, J) ∧ f_M_inline J = some (r2, K) ∧ w32 r1 = w32 r2 ∧ dC I K ≤ 210600 ∧ dS I K ≤ 631700 := by
  refine ok_I (u := w32 ((inlG 40 gF).1 : Int)) ?_ (fun J cp => m7_I ?_)
  · unfold f_PR_inline
    refine tr_call hI.rem ?_
    rintro _ J1 ⟨gc0, gc2, pt, f1⟩
    refine tr_call (t_inlineAll gc0 WF_gF) ?_
    rintro x J2 ⟨rfl, gc, -, f2⟩
    exact tr_ret ⟨rfl, CP_x hI (f1.trans (f2.mono fx_u)) gc (gc2.fm f2 (fun k i s z q => by unfold FG at z; unfold FGU FG at q; omega))⟩
  · unfold f_M_inline
    try dsimp only [ltI]
    exact m_mut (now := f_M_inlines) hI cp (fun K gw => tr_mono (t_minlines gw WF_gF) (fun _ _ z => ⟨z.1, z.2.2.mono f6_w⟩))
theorem ok_29 (hI : FS I) (a1 a2 : Int) (h1 : w32 a1 = a1) (h2 : w32 a2 = a2) : OKW (f_L_make a1 a2) (f_M_make a1 a2) I := by
  by_cases hr : (0 ≤ a1 ∧ a1 < 66) ∧ 0 ≤ a2 ∧ a2 < 66
  · obtain ⟨p, hp, e1, e2⟩ := nat_pair hr
    refine ok_W (fp := f_PR_make a1 a2) (u := w32 (mkC gF a1 a2)) ?_ (fun J cp => m7_end ?_)
    · have key : Tr (f_PR_refusalOfMake a1 a2 I) (fun x J => x = mkC gF a1 a2 ∧ w32 x < 0 ∧ CP I J) := by
        unfold f_PR_refusalOfMake
        by_cases q1 : a1 < 26
        · rw [g_hasSymbol hI.1 hr.1, bI_pos (fun z => by omega), bnd_some, if_neg (by decide)]
          by_cases q2 : a2 < 26
          · rw [g_hasSymbol hI.1 hr.2, bI_pos (fun z => by omega), bnd_some, if_neg (by decide)]
            refine tr_call hI.read ?_
            rintro _ J1 ⟨pd, cp⟩
            rw [p_pairOf hr.1 hr.2, bnd_some, e1, p_countOf pd.1 hp, bnd_some, cz_F rfl, if_pos (by decide)]
            refine tr_ret ⟨?_, by decide, cp⟩
            rw [mkC_pos ⟨fun z => by omega, fun z => by omega⟩, cz_F rfl, if_pos rfl]
          · rw [g_hasSymbol hI.1 hr.2, bI_neg (fun z => z (by omega) (gF_Rs _)), bnd_some, if_pos (by decide)]
            refine tr_ret ⟨?_, by decide, CP_same⟩
            rw [mkC_neg (fun z => z.2 (by omega) (gF_Rs _))]
        · rw [g_hasSymbol hI.1 hr.1, bI_neg (fun z => z (by omega) (gF_Rs _)), bnd_some, if_pos (by decide)]
          refine tr_ret ⟨?_, by decide, CP_same⟩
          rw [mkC_neg (fun z => z.1 (by omega) (gF_Rs _))]
      unfold f_PR_make
      rw [sym_in h1 hr.1, bnd_some, if_neg (by decide), sym_in h2 hr.2, bnd_some, if_neg (by decide)]
      refine tr_call key ?_
      rintro x J1 ⟨rfl, hx, cp⟩
      rw [if_pos hx]
      exact tr_ret ⟨⟨_, rfl, rfl⟩, cp⟩
    · unfold f_M_make
      try dsimp only [ltI]
      rw [m_noPair1 (sI_self _ _ _ _ _) h1 h2 hr, bnd_some, if_pos (by decide)]
      exact m_mut (now := f_M_makeNow a1 a2) hI cp (fun K gw => tr_mono (t_mmakeNow gw WF_gF hr.1 hr.2) (fun _ _ z => ⟨z.1, z.2.2.mono f6_ms⟩))
  · refine pair_x (fp := f_PR_make) (fm := f_M_make) h1 h2 hr (fun x y _ _ ex ey z => ?_) (fun J e => ?_) (if_pos rfl)
    · unfold f_PR_make
      rw [ex, bnd_some]
      rcases z with z | ⟨z1, z2⟩
      · rw [if_pos z]
      · rw [if_neg z1, ey, bnd_some, if_pos z2]
    · unfold f_M_make
      try dsimp only [ltI]
      rw [e, bnd_some, if_neg (by decide)]
theorem ok_30 (hI : FS I) (a1 : Int) (h1 : w32 a1 = a1) : OKW (f_L_expand a1) (f_M_expand a1) I := by
  by_cases hr : 0 ≤ a1 ∧ a1 < 40
  · obtain ⟨j, rfl, hj⟩ : ∃ j : Nat, a1 = (j : Int) ∧ j < 40 := ⟨a1.toNat, by omega, by omega⟩
    refine ok_W (fp := f_PR_expand (j : Int)) (u := w32 (-4)) ?_ (fun J cp => m7_end ?_)
    · unfold f_PR_expand
      rw [h1, if_neg (by omega), if_pos (by omega), g_noRule hI h1, bnd_some, if_pos (by decide)]
      exact tr_ret ⟨⟨_, rfl, rfl⟩, CP_same⟩
    · unfold f_M_expand
      try dsimp only [ltI]
      rw [m_noRule1 (sI_self _ _ _ _ _) h1 (by omega), bnd_some, if_pos (by decide)]
      refine m_mut (now := f_M_expandNow (j : Int)) hI cp (fun K gw => ?_)
      unfold f_M_expandNow
      rw [m_isHere0 gw hj, bnd_some, if_pos (by decide)]
      exact tr_ret ⟨rfl, Fm.refl _ _⟩
  · refine ok_X (fp := f_PR_expand a1) (E := xIO) (J := thrw I) (k := 1) ?_ CP_thr (if_pos rfl) (by decide) ?_
    · unfold f_PR_expand
      rw [h1]
      by_cases q : a1 < 0
      · rw [if_pos q]
      · rw [if_neg q, if_neg (by omega)]
    · unfold f_M_expand
      try dsimp only [ltI]
      rw [m_noRule0 (sI_self _ _ _ _ _) h1 hr, bnd_some, if_neg (by decide)]
      exact t_out MPo_s rfl
theorem sy_app {a : Int} (ha : 0 ≤ a ∧ a < 26) (i : Nat) : SY (gR (gAppend gF a) i) := by
  intro x hx
  have e : gR (gAppend gF a) i = if i = 0 then [0, a] else gR gF i := rfl
  rw [e] at hx
  by_cases q : i = 0
  · rw [if_pos q] at hx
    rcases List.mem_cons.mp hx with rfl | hx
    · decide
    · rw [List.mem_singleton.mp hx]; omega
  · rw [if_neg q, gF_R, if_neg q] at hx
    cases hx
theorem ok_31 (hI : FS I) (a1 : Int) (h1 : w32 a1 = a1) : OKW (f_L_append a1) (f_M_append a1) I := by
  by_cases hr : 0 ≤ a1 ∧ a1 < 26
  · have hb := w32_rng a1
    rw [h1] at hb
    refine ok_W (fp := f_PR_append a1) (u := w32 2) ?_ (fun J cp => m7_end ?_)
    · unfold f_PR_append
      rw [p_isLetter hb.1 hb.2, bI_pos hr, bnd_some, if_neg (by decide), hI.len, bnd_some, if_pos (by decide)]
      refine tr_call hI.rem ?_
      rintro _ J1 ⟨gc0, gc2, pt, f1⟩
      refine tr_call (t_addLetter gc0 (by decide) (by decide) a1) ?_
      rintro _ J2 ⟨gc, f2⟩
      have el : ll (gL (gAppend gF a1)) (gR (gAppend gF a1) 0) = 2 := by
        show ll (gL gF) [0, a1] = 2
        rw [ll_cons, ll_cons, ll_nil]
        unfold sl
        rw [if_pos (by decide), if_pos hr.2]
        rfl
      rw [g_textLength gc (fun i _ => sy_app hr i), bnd_some, el]
      exact tr_ret ⟨⟨_, rfl, rfl⟩, CP_x hI (f1.trans (f2.mono fx_g)) gc (gc2.fm f2 (fun k i s z q => by unfold FG at z q; omega))⟩
    · unfold f_M_append
      try dsimp only [ltI]
      rw [chk_in (sI_self _ _ _ _ _) (by rw [h1, w0, w32c 25 (by decide)]; omega)]
      exact m_mut (now := f_M_appendNow a1) hI cp (fun K gw => tr_mono (t_mappendNow gw (by decide) (by decide) a1) (fun _ _ z => ⟨z.1, z.2.2.mono f6_w⟩))
  · have hb := w32_rng a1
    rw [h1] at hb
    refine ok_X (fp := f_PR_append a1) (E := xIA) (J := thrw I) (k := 1) ?_ CP_thr (if_pos rfl) (by decide) ?_
    · unfold f_PR_append
      rw [p_isLetter hb.1 hb.2, bI_neg hr, bnd_some, if_pos (by decide)]
    · unfold f_M_append
      exact t_out MPo_s (chk_out (sI_self _ _ _ _ _) (Or.inl rfl) (by rw [h1, w0, w32c 25 (by decide)]; omega))
theorem ok_32 (hI : FS I) (a1 : Int) (h1 : w32 a1 = a1) : OKW (f_L_cut a1) (f_M_cut a1) I := by
  by_cases hr : 1 ≤ a1 ∧ a1 < 401
  · refine ok_W (fp := f_PR_cut a1) (u := w32 (-6)) ?_ (fun J cp => m7_end ?_)
    · unfold f_PR_cut
      rw [h1, if_neg (by omega), if_neg (by omega), hI.len, bnd_some, if_neg (by rw [w32c 1 (by decide)]; omega)]
      exact tr_ret ⟨⟨_, rfl, rfl⟩, CP_same⟩
    · unfold f_M_cut
      try dsimp only [ltI]
      rw [chk_in (sI_self _ _ _ _ _) (by rw [h1, w32c 1 (by decide), w32c 400 (by decide)]; omega)]
      refine m_mut (now := f_M_cutNow a1) hI cp (fun K gw => ?_)
      have e3 : K 27 0 3 = 1 := gw.2.1
      unfold f_M_cutNow
      rw [e3, h1, if_neg (by rw [w32c 1 (by decide)]; omega)]
      exact tr_ret ⟨rfl, Fm.refl _ _⟩
  · refine ok_X (fp := f_PR_cut a1) (E := xIA) (J := thrw I) (k := 1) ?_ CP_thr (if_pos rfl) (by decide) ?_
    · unfold f_PR_cut
      rw [h1]
      by_cases q : a1 < 1
      · rw [if_pos q]
      · rw [if_neg q, if_pos (by omega)]
    · unfold f_M_cut
      exact t_out MPo_s (chk_out (sI_self _ _ _ _ _) (Or.inl rfl) (by rw [h1, w32c 1 (by decide), w32c 400 (by decide)]; omega))
theorem m_setx (h7 : J 26 0 7 = 0) {a b : Int} : f_M_set_j35 a b J = some (0, sI J 26 0 7 1) := by
  unfold f_M_set_j35 f_M_set_j40
  rw [m_f1 h7 (Or.inl rfl), bnd_some, if_neg (by decide)]
theorem set_j (hI : FS I) {j : Nat} (hj : j < 3) {lo hi a2 : Int} (h2 : w32 a2 = a2) (hlh : 0 ≤ lo ∧ hi < 100 ∧ lo ≤ hi)
    (hl : ∀ I : Mem, f_PR_lowest (4 + (j : Int)) I = some (lo, I)) (hh : ∀ I : Mem, f_PR_highest (4 + (j : Int)) I = some (hi, I))
    (ml : ∀ I : Mem, f_M_leastOf (j : Int) I = some (lo, I)) (mh : ∀ I : Mem, f_M_mostOf (j : Int) I = some (hi, I)) : OKW (f_L_set (4 + (j : Int)) a2) (f_M_set (4 + (j : Int)) a2) I := by
  have w1 : w32 (4 + (j : Int)) = 4 + (j : Int) := w32_of (by omega) (by omega)
  have wl : w32 lo = lo := w32_of (by omega) (by omega)
  have wh : w32 hi = hi := w32_of (by omega) (by omega)
  have e4 : 4 + (j : Int) - 4 = (j : Int) := by omega
  by_cases hr : lo ≤ a2 ∧ a2 ≤ hi
  · refine ok_W (fp := f_PR_set (4 + (j : Int)) a2) (u := w32 (gN gF j)) ?_ (fun J cp => m7_end ?_)
    · unfold f_PR_set
      rw [w1, if_neg (by omega), if_neg (by omega), hl, bnd_some, h2, wl, if_neg (by omega), hh, bnd_some, wh, if_neg (by omega)]
      refine tr_call hI.rem ?_
      rintro _ J1 ⟨gc0, gc2, pt, f1⟩
      rw [g_number gc0 hj, bnd_some]
      refine tr_call (t_putNumber gc0 hj a2) ?_
      rintro _ J2 ⟨gc, f2⟩
      exact tr_ret ⟨⟨_, rfl, rfl⟩, CP_x hI (f1.trans (f2.mono fx_g)) gc (gc2.fm f2 (fun k i s z q => by unfold FG at z q; omega))⟩
    · unfold f_M_set
      try dsimp only [ltI]
      rw [m_in1 (by rw [w1, w32c 4 (by decide), w32c 6 (by decide)]; omega), bnd_some, if_neg (by decide), e4, ml, bnd_some, mh, bnd_some, m_in1 (by rw [h2, wl, wh]; exact hr), bnd_some, if_neg (by decide)]
      unfold f_M_set_j40
      rw [m_fz (sI_self _ _ _ _ _), bnd_some, if_pos (by decide), e4]
      exact m_mut (now := f_M_setNow (j : Int) a2) hI cp (fun K gw => tr_mono (t_msetNow gw hj a2) (fun _ _ z => ⟨z.1, z.2.2.mono f6_w⟩))
  · refine ok_X (fp := f_PR_set (4 + (j : Int)) a2) (E := xIA) (J := thrw I) (k := 1) ?_ CP_thr (if_pos rfl) (by decide) ?_
    · unfold f_PR_set
      rw [w1, if_neg (by omega), if_neg (by omega), hl, bnd_some, h2, wl]
      by_cases q : a2 < lo
      · rw [if_pos q]
      · rw [if_neg q, hh, bnd_some, wh, if_pos (by omega)]
    · unfold f_M_set
      try dsimp only [ltI]
      rw [m_in1 (by rw [w1, w32c 4 (by decide), w32c 6 (by decide)]; omega), bnd_some, if_neg (by decide), e4, ml, bnd_some, mh, bnd_some, m_in0 (by rw [h2, wl, wh]; omega), bnd_some, if_pos (by decide), m_setx (sI_self _ _ _ _ _)]
      exact t_out MPo_s rfl
theorem lo_0 (I : Mem) : f_PR_lowest (4 + ((0 : Nat) : Int)) I = some (2, I) := by unfold f_PR_lowest; rw [if_pos (by decide)]
theorem lo_1 (I : Mem) : f_PR_lowest (4 + ((1 : Nat) : Int)) I = some (0, I) := by unfold f_PR_lowest; rw [if_neg (by decide)]
theorem lo_2 (I : Mem) : f_PR_lowest (4 + ((2 : Nat) : Int)) I = some (0, I) := by unfold f_PR_lowest; rw [if_neg (by decide)]
theorem hi_0 (I : Mem) : f_PR_highest (4 + ((0 : Nat) : Int)) I = some (9, I) := by unfold f_PR_highest; rw [if_pos (by decide)]
theorem hi_1 (I : Mem) : f_PR_highest (4 + ((1 : Nat) : Int)) I = some (2, I) := by unfold f_PR_highest; rw [if_neg (by decide), if_pos (by decide)]
theorem hi_2 (I : Mem) : f_PR_highest (4 + ((2 : Nat) : Int)) I = some (1, I) := by unfold f_PR_highest; rw [if_neg (by decide), if_neg (by decide)]
theorem ml_0 (I : Mem) : f_M_leastOf ((0 : Nat) : Int) I = some (2, I) := by unfold f_M_leastOf; rw [if_pos (by decide)]
theorem ml_1 (I : Mem) : f_M_leastOf ((1 : Nat) : Int) I = some (0, I) := by unfold f_M_leastOf; rw [if_neg (by decide)]
theorem ml_2 (I : Mem) : f_M_leastOf ((2 : Nat) : Int) I = some (0, I) := by unfold f_M_leastOf; rw [if_neg (by decide)]
theorem mh_0 (I : Mem) : f_M_mostOf ((0 : Nat) : Int) I = some (9, I) := by unfold f_M_mostOf; rw [if_pos (by decide)]
theorem mh_1 (I : Mem) : f_M_mostOf ((1 : Nat) : Int) I = some (2, I) := by unfold f_M_mostOf; rw [if_neg (by decide), if_pos (by decide)]
theorem mh_2 (I : Mem) : f_M_mostOf ((2 : Nat) : Int) I = some (1, I) := by unfold f_M_mostOf; rw [if_neg (by decide), if_neg (by decide)]
theorem ok_33 (hI : FS I) (a1 a2 : Int) (h1 : w32 a1 = a1) (h2 : w32 a2 = a2) : OKW (f_L_set a1 a2) (f_M_set a1 a2) I := by
  rcases (show a1 = 4 + ((0 : Nat) : Int) ∨ a1 = 4 + ((1 : Nat) : Int) ∨ a1 = 4 + ((2 : Nat) : Int) ∨ ¬ (4 ≤ a1 ∧ a1 ≤ 6) by omega) with rfl | rfl | rfl | hr
  · exact set_j hI (by decide) h2 (by decide) lo_0 hi_0 ml_0 mh_0
  · exact set_j hI (by decide) h2 (by decide) lo_1 hi_1 ml_1 mh_1
  · exact set_j hI (by decide) h2 (by decide) lo_2 hi_2 ml_2 mh_2
  · refine ok_X (fp := f_PR_set a1 a2) (E := xIA) (J := thrw I) (k := 1) ?_ CP_thr (if_pos rfl) (by decide) ?_
    · unfold f_PR_set
      rw [h1]
      by_cases q : a1 < 4
      · rw [if_pos q]
      · rw [if_neg q, if_pos (by omega)]
    · unfold f_M_set
      try dsimp only [ltI]
      rw [m_in0 (by rw [h1, w32c 4 (by decide), w32c 6 (by decide)]; omega), bnd_some, if_pos (by decide), m_setx (sI_self _ _ _ _ _)]
      exact t_out MPo_s rfl
theorem ok_37 (hI : FS I) (a1 : Int) (h1 : w32 a1 = a1) : OKW (f_L_save a1) (f_M_save a1) I := by
  by_cases hr : 0 ≤ a1 ∧ a1 < 2
  · obtain ⟨j, rfl, hj⟩ : ∃ j : Nat, a1 = (j : Int) ∧ j < 2 := ⟨a1.toNat, by omega, by omega⟩
    refine ok_W (fp := f_PR_save (j : Int)) (u := w32 (gSize gF)) ?_ (fun J cp => m7_end ?_)
    · have key : Tr (f_His_keep (j : Int) 0 I) (fun _ J => GC J 0 gF ∧ GC J (10 + j) gF ∧ Fm (FX 0 (10 + j)) I J) := by
        unfold f_His_keep
        rw [if_pos (by decide), h1, if_neg (by omega), if_pos (by omega), if_pos (by omega), Int.toNat_natCast]
        refine tr_call (t_gtakeFrom (t := 10 + j) (a := 0) (hI.g (by omega) (by omega)) hI.1 (by omega)) ?_
        rintro _ J ⟨gc2, f⟩
        have gc0 : GC J 0 gF := hI.1.fm f (fun k i s z q => by unfold FG at z q; omega)
        have f9 : Fm (fun k _ _ => k = 24) J (sI J 24 0 j 1) := Fm.sI (by decide) (by omega) (by omega) rfl
        try dsimp only [ltI]
        exact tr_ret ⟨gc0.fm f9 (fun k i s z q => by unfold FG at z; omega), gc2.fm f9 (fun k i s z q => by unfold FG at z; omega), (f.mono fx_h).trans (f9.mono (fun a b c z => Or.inr (Or.inr (by omega))))⟩
      unfold f_PR_save
      rw [h1, if_neg (by omega), if_pos (by omega)]
      refine tr_call key ?_
      rintro _ J1 ⟨gc0, gc2, f1⟩
      rw [g_totalSize gc0, bnd_some]
      exact tr_ret ⟨⟨_, rfl, rfl⟩, CP_x hI f1 gc0 gc2⟩
    · have gw := (hI.2.2.1.cp cp).t0 (v := 0)
      unfold f_M_save
      try dsimp only [ltI]
      rw [m_noSlot1 (sI_self _ _ _ _ _) h1 hr, bnd_some, if_pos (by decide), show (16860 : Int) * (j : Int) = ((16860 * j : Nat) : Int) by omega, h1]
      refine tr_call (t_mlays (k := 0) (b := 0) (k' := 4) (b' := 16860 * j) (by decide) (by decide) (by decide) (by show 16860 * j + 16860 ≤ 33720; omega) (by decide) (by decide) (by decide)) ?_
      rintro _ K ⟨-, f⟩
      have gk : GW K gF := gw.fm f (fun s _ z => absurd z.2.1 (by decide))
      have f28 : Fm FM7 K (sI K 28 0 j 1) := Fm.sI (by decide) (by omega) (by omega) (Or.inr (Or.inl rfl))
      have gk2 : GW (sI K 28 0 j 1) gF := GWf.congr gk (fun s _ => sI_ne (by omega))
      rw [if_pos (by omega), Int.toNat_natCast]
      try dsimp only [ltI]
      rw [m_sizeNow gk2, bnd_some]
      exact tr_ret ⟨rfl, (f.mono (fun a b c z => Or.inl z.1)).trans f28⟩
  · refine ok_X (fp := f_PR_save a1) (E := xIA) (J := thrw I) (k := 1) ?_ CP_thr ?_ (by decide) ?_
    · unfold f_PR_save
      rw [h1]
      by_cases q : a1 < 0
      · rw [if_pos q]
      · rw [if_neg q, if_neg (by omega)]
    · show (if xIA = xIA then _ else _) = _
      rw [if_pos rfl]
    · unfold f_M_save
      try dsimp only [ltI]
      rw [m_noSlot0 (sI_self _ _ _ _ _) h1 hr, bnd_some, if_neg (by decide)]
      exact t_out MPo_s rfl
end OPS4
end
section
/-! ===== calls one by one: numbers that are best, ratio, report ===== -/
section OPS5
variable {I J : Mem} {g : GS}
theorem gS_F {j : Nat} {v : Int} : gSize (gsN gF j v) = 1 := (by decide : gSize gF = 1)
theorem bn_ok (hI : FS I) {j : Nat} (hj : j < 3) {lo hi : Nat} (hlh : lo ≤ hi ∧ hi < 100) (hl : ∀ I : Mem, f_PR_lowest (4 + (j : Int)) I = some ((lo : Int), I)) (hh : ∀ I : Mem, f_PR_highest (4 + (j : Int)) I = some ((hi : Int), I))
    (w : ∀ v : Nat, lo ≤ v → v ≤ hi → WF (gsN gF j v)) : Tr (f_PR_bestNumber (4 + (j : Int)) I) (fun x J => x = (lo : Int) ∧ CP I J) := by
  unfold f_PR_bestNumber
  rw [hl, bnd_some]
  refine tr_call (P := fun x J => x = (lo : Int) ∧ CP I J) (tr_whl (fun n s K => ∃ k : Nat, n = hi + 1 - k ∧ lo ≤ k ∧ k ≤ hi + 1 ∧ (s = (-1, 0, (k : Int)) ∧ k = lo ∨ s = ((lo : Int), 1, (k : Int)) ∧ lo < k) ∧ GC K 0 gF ∧ (∃ g1 : GS, GC K 1 g1) ∧ PTi K ∧ Fm (FX 0 1) I K) ?_ (hi + 1 - lo) _ _ ⟨lo, rfl, Nat.le_refl _, by omega, Or.inl ⟨rfl, rfl⟩, hI.1, ⟨_, hI.g (by decide) (by decide)⟩, hI.2.1, Fm.refl _ _⟩) ?_
  · rintro n s K ⟨k, rfl, hk1, hk2, hs, gc0, ⟨g1, gc1⟩, pt, f⟩
    have e2 : s.2.2 = (k : Int) := by rcases hs with ⟨rfl, _⟩ | ⟨rfl, _⟩ <;> rfl
    unfold f_PR_bestNumber_w10
    rw [hh, bnd_some, e2, w32_of (x := (hi : Int)) (by omega) (by omega), w32_of (x := (k : Int)) (by omega) (by omega)]
    by_cases q : hi < k
    · rw [if_pos (by omega)]
      rcases hs with ⟨_, z⟩ | ⟨rfl, _⟩
      · omega
      · exact tr_ret ⟨rfl, CP_x hI f gc0 gc1⟩
    · rw [if_neg (by omega)]
      refine tr_call (t_gtakeFrom gc1 gc0 (by decide)) ?_
      rintro _ K1 ⟨gc, f1⟩
      have g01 : GC K1 0 gF := gc0.fm f1 (fun k i s z q => by unfold FG at z q; omega)
      have pt1 : PTi K1 := pt.fgu (f1.mono (fun _ _ _ => Or.inl))
      refine tr_call (t_putNumber gc hj (k : Int)) ?_
      rintro _ K2 ⟨gc, f2⟩
      have g02 : GC K2 0 gF := g01.fm f2 (fun k i s z q => by unfold FG at z q; omega)
      have pt2 : PTi K2 := pt1.fgu (f2.mono (fun _ _ _ => Or.inl))
      rw [show (1000000 : Int) = ((1000000 : Nat) : Int) from rfl]
      refine tr_call (t_makeSteps gc (w k hk1 (by omega)) pt2 (by decide)) ?_
      rintro x K3 ⟨-, gc, -, pt3, f3⟩
      have g03 : GC K3 0 gF := g02.fm f3 (fun k i s z q => by unfold FG at z; unfold FST FG FPA at q; omega)
      rw [stepsG_F (g := gsN gF j (k : Int)) rfl (w k hk1 (by omega))] at gc
      rw [g_totalSize gc, bnd_some, gS_F]
      have ff : Fm (FX 0 1) I K3 := f.trans ((f1.mono fx_h).trans ((f2.mono fx_h).trans (f3.mono fx_s')))
      rcases hs with ⟨rfl, rfl⟩ | ⟨rfl, z⟩
      · rw [if_pos (by show w32 (-1) = -1; decide)]
        exact tr_ret ⟨hi + 1 - (k + 1), by omega, k + 1, rfl, by omega, by omega, Or.inr ⟨by rw [Int.natCast_succ], by omega⟩, g03, ⟨_, gc⟩, pt3, ff⟩
      · rw [if_neg (by show ¬ w32 (lo : Int) = -1; rw [w32_of (by omega) (by omega)]; omega), if_neg (by show ¬ w32 1 < w32 1; decide)]
        exact tr_ret ⟨hi + 1 - (k + 1), by omega, k + 1, rfl, by omega, by omega, Or.inr ⟨by rw [Int.natCast_succ], by omega⟩, g03, ⟨_, gc⟩, pt3, ff⟩
  · rintro x K ⟨rfl, cp⟩
    exact tr_ret ⟨rfl, cp⟩
abbrev FMA : FP := fun k i s => (k = 27 ∧ i ≠ 1) ∨ (k = 26 ∧ s ≠ 7)
theorem fA_ms : ∀ k i s : Nat, FMS k i s → FMA k i s := fun k i s z => by
  rcases z with z | z | z
  · unfold FW at z; unfold FMA; omega
  · unfold FMP at z; unfold FMA; omega
  · unfold FL at z; unfold FMA; omega
theorem t_sizeWith (gw : GW J gF) {j : Nat} (hj : j < 3) {v : Int} (w : WF (gsN gF j v)) : Tr (f_M_sizeWith (j : Int) v J) (fun x K => x = 1 ∧ GW K gF ∧ Fm FM7 J K) := by
  have wj : w32 (j : Int) = j := w32_of (by omega) (by omega)
  unfold f_M_sizeWith f_M_aside
  refine tr_call (P := fun _ K => (∀ s : Nat, s < 16860 → K 27 1 s = J 27 0 s) ∧ GW K gF ∧ Fm FM7 J K) ?_ ?_
  · refine tr_call (t_mlays (k := 0) (b := 0) (k' := 1) (b' := 0) (I := J) (by decide) (by decide) (by decide) (by decide) (by decide) (by decide) (by decide)) ?_
    rintro _ K ⟨h, f⟩
    exact tr_ret ⟨fun s hs => by have := h s hs; rwa [Nat.zero_add] at this, gw.fm f (fun s _ z => absurd z.2.1 (by decide)), f.mono (fun a b c z => Or.inl z.1)⟩
  rintro _ K1 ⟨hc, g1, f1⟩
  rw [wj, if_pos (by omega), Int.toNat_natCast]
  try dsimp only [ltI]
  have fa : Fm FMA K1 (sI K1 27 0 j v) := Fm.sI (by decide) (by omega) (by omega) (Or.inl ⟨rfl, by decide⟩)
  refine tr_call (t_mstepsEnd (g1.num hj) w (m := 42) mu_gF) ?_
  rintro _ K2 ⟨g2, f2⟩
  rw [stepsG_F (g := gsN gF j v) rfl w] at g2
  rw [m_sizeNow g2, bnd_some, gS_F]
  have f12 : Fm FMA K1 K2 := fa.trans (f2.mono fA_ms)
  unfold f_M_back
  refine tr_call (P := fun x K => x = 1 ∧ GW K gF ∧ Fm FM7 K2 K) ?_ ?_
  · refine tr_call (t_mlays (k := 1) (b := 0) (k' := 0) (b' := 0) (I := K2) (by decide) (by decide) (by decide) (by decide) (by decide) (by decide) (by decide)) ?_
    rintro _ K ⟨h, f⟩
    refine tr_ret ⟨rfl, GWf.congr gw (fun s hs => ?_), f.mono (fun a b c z => Or.inl z.1)⟩
    have h2 := h s hs
    rw [Nat.zero_add] at h2
    rw [h2, f12.at (by decide) (by unfold FMA; omega), hc s hs]
  · rintro x K3 ⟨rfl, g3, f3⟩
    exact tr_ret ⟨rfl, g3, f1.trans ((f12.mono (fun a b c z => by unfold FMA at z; unfold FM7; omega)).trans f3)⟩
theorem bo_ok (gw : GW J gF) {j : Nat} (hj : j < 3) {lo hi : Nat} (hlh : lo ≤ hi ∧ hi < 100) (hl : ∀ I : Mem, f_M_leastOf (j : Int) I = some ((lo : Int), I)) (hh : ∀ I : Mem, f_M_mostOf (j : Int) I = some ((hi : Int), I))
    (w : ∀ v : Nat, lo ≤ v → v ≤ hi → WF (gsN gF j v)) : Tr (f_M_bestOf (j : Int) J) (fun x K => x = (lo : Int) ∧ Fm FM7 J K) := by
  unfold f_M_bestOf
  rw [hl, bnd_some]
  refine tr_call (t_sizeWith gw hj (w lo (Nat.le_refl _) hlh.1)) ?_
  rintro _ K1 ⟨rfl, g1, f1⟩
  refine tr_call (P := fun x K => x = (lo : Int) ∧ Fm FM7 J K) (tr_whl (fun n s K => ∃ k : Nat, n = hi + 1 - k ∧ lo < k ∧ k ≤ hi + 1 ∧ s = ((lo : Int), 1, (k : Int)) ∧ GW K gF ∧ Fm FM7 J K) ?_ (hi + 1 - (lo + 1)) _ _ ⟨lo + 1, rfl, by omega, by omega, by rw [Int.natCast_succ], g1, f1⟩) ?_
  · rintro n s K ⟨k, rfl, hk1, hk2, rfl, gk, f⟩
    unfold f_M_bestOf_w17
    rw [hh, bnd_some, w32_of (x := (hi : Int)) (by omega) (by omega)]
    show Tr (if (hi : Int) < w32 (k : Int) then _ else _) _
    rw [w32_of (x := (k : Int)) (by omega) (by omega)]
    by_cases q : hi < k
    · rw [if_pos (by omega)]
      exact tr_ret ⟨rfl, f⟩
    · rw [if_neg (by omega)]
      refine tr_call (t_sizeWith gk hj (w k (by omega) (by omega))) ?_
      rintro _ K2 ⟨rfl, g2, f2⟩
      rw [if_neg (by show ¬ w32 1 < w32 1; decide)]
      exact tr_ret ⟨hi + 1 - (k + 1), by omega, k + 1, rfl, by omega, by omega, by rw [Int.natCast_succ], g2, f.trans f2⟩
  · rintro x K ⟨rfl, f⟩
    exact tr_ret ⟨rfl, f⟩
theorem WF_n {j : Nat} {v : Int} (h : (j = 0 → 2 ≤ v ∧ v ≤ 9) ∧ (j = 1 → 0 ≤ v ∧ v ≤ 2) ∧ (j = 2 → 0 ≤ v ∧ v ≤ 1)) : WF (gsN gF j v) := by
  obtain ⟨a1, a2, a3, a4, a5, a6, a7, a8⟩ := WF_gF
  refine ⟨a1, a2, a3, a4, a5, ?_, ?_, ?_⟩
  · show 2 ≤ up (gN gF) j v 0 ∧ up (gN gF) j v 0 ≤ 9
    by_cases q : j = 0
    · subst q; rw [up_self]; exact h.1 rfl
    · rw [up_ne (by omega)]; exact a6
  · show 0 ≤ up (gN gF) j v 1 ∧ up (gN gF) j v 1 ≤ 2
    by_cases q : j = 1
    · subst q; rw [up_self]; exact h.2.1 rfl
    · rw [up_ne (by omega)]; exact a7
  · show 0 ≤ up (gN gF) j v 2 ∧ up (gN gF) j v 2 ≤ 1
    by_cases q : j = 2
    · subst q; rw [up_self]; exact h.2.2 rfl
    · rw [up_ne (by omega)]; exact a8
theorem ok_24 (hI : FS I) : ∃ (r1 r2 : Int) (J K : Mem), f_PR_bestTie I = some (r1, J) ∧ f_M_bestTie J = some (r2, K) ∧ w32 r1 = w32 r2 ∧ dC I K ≤ 210600 ∧ dS I K ≤ 631700 := by
  have w : ∀ v : Nat, 0 ≤ v → v ≤ 2 → WF (gsN gF 1 v) := fun v _ h => WF_n ⟨fun z => by omega, fun _ => by omega, fun z => by omega⟩
  refine ok_I (u := 0) ?_ (fun J cp => m7_I ?_)
  · unfold f_PR_bestTie
    rw [show (5 : Int) = 4 + ((1 : Nat) : Int) from rfl]
    refine tr_call (bn_ok hI (j := 1) (lo := 0) (hi := 2) (by decide) (by decide) lo_1 hi_1 w) ?_
    rintro x K ⟨rfl, cp⟩
    exact tr_ret ⟨by decide, cp⟩
  · unfold f_M_bestTie
    try dsimp only [ltI]
    rw [show (1 : Int) = ((1 : Nat) : Int) from rfl]
    refine tr_call (bo_ok ((hI.2.2.1.cp cp).t0 (v := 0)) (j := 1) (lo := 0) (hi := 2) (by decide) (by decide) ml_1 mh_1 w) ?_
    rintro x K ⟨rfl, f⟩
    exact tr_ret ⟨by decide, f⟩
theorem ok_25 (hI : FS I) : ∃ (r1 r2 : Int) (J K : Mem), f_PR_bestLeast I = some (r1, J) ∧ f_M_bestLeast J = some (r2, K) ∧ w32 r1 = w32 r2 ∧ dC I K ≤ 210600 ∧ dS I K ≤ 631700 := by
  have w : ∀ v : Nat, 2 ≤ v → v ≤ 9 → WF (gsN gF 0 v) := fun v _ h => WF_n ⟨fun z => by omega, fun z => by omega, fun z => by omega⟩
  refine ok_I (u := 2) ?_ (fun J cp => m7_I ?_)
  · unfold f_PR_bestLeast
    rw [show (4 : Int) = 4 + ((0 : Nat) : Int) from rfl]
    refine tr_call (bn_ok hI (j := 0) (lo := 2) (hi := 9) (by decide) (by decide) lo_0 hi_0 w) ?_
    rintro x K ⟨rfl, cp⟩
    exact tr_ret ⟨by decide, cp⟩
  · unfold f_M_bestLeast
    try dsimp only [ltI]
    refine tr_call (bo_ok ((hI.2.2.1.cp cp).t0 (v := 0)) (j := 0) (lo := 2) (hi := 9) (by decide) (by decide) ml_0 mh_0 w) ?_
    rintro x K ⟨rfl, f⟩
    exact tr_ret ⟨by decide, f⟩
theorem gS1 : gSize gF = 1 := by decide
theorem ok_15 (hI : FS I) : ∃ (r1 r2 : UInt64) (J K : Mem), f_PR_ratio I = some (r1, J) ∧ f_M_ratio J = some (r2, K) ∧ Op.cmpValue (FP.dcmp r1 r2) .l = Int32.ofInt 0 ∧ dC I K ≤ 210600 ∧ dS I K ≤ 631700 := by
  have gw := (hI.2.2.1).t0 (v := 0)
  obtain ⟨x, K, e, rfl, -, -, f⟩ := t_textLong gw WF_gF
  have d := d_MPo (I := I) (MPo_s.trans (FL_ok f))
  have d2 := (CP_same (I := I)).2.2
  refine ⟨FP.ddiv (FP.i2d (Int32.ofInt 1)) (FP.i2d (Int32.ofInt 1)), FP.ddiv (FP.i2d (Int32.ofInt 1)) (FP.i2d (Int32.ofInt 1)), I, K, ?_, ?_, by decide +kernel, by omega, by omega⟩
  · unfold f_PR_ratio
    rw [hI.len, bnd_some, if_neg (by decide), g_totalSize hI.1, bnd_some, gS1, if_pos (by decide +kernel)]
  · unfold f_M_ratio
    try dsimp only [ltI]
    rw [m_sizeNow gw, bnd_some, e, bnd_some, gS1, show ((gT gF).length : Int) = 1 from rfl, if_pos (by decide +kernel)]
theorem fq1 : FP.fdiv (FP.i2f (Int32.ofInt 1)) (FP.i2f (Int32.ofInt 1)) = (0x3f800000 : UInt32) := by decide +kernel
theorem bits1 (K : Mem) : f_PR_bitsOf (0x3f800000 : UInt32) K = some (ior (ish 127 23) (ian ((FP.f2i (FP.fmul (FP.fsub (0x3f800000 : UInt32) FP.fconst1) (1258291200 : UInt32))).toInt) 8388607), K) := by
  have s : f_PR_bitsOf_w7 ((0x3f800000 : UInt32), 127, 0) K = some (.inr ((0x3f800000 : UInt32), 127), K) := by
    unfold f_PR_bitsOf_w7
    rw [if_pos (by decide), if_pos (by decide +kernel)]
  unfold f_PR_bitsOf
  rw [whl_eq, s]
  dsimp only
  rw [bnd_some]
  dsimp only
  rw [if_pos (by decide +kernel), if_pos (by decide +kernel)]
theorem ok_16 (hI : FS I) : ∃ (r1 r2 : Int) (J K : Mem), f_PR_meanBits I = some (r1, J) ∧ f_M_meanBits J = some (r2, K) ∧ w32 r1 = w32 r2 ∧ dC I K ≤ 210600 ∧ dS I K ≤ 631700 := by
  refine ok_I (u := 1065353216) ?_ (fun J cp => m7_I ?_)
  · have e1 : I 2 (43 * 0) 1 = 1 := hI.r0.2.1
    unfold f_PR_meanBits
    rw [e1, if_neg (by decide), hI.len, bnd_some, fq1, if_pos (by decide +kernel), bits1, bnd_some]
    exact tr_ret ⟨by decide +kernel, CP_same⟩
  · have gw := (hI.2.2.1.cp cp).t0 (v := 0)
    unfold f_M_meanBits
    try dsimp only [ltI]
    refine tr_call (t_textLong gw WF_gF) ?_
    rintro _ K ⟨rfl, -, gk, f⟩
    rw [m_many0 (gk.1 0 (by decide)).1, bnd_some, show ((gT gF).length : Int) = 1 from rfl, fq1, if_pos (by decide +kernel), if_pos (by decide +kernel)]
    exact tr_ret ⟨by decide +kernel, f.mono f7_l⟩
end OPS5
end
section
/-! ===== calls one by one: report, feed ===== -/
section OPS6
variable {I J : Mem} {g : GS}
/-- a call of the class that grows nothing -/
theorem CP_c {F : FP} (f : Fm F I J) (hF : ∀ k i s : Nat, F k i s → k < 26 ∧ ¬ (k = 2 ∧ s = 2) ∧ ¬ (k = 10 ∧ s = 2)) : CP I J := by
  have h2 : ∀ r : Nat, J 2 r 2 = I 2 r 2 := fun r => f.at (by decide) (fun z => (hF _ _ _ z).2.1 ⟨rfl, rfl⟩)
  have h10 : J 10 0 2 = I 10 0 2 := f.at (by decide) (fun z => (hF _ _ _ z).2.2 ⟨rfl, rfl⟩)
  have hc : Cap J = Cap I := by
    unfold Cap
    rw [h10, show (fun r : Nat => J 2 r 2) = fun r => I 2 r 2 from funext h2]
  have g := f.2
  unfold Gr at g
  refine ⟨fun k i s h1 h2 => f.at (by omega) (fun z => by have := (hF _ _ _ z).1; omega), ⟨g.1, g.2.1⟩, ?_, ?_⟩
  · unfold dC; omega
  · unfold dS; omega
abbrev FRep : FP := fun k _ s => k = 25 ∨ (k = 10 ∧ s = 1)
abbrev FMR : FP := fun k i s => (k = 27 ∧ i = 22) ∨ (k = 26 ∧ s = 43)
theorem ok_34 (hI : FS I) : ∃ (r1 r2 : Int) (J K : Mem), f_PR_report I = some (r1, J) ∧ f_M_report J = some (r2, K) ∧ w32 r1 = w32 r2 ∧ dC I K ≤ 210600 ∧ dS I K ≤ 631700 := by
  refine ok_I (u := 1) ?_ (fun J cp => m7_I ?_)
  · have f1 : Fm FRep I (sI I 10 0 1 0) := Fm.sI (by decide) (by omega) (by omega) (Or.inr ⟨rfl, rfl⟩)
    have e1 : (sI I 10 0 1 0) 10 0 1 = 0 := sI_self _ _ _ _ _
    generalize hJ1 : sI I 10 0 1 0 = J1 at f1 e1
    have e2 : J1 10 0 2 = 64 := (f1.at (by decide) (by decide)).trans hI.h10
    have gc : GC J1 0 gF := hI.1.fm f1 (fun k i s z q => by unfold FG at z; unfold FRep at q; omega)
    have r0 : RW J1 0 [0] := gc.2.1 0 (by decide)
    have ep : ∀ v : Int, f_Rep_put v J1 = some ((), sI (sI J1 25 0 0 (i2b v)) 10 0 1 ((sI J1 25 0 0 (i2b v)) 10 0 1 + 1)) := fun v => by
      unfold f_Rep_put f_Rep_put_j51
      rw [e2, e1, if_pos (by decide), if_pos (by decide), if_pos (by decide), if_pos (by decide), if_pos (by decide)]
      rfl
    obtain ⟨J2, ep2, e12, f2⟩ : ∃ J2 : Mem, f_Rep_put (97 + 0) J1 = some ((), J2) ∧ J2 10 0 1 = 1 ∧ Fm FRep J1 J2 := by
      refine ⟨_, ep _, by rw [sI_self, sI_ne (by decide), e1]; rfl, (Fm.sI (by decide) (by omega) (by omega) (Or.inl rfl)).trans (Fm.sI (by decide) (by omega) (by omega) (Or.inr ⟨rfl, rfl⟩))⟩
    have gc2 : GC J2 0 gF := gc.fm f2 (fun k i s z q => by unfold FG at z; unfold FRep at q; omega)
    have r02 : RW J2 0 [0] := gc2.2.1 0 (by decide)
    have er : f_Rep_putRow 0 J1 = some ((), J2) := by
      unfold f_Rep_putRow
      rw [if_pos (by decide), whl_eq]
      have s1 : f_Rep_putRow_w2 0 0 J1 = some (.inl (0 + 1), J2) := by
        have ec : J1 2 0 1 = 1 := r0.2.1
        unfold f_Rep_putRow_w2
        rw [ec, if_pos (by decide), row_atI r0 (by decide) (by decide), bnd_some]
        show (if w32 0 < 26 then bnd (f_Rep_put (97 + 0) J1) _ else _) = _
        rw [if_pos (by decide), ep2]
        rfl
      rw [s1]
      dsimp only
      rw [whl_eq]
      have s2 : f_Rep_putRow_w2 0 (0 + 1) J2 = some (.inr (), J2) := by
        have ec : J2 2 0 1 = 1 := r02.2.1
        unfold f_Rep_putRow_w2
        rw [ec, if_neg (by decide)]
      rw [s2]
      rfl
    have ew : whl (f_Rep_writeOf_w15 0) 0 J2 = some ((), J2) := by
      refine whl_ro (fun k => (k : Int)) 40 rfl (fun k hk => ?_) ?_
      · unfold f_Rep_writeOf_w15
        rw [w32_of (by omega) (by omega), if_pos (by omega), g_hasRule gc2 hk, bI_neg (fun z => z (gF_Rs _)), bnd_some, if_pos (by decide), Int.natCast_succ]
      · unfold f_Rep_writeOf_w15
        rw [if_neg (by decide)]
    have e12' : f_Rep_writeOf 0 I = some ((), J2) := by
      unfold f_Rep_writeOf
      rw [if_pos (by decide)]
      show bnd (f_Rep_putRow 0 (sI I 10 0 1 0)) _ = _
      rw [hJ1, er, bnd_some, ew]
      rfl
    unfold f_PR_report
    rw [e12', bnd_some, e12]
    exact tr_ret ⟨by decide, CP_c (f1.trans f2) (fun k i s z => by unfold FRep at z; omega)⟩
  · have gw := (hI.2.2.1.cp cp).t0 (v := 0)
    have f1 : Fm FM7 (sI J 26 0 7 0) (sI (sI J 26 0 7 0) 26 0 43 0) := Fm.sI (by decide) (by omega) (by omega) (Or.inr (Or.inr ⟨rfl, by decide⟩))
    have e1 : (sI (sI J 26 0 7 0) 26 0 43 0) 26 0 43 = 0 := sI_self _ _ _ _ _
    have g1 : GW (sI (sI J 26 0 7 0) 26 0 43 0) gF := GWf.congr gw (fun s _ => sI_ne (by omega))
    unfold f_M_report
    try dsimp only [ltI]
    generalize sI (sI J 26 0 7 0) 26 0 43 0 = J1 at f1 e1 g1
    obtain ⟨J2, ew, e2, f2⟩ : ∃ J2 : Mem, f_M_writes (97 + 0) J1 = some ((), J2) ∧ J2 26 0 43 = 1 ∧ Fm FMR J1 J2 := by
      refine ⟨sI (sI J1 27 22 0 (97 + 0)) 26 0 43 ((sI J1 27 22 0 (97 + 0)) 26 0 43 + 1), ?_, by rw [sI_self, sI_ne (by decide), e1]; rfl, (Fm.sI (by decide) (by omega) (by omega) (Or.inl ⟨rfl, rfl⟩)).trans (Fm.sI (by decide) (by omega) (by omega) (Or.inr ⟨rfl, rfl⟩))⟩
      unfold f_M_writes
      rw [e1, if_pos (by decide)]
      rfl
    have g2 : GW J2 gF := g1.fm f2 (fun s _ z => by unfold FMR at z; omega)
    have er : f_M_writesRow 0 J1 = some ((), J2) := by
      unfold f_M_writesRow
      rw [whl_eq]
      have s1 : f_M_writesRow_w2 0 0 J1 = some (.inl (0 + 1), J2) := by
        unfold f_M_writesRow_w2
        rw [m_many0 (g1.1 0 (by decide)).1, bnd_some, if_pos (by decide)]
        have ea : f_M_at 0 0 J1 = some (0, J1) := m_at g1 (i := 0) (j := 0) (by decide) (by decide)
        rw [ea, bnd_some, if_pos (by decide), ew]
        rfl
      rw [s1]
      dsimp only
      rw [whl_eq]
      have s2 : f_M_writesRow_w2 0 (0 + 1) J2 = some (.inr (), J2) := by
        unfold f_M_writesRow_w2
        rw [m_many0 (g2.1 0 (by decide)).1, bnd_some, if_neg (by decide)]
      rw [s2]
      rfl
    have el : whl f_M_report_w17 0 J2 = some ((), J2) := by
      refine whl_ro (fun k => (k : Int)) 40 rfl (fun k hk => ?_) ?_
      · unfold f_M_report_w17
        rw [w32_of (by omega) (by omega), if_pos (by omega), m_isHere0 g2 hk, bnd_some, if_pos (by decide), Int.natCast_succ]
      · unfold f_M_report_w17
        rw [if_neg (by decide)]
    rw [er, bnd_some, el, bnd_some, e2]
    exact tr_ret ⟨by decide, f1.trans (f2.mono (fun a b c z => by unfold FMR at z; unfold FM7; omega))⟩
theorem bv255 (x : BitVec 32) (n : Nat) (h : n ≤ 24) : (x >>> n) &&& 255#32 = (x.sshiftRight n) &&& 255#32 := by
  apply BitVec.eq_of_getLsbD_eq
  intro i hi
  rw [BitVec.getLsbD_and, BitVec.getLsbD_and, BitVec.getLsbD_ushiftRight, BitVec.getLsbD_sshiftRight]
  by_cases q : i < 8
  · have h2 : n + i < 32 := by omega
    rw [if_pos h2, decide_eq_false (by omega : ¬ 32 ≤ i)]
    rfl
  · have e : ∀ i : Nat, i < 32 → ¬ i < 8 → (255#32).getLsbD i = false := by decide
    rw [e i hi q, Bool.and_false, Bool.and_false]
theorem by_eq (v : Int) {k : Nat} (hk : k < 4) : ian (ius v (24 - 8 * (k : Int))) 255 = ian (isr v (24 - 8 * (k : Int))) 255 := by
  unfold ian ius isr
  rw [Int32.ofInt_toInt, Int32.ofInt_toInt]
  refine congrArg Int32.toInt (Int32.toBitVec_inj.mp ?_)
  rcases (show k = 0 ∨ k = 1 ∨ k = 2 ∨ k = 3 by omega) with rfl | rfl | rfl | rfl
  · exact bv255 _ 24 (by decide)
  · exact bv255 _ 16 (by decide)
  · exact bv255 _ 8 (by decide)
  · exact bv255 _ 0 (by decide)
theorem by_0 (v : Int) : ian (isr v (24 - 8 * ((3 : Nat) : Int))) 255 = ian v 255 := by
  unfold ian isr
  rw [Int32.ofInt_toInt]
  refine congrArg Int32.toInt (Int32.toBitVec_inj.mp ?_)
  exact (bv255 (Int32.ofInt v).toBitVec 0 (by decide)).symm.trans rfl
theorem by_nn (v : Int) : 0 ≤ ian v 255 := by
  unfold ian
  have h : ((Int32.ofInt v).toBitVec &&& 255#32).msb = false := by
    rw [BitVec.msb_and]
    exact Bool.and_false _
  show 0 ≤ ((Int32.ofInt v).toBitVec &&& 255#32).toInt
  rw [BitVec.toInt_eq_toNat_of_msb h]
  exact Int.natCast_nonneg _
theorem wx (x : Int32) : w32 x.toInt = x.toInt := by rw [← w_toInt, Int32.ofInt_toInt]
abbrev byK (v : Int) (k : Nat) : Int := ian (isr v (24 - 8 * (k : Int))) 255
theorem by_w (v : Int) (k : Nat) : w32 (byK v k) = byK v k := wx _
def nbk (v : Int) : Nat → Nat
  | 0 => 0
  | k + 1 => nbk v k + (if byK v k = 0 then 0 else 1)
theorem nbk_s (v : Int) (k : Nat) : ((nbk v (k + 1) : Nat) : Int) = (nbk v k : Int) + (if byK v k = 0 then 0 else 1) := by
  show ((nbk v k + (if byK v k = 0 then 0 else 1) : Nat) : Int) = _
  by_cases q : byK v k = 0
  · rw [if_pos q, if_pos q]; rfl
  · rw [if_neg q, if_neg q]; rfl
theorem nbk_le (v : Int) : ∀ k : Nat, nbk v k ≤ k
  | 0 => Nat.le_refl 0
  | k + 1 => by
    have := nbk_le v k
    show nbk v k + (if byK v k = 0 then 0 else 1) ≤ k + 1
    split <;> omega
theorem s_bytesIn (v : Int) (J : Mem) : f_Src_bytesIn v J = some ((nbk v 4 : Int), J) := by
  have h : whl (f_Src_bytesIn_w5 v) (0, 24) J = some ((nbk v 4 : Int), J) := by
    refine whl_ro (fun k => ((nbk v k : Int), 24 - 8 * (k : Int))) 4 rfl (fun k hk => ?_) ?_
    · unfold f_Src_bytesIn_w5
      show (if w32 (24 - 8 * (k : Int)) < 0 then _ else some (Sum.inl ((nbk v k : Int) + (if w32 (ian (ius v (24 - 8 * (k : Int))) 255) = 0 then 0 else 1), 24 - 8 * (k : Int) + (-8)), J)) = _
      rw [w32_of (by omega) (by omega), if_neg (by omega), by_eq v hk, by_w, nbk_s, Int.natCast_succ, show 24 - 8 * (k : Int) + (-8) = 24 - 8 * ((k : Int) + 1) by omega]
    · unfold f_Src_bytesIn_w5
      show (if w32 (24 - 8 * ((4 : Nat) : Int)) < 0 then _ else _) = _
      rw [if_pos (by decide)]
  unfold f_Src_bytesIn
  rw [h]
  rfl
theorem bI_by (v : Int) (k : Nat) : bI (0 < w32 (byK v k)) = if byK v k = 0 then 0 else 1 := by
  have h := by_nn (isr v (24 - 8 * (k : Int)))
  rw [by_w]
  by_cases q : byK v k = 0
  · rw [if_pos q, bI_neg (by omega)]
  · rw [if_neg q, bI_pos (by show 0 < ian _ 255; have q' : ¬ ian (isr v (24 - 8 * (k : Int))) 255 = 0 := q; omega)]
theorem m_bytesIn (v : Int) (J : Mem) : f_M_bytesIn v J = some ((nbk v 4 : Int), J) := by
  have e3 : ian v 255 = byK v 3 := (by_0 v).symm
  unfold f_M_bytesIn
  rw [e3, m_oneI, bnd_some, m_oneI, bnd_some, m_oneI, bnd_some, m_oneI, bnd_some]
  rw [show ian (isr v 24) 255 = byK v 0 from rfl, show ian (isr v 16) 255 = byK v 1 from rfl, show ian (isr v 8) 255 = byK v 2 from rfl, bI_by, bI_by, bI_by, bI_by, nbk_s, nbk_s, nbk_s, nbk_s]
  rw [show ((nbk v 0 : Nat) : Int) = 0 from rfl, Int.zero_add]
abbrev FSrc : FP := fun k _ s => k = 19 ∨ (k = 6 ∧ s = 1)
theorem t_take (v : Int) {c : Nat} (hc : c + 4 ≤ 600) (h : I 6 0 1 = (c : Int)) : Tr (f_Src_take v I) (fun _ J => J 6 0 1 = ((c + nbk v 4 : Nat) : Int) ∧ Fm FSrc I J) := by
  unfold f_Src_take
  refine tr_call (P := fun _ J => J 6 0 1 = ((c + nbk v 4 : Nat) : Int) ∧ Fm FSrc I J) (tr_cnt (fun k => 24 - 8 * (k : Int)) (fun k J => J 6 0 1 = ((c + nbk v k : Nat) : Int) ∧ Fm FSrc I J) 4 rfl ⟨h, Fm.refl _ _⟩ ?_ ?_) (fun _ _ q => tr_ret q)
  · rintro k J hk ⟨e, f⟩
    have hb := nbk_le v k
    have hs := nbk_s v k
    unfold f_Src_take_w3
    rw [w32_of (x := 24 - 8 * (k : Int)) (by omega) (by omega), if_neg (by omega), by_eq v hk, by_w]
    by_cases q : byK v k = 0
    · rw [if_pos q] at hs
      rw [if_pos q]
      exact tr_ret ⟨by omega, by rw [e]; omega, f⟩
    · rw [if_neg q] at hs
      rw [if_neg q, e, w32_of (x := ((c + nbk v k : Nat) : Int)) (by omega) (by omega), if_pos (by omega), if_pos (by omega)]
      try dsimp only [ltI]
      refine tr_ret ⟨by omega, ?_, f.trans ((Fm.sI (by decide) (by omega) (by omega) (Or.inl rfl)).trans (Fm.sI (by decide) (by omega) (by omega) (Or.inr ⟨rfl, rfl⟩)))⟩
      rw [sI_self, sI_ne (by omega), e]
      omega
  · rintro J ⟨e, f⟩
    unfold f_Src_take_w3
    rw [if_pos (by decide)]
    exact tr_ret ⟨e, f⟩
abbrev FMf : FP := fun k i s => (k = 27 ∧ i = 14) ∨ (k = 26 ∧ s = 20)
theorem t_feeds (v : Int) {c : Nat} (hc : c + 4 ≤ 600) (h : I 26 0 20 = (c : Int)) : Tr (f_M_feeds v I) (fun _ J => J 26 0 20 = ((c + nbk v 4 : Nat) : Int) ∧ Fm FMf I J) := by
  unfold f_M_feeds
  refine tr_call (P := fun _ J => J 26 0 20 = ((c + nbk v 4 : Nat) : Int) ∧ Fm FMf I J) (tr_cnt (fun k => 24 - 8 * (k : Int)) (fun k J => J 26 0 20 = ((c + nbk v k : Nat) : Int) ∧ Fm FMf I J) 4 rfl ⟨h, Fm.refl _ _⟩ ?_ ?_) (fun _ _ q => tr_ret q)
  · rintro k J hk ⟨e, f⟩
    have hb := nbk_le v k
    have hs := nbk_s v k
    unfold f_M_feeds_w3
    rw [w32_of (x := 24 - 8 * (k : Int)) (by omega) (by omega), if_neg (by omega), by_w]
    by_cases q : byK v k = 0
    · rw [if_pos q] at hs
      rw [if_pos q]
      exact tr_ret ⟨by omega, by rw [e]; omega, f⟩
    · rw [if_neg q] at hs
      rw [if_neg q, e, w32_of (x := ((c + nbk v k : Nat) : Int)) (by omega) (by omega), if_pos (by omega)]
      try dsimp only [ltI]
      refine tr_ret ⟨by omega, ?_, f.trans ((Fm.sI (by decide) (by omega) (by omega) (Or.inl ⟨rfl, rfl⟩)).trans (Fm.sI (by decide) (by omega) (by omega) (Or.inr ⟨rfl, rfl⟩)))⟩
      rw [sI_self, sI_ne (by omega), e]
      omega
  · rintro J ⟨e, f⟩
    unfold f_M_feeds_w3
    rw [if_pos (by decide)]
    exact tr_ret ⟨e, f⟩
theorem ok_0 (hI : FS I) (a1 a2 a3 a4 a5 : Int) (_h1 : w32 a1 = a1) (_h2 : w32 a2 = a2) (_h3 : w32 a3 = a3) (_h4 : w32 a4 = a4) (_h5 : w32 a5 = a5) : ∃ (r1 r2 : Int) (J K : Mem), f_PR_feed a1 a2 a3 a4 a5 I = some (r1, J) ∧ f_M_feed a1 a2 a3 a4 a5 J = some (r2, K) ∧ w32 r1 = w32 r2 ∧ dC I K ≤ 210600 ∧ dS I K ≤ 631700 := by
  have n1 := nbk_le a1 4
  have n2 := nbk_le a2 4
  have n3 := nbk_le a3 4
  have n4 := nbk_le a4 4
  have n5 := nbk_le a5 4
  refine ok_I (u := w32 ((0 + nbk a1 4 + nbk a2 4 + nbk a3 4 + nbk a4 4 + nbk a5 4 : Nat) : Int)) ?_ (fun J cp => m7_I ?_)
  · have e6 : I 6 0 1 = ((0 : Nat) : Int) := (hI.at (by decide) (by decide)).trans rfl
    have er : f_Src_hasRoomFor (((((nbk a1 4 : Int) + (nbk a2 4 : Int)) + (nbk a3 4 : Int)) + (nbk a4 4 : Int)) + (nbk a5 4 : Int)) I = some (1, I) := by
      unfold f_Src_hasRoomFor
      rw [e6, w32_of (by omega) (by omega), if_neg (by omega)]
    unfold f_PR_feed
    rw [s_bytesIn, bnd_some, s_bytesIn, bnd_some, s_bytesIn, bnd_some, s_bytesIn, bnd_some, s_bytesIn, bnd_some, er, bnd_some, if_neg (by decide)]
    refine tr_call (t_take a1 (by omega) e6) ?_
    rintro _ J1 ⟨e, f1⟩
    refine tr_call (t_take a2 (by omega) e) ?_
    rintro _ J2 ⟨e, f2⟩
    refine tr_call (t_take a3 (by omega) e) ?_
    rintro _ J3 ⟨e, f3⟩
    refine tr_call (t_take a4 (by omega) e) ?_
    rintro _ J4 ⟨e, f4⟩
    refine tr_call (t_take a5 (by omega) e) ?_
    rintro _ J5 ⟨e, f5⟩
    exact tr_ret ⟨by rw [e], CP_c (f1.trans (f2.trans (f3.trans (f4.trans f5)))) (fun k i s z => by unfold FSrc at z; omega)⟩
  · have e20 : (sI J 26 0 7 0) 26 0 20 = ((0 : Nat) : Int) := by rw [sI_ne (by decide), cp.1 26 0 20 (by decide) (by decide), hI.at (by decide) (by decide)]; rfl
    unfold f_M_feed
    try dsimp only [ltI]
    rw [m_bytesIn, bnd_some, m_bytesIn, bnd_some, m_bytesIn, bnd_some, m_bytesIn, bnd_some, m_bytesIn, bnd_some, e20, w32_of (by omega) (by omega), if_neg (by omega)]
    refine tr_call (t_feeds a1 (by omega) e20) ?_
    rintro _ J1 ⟨e, f1⟩
    refine tr_call (t_feeds a2 (by omega) e) ?_
    rintro _ J2 ⟨e, f2⟩
    refine tr_call (t_feeds a3 (by omega) e) ?_
    rintro _ J3 ⟨e, f3⟩
    refine tr_call (t_feeds a4 (by omega) e) ?_
    rintro _ J4 ⟨e, f4⟩
    refine tr_call (t_feeds a5 (by omega) e) ?_
    rintro _ J5 ⟨e, f5⟩
    exact tr_ret ⟨by rw [e], (f1.trans (f2.trans (f3.trans (f4.trans f5)))).mono (fun k i s z => by unfold FMf at z; unfold FM7; omega)⟩
end OPS6
end
section
/-! ===== calls one by one: load and play on nothing ===== -/
section OPS7
variable {I J : Mem} {g : GS}
abbrev FAd : FP := fun k _ s => k = 6 ∧ (s = 2 ∨ s = 3 ∨ s = 4)
theorem t_adv0 (h1 : J 6 0 1 = 0) (h4 : J 6 0 4 = 0) : Tr (f_Src_advance J) (fun _ K => K 6 0 2 = 0 ∧ K 6 0 3 = 0 ∧ Fm FAd J K) := by
  have s1 : f_Src_advance_w5 0 J = some (.inr 0, J) := by
    unfold f_Src_advance_w5
    rw [h1, if_neg (by decide)]
  unfold f_Src_advance
  rw [h4, whl_eq, s1]
  dsimp only
  rw [bnd_some]
  try dsimp only [ltI]
  have f1 : Fm FAd J (sI J 6 0 3 0) := Fm.sI (by decide) (by omega) (by omega) ⟨rfl, by decide⟩
  have e1 : (sI J 6 0 3 0) 6 0 1 = 0 := by rw [sI_ne (by decide), h1]
  have e3 : (sI J 6 0 3 0) 6 0 3 = 0 := sI_self _ _ _ _ _
  rw [e1, if_neg (by decide)]
  generalize sI J 6 0 3 0 = J1 at f1 e1 e3
  unfold f_Src_advance_j69
  try dsimp only [ltI]
  have f2 : Fm FAd J1 (sI J1 6 0 2 0) := Fm.sI (by decide) (by omega) (by omega) ⟨rfl, by decide⟩
  have e2 : (sI J1 6 0 2 0) 6 0 2 = 0 := sI_self _ _ _ _ _
  have e3 : (sI J1 6 0 2 0) 6 0 3 = 0 := by rw [sI_ne (by decide), e3]
  rw [e2, if_neg (by decide), if_neg (by decide)]
  generalize sI J1 6 0 2 0 = J2 at f2 e2 e3
  unfold f_Src_advance_j93
  rw [whl_eq]
  have s2 : ∀ x : Int, f_Src_advance_w109 0 x J2 = some (.inr x, J2) := fun x => by
    unfold f_Src_advance_w109
    rw [if_pos (by decide)]
  rw [s2]
  dsimp only
  rw [bnd_some]
  try dsimp only [ltI]
  exact tr_ret ⟨by rw [sI_ne (by decide), e2], by rw [sI_ne (by decide), e3], f1.trans (f2.trans (Fm.sI (by decide) (by omega) (by omega) ⟨rfl, by decide⟩))⟩
abbrev FRw : FP := fun k _ s => k = 6 ∧ s ≠ 1
theorem t_rew0 (h1 : J 6 0 1 = 0) : Tr (f_Src_rewind J) (fun _ K => K 6 0 2 = 0 ∧ K 6 0 3 = 0 ∧ Fm FRw J K) := by
  unfold f_Src_rewind
  try dsimp only [ltI]
  have f1 : Fm FRw J (sI (sI (sI J 6 0 4 0) 6 0 6 0) 6 0 7 (-1)) := ((Fm.sI (by decide) (by omega) (by omega) ⟨rfl, by decide⟩).trans (Fm.sI (by decide) (by omega) (by omega) ⟨rfl, by decide⟩)).trans (Fm.sI (by decide) (by omega) (by omega) ⟨rfl, by decide⟩)
  refine tr_call (t_adv0 (by rw [f1.at (by decide) (by decide), h1]) (by rw [sI_ne (by decide), sI_ne (by decide), sI_self])) ?_
  rintro _ K ⟨e2, e3, f2⟩
  exact tr_ret ⟨e2, e3, f1.trans (f2.mono (fun a b c z => by unfold FAd at z; unfold FRw; omega))⟩
abbrev FRm : FP := fun k i s => FG 2 k i s ∨ k = 9
theorem t_rem {g2 : GS} (gc0 : GC J 0 gF) (gc2 : GC J 2 g2) (pt : PTi J) (e3 : J 9 0 3 = 0) : Tr (f_His_remember 0 J) (fun _ K => GC K 0 gF ∧ GC K 2 gF ∧ PTi K ∧ Fm FRm J K) := by
  unfold f_His_remember
  rw [if_pos (by decide), e3, if_pos (by decide)]
  refine tr_call (t_gtakeFrom (t := 2) (a := 0) gc2 gc0 (by decide)) ?_
  rintro _ K ⟨gc2, f⟩
  have gc0 : GC K 0 gF := gc0.fm f (fun k i s z q => by unfold FG at z q; omega)
  have pt : PTi K := pt.fgu (f.mono (fun _ _ _ => Or.inl))
  have e3' : K 9 0 3 = 0 := (f.at (by decide) (by unfold FG; omega)).trans e3
  have f9 : ∀ v w : Int, Fm (fun k _ _ => k = 9) K (sI (sI K 9 0 3 v) 9 0 4 w) := fun v w => (Fm.sI (by decide) (by omega) (by omega) rfl).trans (Fm.sI (by decide) (by omega) (by omega) rfl)
  rw [e3', if_pos (by decide)]
  unfold f_His_remember_j35
  try dsimp only [ltI]
  obtain ⟨c, kf, pl, hp⟩ := pt
  exact tr_ret ⟨gc0.fm (f9 _ _) (fun k i s z q => by unfold FG at z; omega), gc2.fm (f9 _ _) (fun k i s z q => by unfold FG at z; omega), ⟨c, kf, pl, hp.fm (f9 _ _) (fun i s => ⟨fun z => absurd z (by decide), fun z => absurd z (by decide)⟩)⟩, (f.mono (fun a b c z => Or.inl z)).trans ((f9 _ _).mono (fun a b c z => Or.inr z))⟩
abbrev FScr : FP := fun k _ s => (k = 6 ∧ s ≠ 1) ∨ k = 8
theorem t_sread (h1 : I 6 0 1 = 0) : Tr (f_Scr_read I) (fun x K => x = 1 ∧ K 8 0 8 = 0 ∧ Fm FScr I K) := by
  unfold f_Scr_read
  try dsimp only [ltI]
  have f1 : Fm FScr I (sI (sI (sI I 8 0 8 0) 8 0 9 0) 8 0 10 0) := ((Fm.sI (by decide) (by omega) (by omega) (Or.inr rfl)).trans (Fm.sI (by decide) (by omega) (by omega) (Or.inr rfl))).trans (Fm.sI (by decide) (by omega) (by omega) (Or.inr rfl))
  have e8 : (sI (sI (sI I 8 0 8 0) 8 0 9 0) 8 0 10 0) 8 0 8 = 0 := by rw [sI_ne (by decide), sI_ne (by decide), sI_self]
  have e10 : (sI (sI (sI I 8 0 8 0) 8 0 9 0) 8 0 10 0) 8 0 10 = 0 := sI_self _ _ _ _ _
  generalize sI (sI (sI I 8 0 8 0) 8 0 9 0) 8 0 10 0 = J at f1 e8 e10
  refine tr_call (t_rew0 (by rw [f1.at (by decide) (by decide), h1])) ?_
  rintro _ K ⟨e2, e3, f2⟩
  have e8 : K 8 0 8 = 0 := (f2.at (by decide) (by decide)).trans e8
  have e10 : K 8 0 10 = 0 := (f2.at (by decide) (by decide)).trans e10
  rw [whl_eq]
  have s : f_Scr_read_w24 0 K = some (.inr 1, K) := by
    have ei : f_Src_is 0 K = some (1, K) := by
      unfold f_Src_is
      rw [e2, if_pos rfl]
    unfold f_Scr_read_w24
    rw [if_neg (by decide), e10, if_pos (by decide), ei, bnd_some, if_neg (by decide)]
  rw [s]
  exact tr_ret ⟨rfl, e8, f1.trans (f2.mono (fun a b c z => Or.inl z))⟩
abbrev FMd : FP := fun k _ s => k = 26 ∧ (s = 21 ∨ s = 23 ∨ s = 24)
theorem t_madv0 (h20 : J 26 0 20 = 0) (h22 : J 26 0 22 = 0) : Tr (f_M_advance J) (fun _ K => K 26 0 23 = 0 ∧ K 26 0 21 = 0 ∧ Fm FMd J K) := by
  have eb : f_M_byteAt 0 J = some (-1, J) := by
    unfold f_M_byteAt
    rw [h20, if_neg (by decide)]
  have s1 : f_M_advance_w0 () J = some (.inr (), J) := by
    unfold f_M_advance_w0
    rw [h22, eb, bnd_some, if_neg (by decide), h22, eb, bnd_some, if_neg (by decide)]
  unfold f_M_advance
  rw [whl_eq, s1]
  dsimp only
  rw [bnd_some, h22]
  try dsimp only [ltI]
  have f1 : Fm FMd J (sI (sI J 26 0 21 0) 26 0 24 0) := (Fm.sI (by decide) (by omega) (by omega) ⟨rfl, by decide⟩).trans (Fm.sI (by decide) (by omega) (by omega) ⟨rfl, by decide⟩)
  have e21 : (sI (sI J 26 0 21 0) 26 0 24 0) 26 0 21 = 0 := by rw [sI_ne (by decide), sI_self]
  have e20 : (sI (sI J 26 0 21 0) 26 0 24 0) 26 0 20 = 0 := (f1.at (by decide) (by decide)).trans h20
  rw [e21, e20, if_pos rfl]
  exact tr_ret ⟨sI_self _ _ _ _ _, by rw [sI_ne (by decide), e21], f1.trans (Fm.sI (by decide) (by omega) (by omega) ⟨rfl, by decide⟩)⟩
abbrev FRb : FP := fun k i s => (k = 27 ∧ i = 3) ∨ (k = 26 ∧ s = 6)
theorem t_remb' {k : Nat} (hk : k < 3) (h6 : J 26 0 6 = 0) : Tr (f_M_remembers k J) (fun _ K => Fm FRb J K) := by
  unfold f_M_remembers
  rw [if_pos (by omega), h6, if_neg (by decide)]
  unfold f_M_remembers_j50
  rw [h6, show (16860 : Int) * 0 = ((0 : Nat) : Int) from rfl]
  refine tr_call (t_mlays (k := k) (b := 0) (k' := 3) (b' := 0) (I := J) (by omega) (by decide) (by unfold mLen; rw [if_pos hk]; exact Nat.le_refl _) (by decide) (by unfold mLen; rw [if_pos hk]; decide) (by decide) (by omega)) ?_
  rintro _ K ⟨-, f⟩
  try dsimp only [ltI]
  exact tr_ret ((f.mono (fun a b c z => Or.inl ⟨z.1, z.2.1⟩)).trans (Fm.sI (by decide) (by omega) (by omega) (Or.inr ⟨rfl, rfl⟩)))
abbrev FMs : FP := fun k _ s => k = 26 ∧ s ≠ 7 ∧ s ≠ 6
theorem m_faulty0 {w : Int} (h : J 26 0 25 = 0) : f_M_faulty 0 w J = some (0, J) := by
  unfold f_M_faulty f_M_faulty_j24
  rw [h, if_pos (by decide), if_pos (by decide), if_pos (by decide)]
theorem ok_2 (hI : FS I) : ∃ (r1 r2 : Int) (J K : Mem), f_PR_play I = some (r1, J) ∧ f_M_play J = some (r2, K) ∧ w32 r1 = w32 r2 ∧ dC I K ≤ 210600 ∧ dS I K ≤ 631700 := by
  refine ok_I (u := 0) ?_ (fun J cp => m7_I ?_)
  · have e6 : I 6 0 1 = 0 := (hI.at (by decide) (by decide)).trans rfl
    have e9 : I 9 0 3 = 0 := (hI.at (by decide) (by decide)).trans rfl
    unfold f_PR_play
    refine tr_call (t_sread e6) ?_
    rintro _ J1 ⟨rfl, e8, f1⟩
    rw [if_neg (by decide)]
    try dsimp only [ltI]
    have f2 : Fm (fun k _ _ => k = 0) J1 (sI J1 0 0 9 (-1)) := Fm.sI (by decide) (by omega) (by omega) rfl
    have f12 : Fm (fun k _ s => (k = 6 ∧ s ≠ 1) ∨ k = 8 ∨ k = 0) I (sI J1 0 0 9 (-1)) := (f1.mono (fun a b c z => by unfold FScr at z; omega)).trans (f2.mono (fun a b c z => Or.inr (Or.inr z)))
    have e8 : (sI J1 0 0 9 (-1)) 8 0 8 = 0 := by rw [sI_ne (by decide), e8]
    generalize sI J1 0 0 9 (-1) = J2 at f12 e8
    obtain ⟨c, kf, pl, hp⟩ := hI.2.1
    refine tr_call (t_rem (hI.1.fm f12 (fun k i s z q => by unfold FG at z; omega)) ((hI.g (t := 2) (by decide) (by decide)).fm f12 (fun k i s z q => by unfold FG at z; omega)) ⟨c, kf, pl, hp.fm f12 (fun i s => ⟨fun z => by omega, fun z => by omega⟩)⟩ ((f12.at (by decide) (by omega)).trans e9)) ?_
    rintro _ J3 ⟨gc0, gc2, -, f3⟩
    have e8 : J3 8 0 8 = 0 := (f3.at (by decide) (by unfold FRm FG; omega)).trans e8
    have eo : f_Scr_firstOrder J3 = some (-1, J3) := by
      have ee : f_Scr_isEntry 0 J3 = some (0, J3) := by
        unfold f_Scr_isEntry
        rw [if_neg (by decide), e8, if_neg (by decide)]
      have es : f_Scr_orderFrom_w4 (0, 0) J3 = some (.inr (-1), J3) := by
        unfold f_Scr_orderFrom_w4
        rw [if_pos (by decide), ee, bnd_some, if_pos (by decide)]
      unfold f_Scr_firstOrder f_Scr_orderFrom
      rw [whl_eq, es]
      rfl
    have ew : f_PR_play_w50 (0, -1) J3 = some (.inr 0, J3) := by
      unfold f_PR_play_w50
      rw [if_pos (by decide), if_pos (by decide)]
    rw [eo, bnd_some, whl_eq, ew]
    dsimp only
    rw [bnd_some]
    unfold f_Src_dropAll
    try dsimp only [ltI]
    rw [bnd_some]
    have f4 : Fm (fun k _ _ => k = 6) J3 (sI J3 6 0 1 0) := Fm.sI (by decide) (by omega) (by omega) rfl
    refine tr_ret ⟨by decide, CP_x hI ((f12.mono (fun a b c z => Or.inr (Or.inr (by omega)))).trans ((f3.mono (fun a b c z => ?_)).trans (f4.mono (fun a b c z => Or.inr (Or.inr (by omega)))))) (gc0.fm f4 (fun k i s z q => by unfold FG at z; omega)) (gc2.fm f4 (fun k i s z q => by unfold FG at z; omega))⟩
    rcases z with z | z
    · exact fx_h _ _ _ z
    · exact Or.inr (Or.inr (by omega))
  · have ez : ∀ s : Nat, s ≠ 7 → s ≠ 27 → (sI J 26 0 7 0) 26 0 s = 0 := fun s h7 h27 => by
      rw [sI_ne (by omega), cp.1 26 0 s (by decide) (by decide), hI.at (by decide) (by decide)]
      exact if_neg h27
    have e20 := ez 20 (by decide) (by decide)
    have e6 := ez 6 (by decide) (by decide)
    unfold f_M_play
    try dsimp only [ltI]
    generalize sI J 26 0 7 0 = J0 at e20 e6
    have hs : Tr (f_M_script J0) (fun _ K => K 26 0 25 = 0 ∧ K 26 0 38 = 0 ∧ Fm FMs J0 K) := by
      unfold f_M_script
      try dsimp only [ltI]
      have f1 : Fm FMs J0 (sI (sI (sI (sI (sI J0 26 0 22 0) 26 0 25 0) 26 0 38 0) 26 0 39 0) 26 0 40 0) := (((((Fm.sI (by decide) (by omega) (by omega) ⟨rfl, by decide, by decide⟩).trans (Fm.sI (by decide) (by omega) (by omega) ⟨rfl, by decide, by decide⟩)).trans (Fm.sI (by decide) (by omega) (by omega) ⟨rfl, by decide, by decide⟩)).trans (Fm.sI (by decide) (by omega) (by omega) ⟨rfl, by decide, by decide⟩)).trans (Fm.sI (by decide) (by omega) (by omega) ⟨rfl, by decide, by decide⟩))
      have c22 : (sI (sI (sI (sI (sI J0 26 0 22 0) 26 0 25 0) 26 0 38 0) 26 0 39 0) 26 0 40 0) 26 0 22 = 0 := by rw [sI_ne (by decide), sI_ne (by decide), sI_ne (by decide), sI_ne (by decide), sI_self]
      have c25 : (sI (sI (sI (sI (sI J0 26 0 22 0) 26 0 25 0) 26 0 38 0) 26 0 39 0) 26 0 40 0) 26 0 25 = 0 := by rw [sI_ne (by decide), sI_ne (by decide), sI_ne (by decide), sI_self]
      have c38 : (sI (sI (sI (sI (sI J0 26 0 22 0) 26 0 25 0) 26 0 38 0) 26 0 39 0) 26 0 40 0) 26 0 38 = 0 := by rw [sI_ne (by decide), sI_ne (by decide), sI_self]
      have c40 : (sI (sI (sI (sI (sI J0 26 0 22 0) 26 0 25 0) 26 0 38 0) 26 0 39 0) 26 0 40 0) 26 0 40 = 0 := sI_self _ _ _ _ _
      have c20 : (sI (sI (sI (sI (sI J0 26 0 22 0) 26 0 25 0) 26 0 38 0) 26 0 39 0) 26 0 40 0) 26 0 20 = 0 := by rw [sI_ne (by decide), sI_ne (by decide), sI_ne (by decide), sI_ne (by decide), sI_ne (by decide), e20]
      generalize sI (sI (sI (sI (sI J0 26 0 22 0) 26 0 25 0) 26 0 38 0) 26 0 39 0) 26 0 40 0 = J1 at f1 c22 c25 c38 c40 c20
      refine tr_call (t_madv0 c20 c22) ?_
      rintro _ K ⟨d23, d21, f2⟩
      have d25 : K 26 0 25 = 0 := (f2.at (by decide) (by decide)).trans c25
      have d38 : K 26 0 38 = 0 := (f2.at (by decide) (by decide)).trans c38
      have d40 : K 26 0 40 = 0 := (f2.at (by decide) (by decide)).trans c40
      have es : f_M_script_w29 () K = some (.inr (), K) := by
        unfold f_M_script_w29
        rw [d25, if_pos (by decide), d23, if_pos (by decide)]
      rw [whl_eq, es]
      dsimp only
      rw [bnd_some, d40, if_neg (by decide), m_faulty0 d25, bnd_some, if_pos (Or.inl rfl)]
      try dsimp only [ltI]
      exact tr_ret ⟨by rw [sI_ne (by decide), d25], by rw [sI_ne (by decide), d38], f1.trans ((f2.mono (fun a b c z => by unfold FMd at z; unfold FMs; omega)).trans (Fm.sI (by decide) (by omega) (by omega) ⟨rfl, by decide, by decide⟩))⟩
    refine tr_call hs ?_
    rintro _ K1 ⟨c25, c38, f1⟩
    have he : Tr (f_M_ended K1) (fun x K => x = 0 ∧ K 26 0 38 = 0 ∧ Fm FMs K1 K) := by
      unfold f_M_ended
      try dsimp only [ltI]
      rw [sI_ne (by decide), c25, if_pos (by decide)]
      unfold f_M_ended_j21
      try dsimp only [ltI]
      rw [sI_ne (by decide), sI_ne (by decide), c25, if_pos (by decide)]
      exact tr_ret ⟨rfl, by rw [sI_ne (by decide), sI_ne (by decide), c38], (Fm.sI (by decide) (by omega) (by omega) ⟨rfl, by decide, by decide⟩).trans (Fm.sI (by decide) (by omega) (by omega) ⟨rfl, by decide, by decide⟩)⟩
    refine tr_call he ?_
    rintro _ K2 ⟨rfl, c38, f2⟩
    rw [if_neg (by decide)]
    have f12 := f1.trans f2
    refine tr_call (t_remb' (k := 0) (by decide) ((f12.at (by decide) (by decide)).trans e6)) ?_
    rintro _ K3 f3
    have c38 : K3 26 0 38 = 0 := (f3.at (by decide) (by decide)).trans c38
    have ep : f_M_plays K3 = some (0, K3) := by
      have es : f_M_plays_w6 (0, 0, 0) K3 = some (.inr 0, K3) := by
        unfold f_M_plays_w6
        rw [c38, if_neg (by decide)]
      unfold f_M_plays
      rw [whl_eq, es]
    rw [ep, bnd_some]
    exact tr_ret ⟨by decide, (f12.mono (fun a b c z => by unfold FMs at z; unfold FM7; omega)).trans (f3.mono (fun a b c z => by unfold FRb at z; unfold FM7; omega))⟩
theorem ok_1 (hI : FS I) : ∃ (r1 r2 : Int) (J K : Mem), f_PR_load I = some (r1, J) ∧ f_M_load J = some (r2, K) ∧ w32 r1 = w32 r2 ∧ dC I K ≤ 210600 ∧ dS I K ≤ 631700 := by
  refine ok_I (u := -11) ?_ (fun J cp => m7_I ?_)
  · have e6 : I 6 0 1 = 0 := (hI.at (by decide) (by decide)).trans rfl
    have hr : Tr (f_Set_read I) (fun x J => x = 0 ∧ J 6 0 6 = 1 ∧ GC J 1 g0 ∧ Fm (FX 1 1) I J) := by
      unfold f_Set_read
      refine tr_call (t_gclear (hI.g (t := 1) (by decide) (by decide))) ?_
      rintro _ J1 ⟨gc, f1⟩
      try dsimp only [ltI]
      have f2 : Fm (fun k _ _ => k = 7) J1 (sI (sI (sI (sI J1 7 0 2 0) 7 0 4 0) 7 0 5 0) 7 0 6 0) := (((Fm.sI (by decide) (by omega) (by omega) rfl).trans (Fm.sI (by decide) (by omega) (by omega) rfl)).trans (Fm.sI (by decide) (by omega) (by omega) rfl)).trans (Fm.sI (by decide) (by omega) (by omega) rfl)
      generalize sI (sI (sI (sI J1 7 0 2 0) 7 0 4 0) 7 0 5 0) 7 0 6 0 = J2 at f2
      have e6 : J2 6 0 1 = 0 := (f2.at (by decide) (by decide)).trans ((f1.at (by decide) (by unfold FG; omega)).trans e6)
      refine tr_call (t_rew0 e6) ?_
      rintro _ J3 ⟨e2, e3, f3⟩
      have ew : f_Src_word J3 = some (14, J3) := by
        unfold f_Src_word
        rw [e2, if_neg (by decide)]
      have er : f_Set_readRules J3 = some (1, J3) := by
        have es : f_Set_readRules_w2 0 J3 = some (.inr 1, J3) := by
          unfold f_Set_readRules_w2
          rw [if_neg (by decide), ew, bnd_some, if_pos (by decide), if_neg (by decide)]
        unfold f_Set_readRules
        rw [whl_eq, es]
      obtain ⟨J4, et, e66, f4⟩ : ∃ J4 : Mem, f_Set_readStart J3 = some (0, J4) ∧ J4 6 0 6 = 1 ∧ Fm (fun k _ _ => k = 6) J3 J4 := by
        refine ⟨sI (sI J3 6 0 6 1) 6 0 7 0, ?_, by rw [sI_ne (by decide), sI_self], (Fm.sI (by decide) (by omega) (by omega) rfl).trans (Fm.sI (by decide) (by omega) (by omega) rfl)⟩
        unfold f_Set_readStart f_Src_fail f_Src_failAt
        rw [ew, bnd_some, if_pos (by decide), if_neg (by decide), e3]
        rfl
      rw [er, bnd_some, if_neg (by decide), et, bnd_some, if_pos (by decide)]
      have ff : Fm (fun k _ _ => k = 7 ∨ k = 6) J1 J4 := (f2.mono (fun a b c z => Or.inl z)).trans ((f3.mono (fun a b c z => Or.inr z.1)).trans (f4.mono (fun a b c z => Or.inr z)))
      exact tr_ret ⟨rfl, e66, gc.fm ff (fun k i s z q => by unfold FG at z; omega), (f1.mono fx_g).trans (ff.mono (fun a b c z => Or.inr (Or.inr (by omega))))⟩
    unfold f_PR_load
    refine tr_call hr ?_
    rintro _ J1 ⟨rfl, e66, gc, f1⟩
    unfold f_Src_dropAll f_PR_failure
    try dsimp only [ltI]
    rw [bnd_some, if_pos (by decide), sI_ne (by decide), sI_ne (by decide), sI_ne (by decide), e66]
    have f2 : ∀ v : Int, Fm (fun k _ _ => k = 6 ∨ k = 0) J1 (sI (sI J1 6 0 1 0) 0 0 9 v) := fun v => (Fm.sI (by decide) (by omega) (by omega) (Or.inl rfl)).trans (Fm.sI (by decide) (by omega) (by omega) (Or.inr rfl))
    have gc2 := fun v : Int => gc.fm (f2 v) (fun k i s z q => by unfold FG at z; omega)
    exact tr_ret ⟨by decide, CP_x hI (f1.trans ((f2 _).mono (fun a b c z => Or.inr (Or.inr (by omega))))) (gc2 _) (gc2 _)⟩
  · have ez : ∀ s : Nat, s ≠ 7 → s ≠ 27 → (sI J 26 0 7 0) 26 0 s = 0 := fun s h7 h27 => by
      rw [sI_ne (by omega), cp.1 26 0 s (by decide) (by decide), hI.at (by decide) (by decide)]
      exact if_neg h27
    have e20 := ez 20 (by decide) (by decide)
    unfold f_M_load
    try dsimp only [ltI]
    generalize sI J 26 0 7 0 = J0 at e20
    refine tr_call (P := fun _ K => Fm (fun k _ _ => k = 27) J0 K) ?_ ?_
    · unfold f_M_aside
      refine tr_call (t_mlays (k := 0) (b := 0) (k' := 1) (b' := 0) (I := J0) (by decide) (by decide) (by decide) (by decide) (by decide) (by decide) (by decide)) ?_
      rintro _ K ⟨-, f⟩
      exact tr_ret (f.mono (fun a b c z => z.1))
    rintro _ K1 f1
    have e20 : K1 26 0 20 = 0 := (f1.at (by decide) (by decide)).trans e20
    have hs : Tr (f_M_setup K1) (fun _ K => K 26 0 25 = 1 ∧ K 26 0 26 = 0 ∧ Fm FM7 K1 K) := by
      unfold f_M_setup
      try dsimp only [ltI]
      have f2 : Fm FM7 K1 (sI (sI (sI (sI K1 26 0 22 0) 26 0 25 0) 26 0 28 0) 26 0 30 0) := (((Fm.sI (by decide) (by omega) (by omega) (Or.inr (Or.inr ⟨rfl, by decide⟩))).trans (Fm.sI (by decide) (by omega) (by omega) (Or.inr (Or.inr ⟨rfl, by decide⟩)))).trans (Fm.sI (by decide) (by omega) (by omega) (Or.inr (Or.inr ⟨rfl, by decide⟩)))).trans (Fm.sI (by decide) (by omega) (by omega) (Or.inr (Or.inr ⟨rfl, by decide⟩)))
      have c22 : (sI (sI (sI (sI K1 26 0 22 0) 26 0 25 0) 26 0 28 0) 26 0 30 0) 26 0 22 = 0 := by rw [sI_ne (by decide), sI_ne (by decide), sI_ne (by decide), sI_self]
      have c25 : (sI (sI (sI (sI K1 26 0 22 0) 26 0 25 0) 26 0 28 0) 26 0 30 0) 26 0 25 = 0 := by rw [sI_ne (by decide), sI_ne (by decide), sI_self]
      have c20 : (sI (sI (sI (sI K1 26 0 22 0) 26 0 25 0) 26 0 28 0) 26 0 30 0) 26 0 20 = 0 := by rw [sI_ne (by decide), sI_ne (by decide), sI_ne (by decide), sI_ne (by decide), e20]
      generalize sI (sI (sI (sI K1 26 0 22 0) 26 0 25 0) 26 0 28 0) 26 0 30 0 = J1 at f2 c22 c25 c20
      refine tr_call t_begins ?_
      rintro _ J2 ⟨-, f3⟩
      have c22 : J2 26 0 22 = 0 := (f3.at (by decide) (by decide)).trans c22
      have c25 : J2 26 0 25 = 0 := (f3.at (by decide) (by decide)).trans c25
      have c20 : J2 26 0 20 = 0 := (f3.at (by decide) (by decide)).trans c20
      refine tr_call (t_madv0 c20 c22) ?_
      rintro _ J3 ⟨d23, d21, f4⟩
      have d25 : J3 26 0 25 = 0 := (f4.at (by decide) (by decide)).trans c25
      have ek : ∀ q : Nat, q < 15 → f_M_isKey q J3 = some (0, J3) := fun q hq => by
        unfold f_M_isKey
        rw [if_pos hq, d25, if_pos (by decide), d23, if_neg (by decide)]
      have es : f_M_setup_w28 () J3 = some (.inr (), J3) := by
        unfold f_M_setup_w28
        rw [ek 0 (by decide), bnd_some, if_pos (by decide)]
      have ef : f_M_faulty 1 1 J3 = some (1, sI (sI J3 26 0 25 1) 26 0 26 0) := by
        unfold f_M_faulty f_M_faulty_j24
        try dsimp only [ltI]
        rw [d25, if_pos (by decide), if_neg (by decide), sI_ne (by decide), sI_self, if_neg (by decide), sI_ne (by decide), d21]
      rw [whl_eq, es]
      dsimp only
      rw [bnd_some, d25, if_pos (by decide), ek 1 (by decide), bnd_some, if_pos (by decide), ef, bnd_some, if_neg (by decide)]
      exact tr_ret ⟨by rw [sI_ne (by decide), sI_self], sI_self _ _ _ _ _, f2.trans ((f3.mono f7_w).trans ((f4.mono (fun a b c z => by unfold FMd at z; unfold FM7; omega)).trans ((Fm.sI (by decide) (by omega) (by omega) (Or.inr (Or.inr ⟨rfl, by decide⟩))).trans (Fm.sI (by decide) (by omega) (by omega) (Or.inr (Or.inr ⟨rfl, by decide⟩))))))⟩
    refine tr_call hs ?_
    rintro _ K2 ⟨c25, c26, f2⟩
    have he : Tr (f_M_ended K2) (fun x K => x = -11 ∧ Fm FM7 K2 K) := by
      unfold f_M_ended
      try dsimp only [ltI]
      rw [sI_ne (by decide), c25, if_neg (by decide)]
      unfold f_M_ended_j21
      try dsimp only [ltI]
      rw [sI_ne (by decide), sI_ne (by decide), c25, if_neg (by decide)]
      exact tr_ret ⟨rfl, (Fm.sI (by decide) (by omega) (by omega) (Or.inr (Or.inr ⟨rfl, by decide⟩))).trans (Fm.sI (by decide) (by omega) (by omega) (Or.inr (Or.inr ⟨rfl, by decide⟩)))⟩
    refine tr_call he ?_
    rintro _ K3 ⟨rfl, f3⟩
    rw [if_pos (by decide)]
    refine tr_call (t_back _) ?_
    rintro x K4 ⟨rfl, f4⟩
    exact tr_ret ⟨by decide, (f1.mono (fun a b c z => Or.inl z)).trans (f2.trans (f3.trans f4))⟩
end OPS7
end
