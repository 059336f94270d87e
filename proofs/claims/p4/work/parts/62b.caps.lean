/-! ===== room, and how one call is put together ===== -/
def CapB (I : Mem) : Prop := (∀ r : Nat, r < 516 → 0 ≤ I 2 r 2 ∧ I 2 r 2 ≤ 400) ∧ 0 ≤ I 10 0 2 ∧ I 10 0 2 ≤ 4096
theorem sum_b {f : Nat → Int} : ∀ n : Nat, (∀ r : Nat, r < n → 0 ≤ f r ∧ f r ≤ 400) → 0 ≤ ((List.range n).map f).sum ∧ ((List.range n).map f).sum ≤ 400 * n
  | 0, _ => by simp
  | n + 1, h => by
    have := sum_b n (fun r hr => h r (by omega))
    have h2 := h n (by omega)
    rw [List.range_succ, List.map_append, List.sum_append]
    simp only [List.map_cons, List.map_nil, List.sum_cons, List.sum_nil]
    omega
theorem CapB.le {I : Mem} (h : CapB I) : 0 ≤ Cap I ∧ Cap I ≤ 210496 := by
  have := sum_b (f := fun r => I 2 r 2) 516 h.1
  unfold Cap
  have h2 := h.2
  omega
theorem gr_room {I J : Mem} (g : Gr I J) (hI : CapB I) (hJ : CapB J) : cle I J ∧ dC I J ≤ 210496 ∧ dS I J ≤ 631488 := by
  have h1 := hI.le
  have h2 := hJ.le
  unfold Gr at g
  unfold cle dC dS
  omega
theorem cok_b {c : Int} (h : cok c) : 0 ≤ c ∧ c ≤ 400 := by unfold cok at h; omega
def AllG (I : Mem) : Prop := ∀ t : Nat, t < 12 → ∃ g : GS, GC I t g
theorem AllG.cap {I : Mem} (h : AllG I) (h10 : 0 ≤ I 10 0 2 ∧ I 10 0 2 ≤ 4096) : CapB I := by
  refine ⟨fun r hr => ?_, h10⟩
  obtain ⟨g, h1, h2, h3, h4, -⟩ := h (r / 43) (by omega)
  have key : ∃ l : List Int, RW I r l := by
    rcases (show r % 43 = 0 ∨ r % 43 = 1 ∨ r % 43 = 2 ∨ 3 ≤ r % 43 by omega) with q | q | q | q
    · exact ⟨_, by have := h2 0 (by omega); rw [show rix (r / 43) 0 = r by unfold rix; rw [if_pos rfl]; omega] at this; exact this⟩
    · exact ⟨_, by rw [show 43 * (r / 43) + 1 = r by omega] at h3; exact h3⟩
    · exact ⟨_, by rw [show 43 * (r / 43) + 2 = r by omega] at h4; exact h4⟩
    · exact ⟨_, by have := h2 (r % 43 - 2) (by omega); rw [show rix (r / 43) (r % 43 - 2) = r by unfold rix; rw [if_neg (by omega)]; omega] at this; exact this⟩
  obtain ⟨l, hl⟩ := key
  exact cok_b hl.2.2.2.1
theorem AllG.go {F : FP} {I J : Mem} (h : AllG I) (f : Fm F I J) (S : Nat → Prop) (hS : ∀ t : Nat, t < 12 → S t → ∃ g : GS, GC J t g) (hn : ∀ t : Nat, t < 12 → ¬ S t → ∀ k i s : Nat, FG t k i s → ¬ F k i s) : AllG J := by
  intro t ht
  by_cases q : S t
  · exact hS t ht q
  · obtain ⟨g, hg⟩ := h t ht
    exact ⟨g, hg.fm f (hn t ht q)⟩
theorem CapB_FR0 : CapB FR0 := ⟨fun _ _ => ⟨Int.le_refl 0, (by decide : (0 : Int) ≤ 400)⟩, (by decide : (0 : Int) ≤ 64), (by decide : (64 : Int) ≤ 4096)⟩
theorem FS.g {I : Mem} (h : FS I) {t : Nat} (h1 : 1 ≤ t) (ht : t < 12) : GC I t g0 := by
  obtain ⟨a1, a2, a3, a4, a5, a6⟩ := GC_FR0 ht
  have e : ∀ k i s : Nat, FG t k i s → I k i s = FR0 k i s := fun k i s q => h.2.2.2 k i s (by unfold FG at q; omega) (by unfold FG at q ⊢; omega) (by unfold FG at q; unfold FMC FW; omega)
  have er : ∀ (r : Nat) (l : List Int), 43 * t ≤ r → r < 43 * t + 43 → RW FR0 r l → RW I r l := fun r l q1 q2 ⟨b1, b2, b3, b4, b5⟩ =>
    ⟨b1, by rw [e 2 r 1 (Or.inl ⟨Or.inl rfl, q1, q2⟩)]; exact b2, by rw [e 2 r 2 (Or.inl ⟨Or.inl rfl, q1, q2⟩)]; exact b3, by rw [e 2 r 2 (Or.inl ⟨Or.inl rfl, q1, q2⟩)]; exact b4, fun j hj => by rw [e 12 r j (Or.inl ⟨Or.inr rfl, q1, q2⟩)]; exact b5 j hj⟩
  refine ⟨a1, fun i hi => er _ _ (by unfold rix; split <;> omega) (by unfold rix; split <;> omega) (a2 i hi), er _ _ (by omega) (by omega) a3, er _ _ (by omega) (by omega) a4, fun i hi => ?_, fun i hi => ?_, ?_⟩
  · rw [e 14 t i (Or.inr ⟨by omega, rfl⟩)]; exact a5 i hi
  · rw [e 15 t i (Or.inr ⟨by omega, rfl⟩)]; exact a6.1 i hi
  · rw [e 1 t 6 (Or.inr ⟨by omega, rfl⟩), e 1 t 7 (Or.inr ⟨by omega, rfl⟩), e 1 t 8 (Or.inr ⟨by omega, rfl⟩), e 1 t 9 (Or.inr ⟨by omega, rfl⟩)]; exact a6.2
theorem FS.all {I : Mem} (h : FS I) : AllG I := fun t ht => by
  by_cases q : t = 0
  · subst q; exact ⟨_, h.1⟩
  · exact ⟨_, h.g (by omega) ht⟩
theorem FS.at {I : Mem} (h : FS I) {k i s : Nat} (h30 : k ≠ 30) (h1 : k ≠ 2 ∧ k ≠ 12 ∧ k ≠ 1 ∧ k ≠ 14 ∧ k ≠ 15 ∧ k ≠ 27) : I k i s = FR0 k i s := h.2.2.2 k i s h30 (fun z => by unfold FG at z; omega) (fun z => by unfold FMC FW at z; omega)
theorem FS.h10 {I : Mem} (h : FS I) : I 10 0 2 = 64 := (h.at (by decide) (by decide)).trans rfl
theorem FS.cap {I : Mem} (h : FS I) : CapB I := h.all.cap (by rw [h.h10]; decide)
theorem cap_room {JA J3 : Mem} (hF : FS J3) (g1 : Gr FR0 JA) (g2 : Gr JA J3) : dC FR0 JA + dC JA J3 ≤ 210496 ∧ dS FR0 JA + dS JA J3 ≤ 631488 := by
  have h := gr_room (g1.trans g2) CapB_FR0 hF.cap
  have c1 : cle FR0 JA := ⟨g1.1, g1.2.1⟩
  have c2 : cle JA J3 := ⟨g2.1, g2.2.1⟩
  have := dC_add c1 c2
  omega
/-- what a call of the class leaves -/
def CP (I J : Mem) : Prop := (∀ k i s : Nat, 26 ≤ k → k < 29 → J k i s = I k i s) ∧ cle I J ∧ dC I J ≤ 210500 ∧ dS I J ≤ 631600
/-- what a call of the model leaves -/
def MPo (J K : Mem) : Prop := K 29 0 0 = J 29 0 0 ∧ K 30 0 0 = J 30 0 0 ∧ K 30 0 1 = J 30 0 1
theorem CP_of {F : FP} {I J : Mem} (hI : FS I) (f : Fm F I J) (hF : ∀ k i s : Nat, F k i s → k < 26 ∧ k ≠ 10) (hG : AllG J) : CP I J := by
  have h10 : J 10 0 2 = I 10 0 2 := f.at (by decide) (fun z => (hF _ _ _ z).2 rfl)
  have hb := gr_room f.2 hI.cap (hG.cap (by rw [h10, hI.h10]; decide))
  exact ⟨fun k i s h1 h2 => f.at (by omega) (fun z => by have := (hF _ _ _ z).1; omega), hb.1, by omega, by omega⟩
theorem CP_same {I : Mem} : CP I I := ⟨fun _ _ _ _ _ => rfl, cle.refl I, by rw [(dC_self I).1]; omega, by rw [(dC_self I).2]; omega⟩
theorem CP_thrw {I J : Mem} (h : CP I J) (hc : dC I J ≤ 210496) (hs : dS I J ≤ 631488) : CP I (thrw J) := by
  have e1 := thrw_0 J
  have e2 := thrw_1 J
  obtain ⟨h1, h2, h3, h4⟩ := h
  refine ⟨fun k i s a b => ?_, ?_, ?_, ?_⟩
  · unfold thrw
    rw [sI_ne (by omega), sI_ne (by omega)]
    exact h1 k i s a b
  · unfold cle at *; omega
  · unfold dC cle at *; omega
  · unfold dS cle at *; omega
theorem CP_thr {I : Mem} : CP I (thrw I) := CP_thrw CP_same (by rw [(dC_self I).1]; omega) (by rw [(dC_self I).2]; omega)
theorem MPo_of {F : FP} {J K : Mem} (f : Fm F J K) (hF : ∀ k i s : Nat, F k i s → 26 ≤ k ∧ k < 29) : MPo J K := by
  have h2 : ∀ r : Nat, K 2 r 2 = J 2 r 2 := fun r => f.at (by decide) (fun z => by have := hF _ _ _ z; omega)
  have h10 : K 10 0 2 = J 10 0 2 := f.at (by decide) (fun z => by have := hF _ _ _ z; omega)
  have hc : Cap K = Cap J := by
    unfold Cap
    rw [h10, show (fun r : Nat => K 2 r 2) = fun r => J 2 r 2 from funext h2]
  have g := f.2
  unfold Gr at g
  refine ⟨f.at (by decide) (fun z => by have := hF _ _ _ z; omega), by omega, by omega⟩
theorem MPo.trans {J K L : Mem} (h : MPo J K) (k : MPo K L) : MPo J L := ⟨k.1.trans h.1, k.2.1.trans h.2.1, k.2.2.trans h.2.2⟩
theorem d_MPo {I J K : Mem} (h : MPo J K) : dC I K = dC I J ∧ dS I K = dS I J := by
  unfold dC dS
  rw [h.2.1, h.2.2]
  exact ⟨rfl, rfl⟩
theorem ok_I {fc fm : Mem → Option (Int × Mem)} {I : Mem} {u : Int} (hc : Tr (fc I) (fun x J => w32 x = u ∧ CP I J)) (hm : ∀ J : Mem, CP I J → Tr (fm J) (fun x K => w32 x = u ∧ MPo J K)) : ∃ (r1 r2 : Int) (J K : Mem), fc I = some (r1, J) ∧ fm J = some (r2, K) ∧ w32 r1 = w32 r2 ∧ dC I K ≤ 210600 ∧ dS I K ≤ 631700 := by
  obtain ⟨r1, J, e1, h1, cp⟩ := hc
  obtain ⟨r2, K, e2, h2, mp⟩ := hm J cp
  have d := d_MPo (I := I) mp
  have c3 := cp.2.2
  exact ⟨r1, r2, J, K, e1, e2, h1.trans h2.symm, by omega, by omega⟩
abbrev kRet : Int → Mem → Option (Int × Mem) := fun x3 J2 => ltI (sI J2 29 0 0 (w32 x3)) fun J4 => some (0, J4)
theorem CP_out {I J : Mem} {v : Int} (h : CP I J) : CP I (sI J 29 0 0 v) := by
  obtain ⟨h1, h2, h3, h4⟩ := h
  have e0 : sI J 29 0 0 v 30 0 0 = J 30 0 0 := sI_ne (by decide)
  have e1 : sI J 29 0 0 v 30 0 1 = J 30 0 1 := sI_ne (by decide)
  refine ⟨fun k i s a b => by rw [sI_ne (by omega)]; exact h1 k i s a b, ?_, ?_, ?_⟩
  · unfold cle at *; rw [e0, e1]; exact h2
  · unfold dC at *; rw [e0]; exact h3
  · unfold dS at *; rw [e1]; exact h4
abbrev OKW (fl fm : Mem → Option (Int × Mem)) (I : Mem) : Prop := ∃ (r1 r2 : Int) (J K : Mem), fl I = some (r1, J) ∧ fm J = some (r2, K) ∧ w32 (K 26 0 7) = w32 r1 ∧ (w32 r1 = 0 → w64 (K 29 0 0) = w64 (w32 r2)) ∧ dC I K ≤ 210600 ∧ dS I K ≤ 631700
theorem ok_W {fp : Mem → Option ((Int ⊕ String) × Mem)} {KX : String → Mem → Option (Int × Mem)} {fm : Mem → Option (Int × Mem)} {I : Mem} {u : Int} (hc : Tr (fp I) (fun x J => (∃ v : Int, x = .inl v ∧ w32 v = u) ∧ CP I J)) (hm : ∀ J : Mem, CP I J → Tr (fm J) (fun x K => w32 x = u ∧ K 26 0 7 = 0 ∧ MPo J K)) : OKW (fun I => bndX (fp I) kRet KX) fm I := by
  obtain ⟨r1, J, e1, ⟨v, rfl, hv⟩, cp⟩ := hc
  obtain ⟨r2, K, e2, h2, h7, mp⟩ := hm (sI J 29 0 0 (w32 v)) (CP_out cp)
  have d := d_MPo (I := I) mp
  have c3 := (CP_out (v := w32 v) cp).2.2
  refine ⟨0, r2, _, K, ?_, e2, by rw [h7], fun _ => ?_, by omega, by omega⟩
  · show bndX (fp I) kRet KX = _
    rw [e1]
    rfl
  · rw [mp.1, sI_self, hv, h2]
theorem ok_X {fp : Mem → Option ((Int ⊕ String) × Mem)} {KR : Int → Mem → Option (Int × Mem)} {KX : String → Mem → Option (Int × Mem)} {fm : Mem → Option (Int × Mem)} {I J : Mem} {E : String} {k : Int} (e1 : fp I = some (.inr E, J)) (cp : CP I J) (hk : KX E J = some (k, J)) (h0 : w32 k ≠ 0) (hm : Tr (fm J) (fun _ K => K 26 0 7 = k ∧ MPo J K)) : OKW (fun I => bndX (fp I) KR KX) fm I := by
  obtain ⟨r2, K, e2, h7, mp⟩ := hm
  have d := d_MPo (I := I) mp
  have c3 := cp.2.2
  refine ⟨k, r2, J, K, ?_, e2, by rw [h7], fun z => absurd z h0, by omega, by omega⟩
  show bndX (fp I) KR KX = _
  rw [e1]
  exact hk
theorem GW.cp {I J : Mem} {g : GS} (h : GW I g) (c : CP I J) : GW J g := GWf.congr h (fun s _ => c.1 27 0 s (by decide) (by decide))
