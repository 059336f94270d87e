/-! ===== from the fresh object on: the invariant at the start; room ===== -/
section START
variable {I J K : Mem} {s s' : SS}
theorem AllG.rows (h : AllG I) : ∀ r : Nat, r < 516 → 0 ≤ I 2 r 2 ∧ I 2 r 2 ≤ 400 := by
  intro r hr
  obtain ⟨g, h1, h2, h3, h4, -⟩ := h (r / 43) (by omega)
  have key : ∃ l : List Int, RW I r l := by
    rcases (show r % 43 = 0 ∨ r % 43 = 1 ∨ r % 43 = 2 ∨ 3 ≤ r % 43 by omega) with q | q | q | q
    · exact ⟨_, by have := h2 0 (by omega); rw [show rix (r / 43) 0 = r by unfold rix; rw [if_pos rfl]; omega] at this; exact this⟩
    · exact ⟨_, by rw [show 43 * (r / 43) + 1 = r by omega] at h3; exact h3⟩
    · exact ⟨_, by rw [show 43 * (r / 43) + 2 = r by omega] at h4; exact h4⟩
    · exact ⟨_, by have := h2 (r % 43 - 2) (by omega); rw [show rix (r / 43) (r % 43 - 2) = r by unfold rix; rw [if_neg (by omega)]; omega] at this; exact this⟩
  obtain ⟨l, hl⟩ := key
  exact cok_b hl.2.2.2.1
theorem SI.cap (h : SI I s) : 0 ≤ Cap I ∧ Cap I ≤ 337472 := by
  have h1 := sum_b (f := fun r => I 2 r 2) 516 h.1.2.1.rows
  have h2 : capR (I 10 0 2) := h.1.2.2.2.2.2.2.2.2.1
  unfold Cap
  unfold capR at h2
  omega
theorem rm_room (h : Rm I K) : ((dC I K : Nat) : Int) ≤ Cap K - Cap I + 1 ∧ ((dS I K : Nat) : Int) ≤ 3 * (Cap K - Cap I) + 6 := by
  unfold Rm at h
  unfold dC dS
  omega
theorem si_start (h : FS I) : SI I (gF, [], (fun _ => none), [], []) := by
  have h10 := h.h10
  refine ⟨⟨h.1, h.all, h.2.1, ⟨Nat.zero_le _, (h.at (by decide) (by decide)).trans rfl, 0, by decide, (h.at (by decide) (by decide)).trans rfl, fun k hk => absurd hk (Nat.not_lt_zero k)⟩, fun j hj => ?_, ⟨(h.at (by decide) (by decide)).trans rfl, fun k hk => absurd hk (Nat.not_lt_zero k)⟩, ⟨(h.at (by decide) (by decide)).trans rfl, ?_, ?_, fun k hk => absurd hk (Nat.not_lt_zero k)⟩⟩, ⟨h.2.2.1, ⟨Nat.zero_le _, (h.at (by decide) (by decide)).trans rfl, fun k hk => absurd hk (Nat.not_lt_zero k)⟩, fun j hj => ?_, ⟨(h.at (by decide) (by decide)).trans rfl, fun k hk => absurd hk (Nat.not_lt_zero k)⟩, ⟨(h.at (by decide) (by decide)).trans rfl, fun k hk => absurd hk (Nat.not_lt_zero k)⟩⟩, ⟨WF_gF, fun x hx => absurd hx List.not_mem_nil, fun j x hx => (nomatch hx), ⟨Nat.zero_le _, fun b hb => absurd hb List.not_mem_nil⟩, ⟨(by decide : 0 < 70000), fun b hb => absurd hb List.not_mem_nil⟩⟩⟩
  · show I 24 0 j = 0
    exact (h.at (by decide) (by decide)).trans rfl
  · show ((0 : Nat) : Int) ≤ I 10 0 2
    omega
  · show capR (I 10 0 2)
    unfold capR
    omega
  · show I 28 0 j = 0
    exact (h.at (by decide) (by decide)).trans rfl
end START
