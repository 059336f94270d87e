/-! ===== save and restore; what is fed ===== -/
section KEPT
variable {I J : Mem} {g g' : GS} {ps : List GS} {kp : Nat → Option GS} {bs rp : List Int} {s : SS}
theorem gSize_rng (h : GC I 0 g) : 0 ≤ gSize g ∧ gSize g ≤ 16400 := by
  have key : ∀ n : Nat, n ≤ 41 → 0 ≤ sT (fun i => ((gR g i).length : Int)) n ∧ sT (fun i => ((gR g i).length : Int)) n ≤ 400 * n := by
    intro n
    induction n with
    | zero => intro _; exact ⟨Int.le_refl 0, Int.le_refl 0⟩
    | succ n ih =>
      intro hn
      have h1 := ih (by omega)
      have h2 := (h.2.1 n (by omega)).len
      show 0 ≤ sT (fun i => ((gR g i).length : Int)) n + ((gR g n).length : Int) ∧ sT (fun i => ((gR g i).length : Int)) n + ((gR g n).length : Int) ≤ _
      omega
  exact key 41 (Nat.le_refl _)
theorem og_37 (h : SI I s) (a1 : Int) (h1 : w32 a1 = a1) : OGW (f_L_save a1) (f_M_save a1) I := by
  obtain ⟨g, ps, kp, bs, rp⟩ := s
  have w : WF g := h.2.2.1
  by_cases hr : 0 ≤ a1 ∧ a1 < 2
  · obtain ⟨j, rfl, hj⟩ : ∃ j : Nat, a1 = (j : Int) ∧ j < 2 := ⟨a1.toNat, by omega, by omega⟩
    have hw : SW (g, ps, up kp j (some g), bs, rp) := ⟨w, h.2.2.2.1, fun i x hx => by
      have hx : up kp j (some g) i = some x := hx
      by_cases q : i = j
      · subst q; rw [up_self] at hx; cases hx; exact w
      · rw [up_ne q] at hx; exact h.2.2.2.2.1 i x hx, h.2.2.2.2.2⟩
    refine og_W (fp := f_PR_save (j : Int)) (s' := (g, ps, up kp j (some g), bs, rp)) (u := w32 (gSize g)) h hw ?_ (fun J sm => m_endG ?_)
    · obtain ⟨a1, a2, a3, a4, a5, a6, a7⟩ := h.1
      obtain ⟨gt, hgt⟩ := a2 (10 + j) (by omega)
      have key : Tr (f_His_keep (j : Int) 0 I) (fun _ J => SC J (g, ps, up kp j (some g), bs, rp) ∧ Fm FCl I J) := by
        unfold f_His_keep
        rw [if_pos (by decide), h1, if_neg (by omega), if_pos (by omega), if_pos (by omega), Int.toNat_natCast]
        refine tr_call (t_gtakeFrom (t := 10 + j) (a := 0) hgt a1 (by omega)) ?_
        rintro _ J ⟨gc2, f⟩
        have f9 : Fm (fun k _ s => k = 24 ∧ s = j) J (sI J 24 0 j 1) := Fm.sI (by decide) (by omega) (by omega) ⟨rfl, rfl⟩
        try dsimp only [ltI]
        have ff : Fm (fun k i s => FG (10 + j) k i s ∨ (k = 24 ∧ s = j)) I (sI J 24 0 j 1) := (f.mono (fun a b c z => Or.inl z)).trans (f9.mono (fun a b c z => Or.inr z))
        have gcj : GC (sI J 24 0 j 1) (10 + j) g := gc2.fm f9 (fun k i s z q => by unfold FG at z; omega)
        have s24 : (sI J 24 0 j 1) 24 0 j = 1 := sI_self _ _ _ _ _
        generalize sI J 24 0 j 1 = K at ff gcj s24
        refine tr_ret ⟨⟨a1.fm ff (fun k i s z q => by unfold FG at z q; omega), a2.go ff (fun t => t = 10 + j) (fun t _ z => by subst z; exact ⟨_, gcj⟩) (fun t _ z k i s q q2 => by unfold FG at q q2; omega), a3.fm ff (fun i s => ⟨fun z => by unfold FG at z; omega, fun z => by unfold FG at z; omega⟩), a4.fm ff (fun s z => by unfold FG at z; omega) (fun t _ _ k i s z q => by unfold FG at z q; omega), fun i hi => ?_, a6.fm ff (fun z => by unfold FG at z; omega) (fun s z => by unfold FG at z; omega), a7.fm ff (fun s z => by unfold FG at z; omega) (fun s z => by unfold FG at z; omega)⟩, ff.mono (fun a b c z => by unfold FG at z; unfold FCl; omega)⟩
        show match up kp j (some g) i with | none => K 24 0 i = 0 | some x => K 24 0 i = 1 ∧ GC K (10 + i) x
        by_cases q : i = j
        · subst q; rw [up_self]; exact ⟨s24, gcj⟩
        · rw [up_ne q]
          have e24 : K 24 0 i = I 24 0 i := ff.at (by decide) (fun z => by unfold FG at z; omega)
          have hh : match kp i with | none => I 24 0 i = 0 | some x => I 24 0 i = 1 ∧ GC I (10 + i) x := a5 i hi
          cases e : kp i with
          | none => rw [e] at hh; exact e24.trans hh
          | some x => rw [e] at hh; exact ⟨e24.trans hh.1, hh.2.fm ff (fun k i s z q => by unfold FG at z q; omega)⟩
      unfold f_PR_save
      rw [h1, if_neg (by omega), if_pos (by omega)]
      refine tr_call key ?_
      rintro _ J1 ⟨sc, f1⟩
      rw [g_totalSize sc.1, bnd_some]
      exact tr_ret ⟨⟨_, rfl, rfl⟩, sc, f1⟩
    · have s0 := sm.t7 (v := 0)
      have e7 : (sI J 26 0 7 0) 26 0 7 = 0 := sI_self _ _ _ _ _
      unfold f_M_save
      try dsimp only [ltI]
      generalize sI J 26 0 7 0 = J0 at s0 e7
      rw [m_noSlot1 e7 h1 hr, bnd_some, if_pos (by decide), show (16860 : Int) * (j : Int) = ((16860 * j : Nat) : Int) by omega, h1]
      refine tr_call (t_mlays (k := 0) (b := 0) (k' := 4) (b' := 16860 * j) (by decide) (by decide) (by decide) (by show 16860 * j + 16860 ≤ 33720; omega) (by decide) (by decide) (by decide)) ?_
      rintro _ K1 ⟨hc, f⟩
      rw [if_pos (by omega), Int.toNat_natCast]
      try dsimp only [ltI]
      have f28 : Fm (fun k _ s => k = 28 ∧ s = j) K1 (sI K1 28 0 j 1) := Fm.sI (by decide) (by omega) (by omega) ⟨rfl, rfl⟩
      have ff : Fm (fun k i s => (k = 27 ∧ i = 4 ∧ 16860 * j ≤ s ∧ s < 16860 * j + 16860) ∨ (k = 28 ∧ s = j)) J0 (sI K1 28 0 j 1) := (f.mono (fun a b c z => Or.inl z)).trans (f28.mono (fun a b c z => Or.inr z))
      have gb : GB (sI K1 28 0 j 1) 4 (16860 * j) g := GWf.congr s0.1 (fun s hs => by
        have := hc s hs
        rw [Nat.zero_add] at this
        rw [sI_ne (by omega)]
        exact this)
      have s28 : (sI K1 28 0 j 1) 28 0 j = 1 := sI_self _ _ _ _ _
      generalize sI K1 28 0 j 1 = K at ff gb s28
      have gk : GW K g := s0.1.fm ff (fun s _ z => by omega)
      rw [m_sizeNow gk, bnd_some]
      refine tr_ret ⟨rfl, ⟨gk, s0.2.1.fm ff (fun z => by omega) (fun s z => by omega), fun i hi => ?_, s0.2.2.2.1.fm ff (fun z => by omega) (fun s z => by omega), s0.2.2.2.2.fm ff (fun z => by omega) (fun s z => by omega)⟩, ff.mono (fun a b c z => by unfold FMq; omega)⟩
      show match up kp j (some g) i with | none => K 28 0 i = 0 | some x => K 28 0 i = 1 ∧ GB K 4 (16860 * i) x
      by_cases q : i = j
      · subst q; rw [up_self]; exact ⟨s28, gb⟩
      · rw [up_ne q]
        have e28 : K 28 0 i = J0 28 0 i := ff.at (by decide) (fun z => by omega)
        have hh : match kp i with | none => J0 28 0 i = 0 | some x => J0 28 0 i = 1 ∧ GB J0 4 (16860 * i) x := s0.2.2.1 i hi
        cases e : kp i with
        | none => rw [e] at hh; exact e28.trans hh
        | some x => rw [e] at hh; exact ⟨e28.trans hh.1, hh.2.fm ff (fun s z1 z2 z => by omega)⟩
  · refine og_X (fp := f_PR_save a1) (E := xIA) (k := 1) h ?_ (if_pos rfl) (by decide) (fun J sm => ?_)
    · unfold f_PR_save
      rw [h1]
      by_cases q : a1 < 0
      · rw [if_pos q]
      · rw [if_neg q, if_neg (by omega)]
    · unfold f_M_save
      try dsimp only [ltI]
      rw [m_noSlot0 (sI_self _ _ _ _ _) h1 hr, bnd_some, if_neg (by decide)]
      exact t_outG sm rfl
theorem og_38 (h : SI I s) (a1 : Int) (h1 : w32 a1 = a1) : OGW (f_L_restore a1) (f_M_restore a1) I := by
  obtain ⟨g, ps, kp, bs, rp⟩ := s
  by_cases hr : 0 ≤ a1 ∧ a1 < 2
  · obtain ⟨j, rfl, hj⟩ : ∃ j : Nat, a1 = (j : Int) ∧ j < 2 := ⟨a1.toNat, by omega, by omega⟩
    have hC : match kp j with | none => I 24 0 j = 0 | some x => I 24 0 j = 1 ∧ GC I (10 + j) x := h.1.2.2.2.2.1 j hj
    have hM : ∀ J : Mem, SM J (g, ps, kp, bs, rp) → match kp j with | none => J 28 0 j = 0 | some x => J 28 0 j = 1 ∧ GB J 4 (16860 * j) x := fun J sm => sm.2.2.1 j hj
    cases e : kp j with
    | none =>
      rw [e] at hC
      refine og_X (fp := f_PR_restore (j : Int)) (E := xNS) (k := 2) h ?_ ?_ (by decide) (fun J sm => ?_)
      · have eh : f_His_hasKept (j : Int) I = some (0, I) := by
          unfold f_His_hasKept
          rw [h1, if_neg (by omega), if_pos (by omega), if_pos (by omega), Int.toNat_natCast, hC, if_pos (by decide)]
        unfold f_PR_restore
        rw [h1, if_neg (by omega), if_pos (by omega), eh, bnd_some, if_pos (by decide)]
      · show (if xNS = xIA then _ else if xNS = xNS then _ else _) = _
        rw [if_neg (by decide), if_pos rfl]
      · have hm := hM J sm
        rw [e] at hm
        have e28 : (sI J 26 0 7 0) 28 0 j = 0 := by rw [sI_ne (by omega)]; exact hm
        unfold f_M_restore
        try dsimp only [ltI]
        rw [m_noSlot1 (sI_self _ _ _ _ _) h1 hr, bnd_some, if_pos (by decide), h1, if_pos (by omega), Int.toNat_natCast, e28, if_pos (by decide), m_f1 (sI_self _ _ _ _ _) (Or.inr rfl), bnd_some, if_neg (by decide)]
        exact t_outG sm rfl
    | some x =>
      rw [e] at hC
      have wx' : WF x := h.2.2.2.2.1 j x e
      refine og_W (fp := f_PR_restore (j : Int)) (s' := (x, [], kp, bs, rp)) (u := w32 (gSize x)) h ⟨wx', (fun y hy => absurd hy List.not_mem_nil), h.2.2.2.2⟩ ?_ (fun J sm => m_endG ?_)
      · have eh : f_His_hasKept (j : Int) I = some (1, I) := by
          unfold f_His_hasKept
          rw [h1, if_neg (by omega), if_pos (by omega), if_pos (by omega), Int.toNat_natCast, hC.1, if_neg (by decide)]
        obtain ⟨a1, a2, a3, a4, a5, a6, a7⟩ := h.1
        unfold f_PR_restore
        rw [h1, if_neg (by omega), if_pos (by omega), eh, bnd_some, if_neg (by decide)]
        unfold f_His_bringBack
        rw [if_pos (by decide), eh, bnd_some, if_neg (by decide), h1, if_pos (by omega), Int.toNat_natCast]
        refine tr_call (P := fun _ J => GC J 0 x ∧ Fm (FG 0) I J) ?_ ?_
        · refine tr_call (t_gtakeFrom (t := 0) (a := 10 + j) a1 hC.2 (by omega)) ?_
          rintro _ J ⟨gc, f⟩
          exact tr_ret ⟨gc, f⟩
        rintro _ J ⟨gc, f⟩
        unfold f_His_forgetPast
        try dsimp only [ltI]
        rw [bnd_some]
        have f9 : Fm (fun k _ s => k = 9 ∧ s = 4) J (sI J 9 0 4 0) := Fm.sI (by decide) (by omega) (by omega) ⟨rfl, rfl⟩
        have ff : Fm (fun k i s => FG 0 k i s ∨ (k = 9 ∧ s = 4)) I (sI J 9 0 4 0) := (f.mono (fun a b c z => Or.inl z)).trans (f9.mono (fun a b c z => Or.inr z))
        have gk : GC (sI J 9 0 4 0) 0 x := gc.fm f9 (fun k i s z q => by unfold FG at z; omega)
        have s94 : (sI J 9 0 4 0) 9 0 4 = 0 := sI_self _ _ _ _ _
        generalize sI J 9 0 4 0 = K at ff gk s94
        rw [g_totalSize gk, bnd_some]
        obtain ⟨b1, b2, nx, b3, b4, b5⟩ := a4
        refine tr_ret ⟨⟨_, rfl, rfl⟩, ⟨gk, a2.go ff (fun t => t = 0) (fun t _ z => by subst z; exact ⟨_, gk⟩) (fun t _ z k i s q q2 => by unfold FG at q q2; omega), a3.fm ff (fun i s => ⟨fun z => by unfold FG at z; omega, fun z => by unfold FG at z; omega⟩), ⟨Nat.zero_le _, s94, nx, b3, by rw [ff.at (by decide) (fun z => by unfold FG at z; omega)]; exact b4, fun k hk => absurd hk (Nat.not_lt_zero k)⟩, a5.fm ff (fun s z => by unfold FG at z; omega) (fun t _ _ k i s z q => by unfold FG at z q; omega), a6.fm ff (fun z => by unfold FG at z; omega) (fun s z => by unfold FG at z; omega), a7.fm ff (fun s z => by unfold FG at z; omega) (fun s z => by unfold FG at z; omega)⟩, ff.mono (fun a b c z => by unfold FG at z; unfold FCl; omega)⟩
      · have s0 := sm.t7 (v := 0)
        have hm : match kp j with | none => (sI J 26 0 7 0) 28 0 j = 0 | some x => (sI J 26 0 7 0) 28 0 j = 1 ∧ GB (sI J 26 0 7 0) 4 (16860 * j) x := hM _ s0
        rw [e] at hm
        have e7 : (sI J 26 0 7 0) 26 0 7 = 0 := sI_self _ _ _ _ _
        unfold f_M_restore
        try dsimp only [ltI]
        generalize sI J 26 0 7 0 = J0 at s0 e7 hm
        rw [m_noSlot1 e7 h1 hr, bnd_some, if_pos (by decide), h1, if_pos (by omega), Int.toNat_natCast, hm.1, if_neg (by decide), m_fz e7, bnd_some, if_pos (by decide), show (16860 : Int) * (j : Int) = ((16860 * j : Nat) : Int) by omega]
        refine tr_call (t_mlays (k := 4) (b := 16860 * j) (k' := 0) (b' := 0) (by decide) (by decide) (by show 16860 * j + 16860 ≤ 33720; omega) (by decide) (by decide) (by decide) (by decide)) ?_
        rintro _ K1 ⟨hc, f⟩
        try dsimp only [ltI]
        have f6 : Fm (fun k _ s => k = 26 ∧ s = 6) K1 (sI K1 26 0 6 0) := Fm.sI (by decide) (by omega) (by omega) ⟨rfl, rfl⟩
        have ff : Fm (fun k i s => (k = 27 ∧ i = 0) ∨ (k = 26 ∧ s = 6)) J0 (sI K1 26 0 6 0) := (f.mono (fun a b c z => Or.inl ⟨z.1, z.2.1⟩)).trans (f6.mono (fun a b c z => Or.inr z))
        have gk : GW (sI K1 26 0 6 0) x := (GB.copy hc hm.2).fm f6 (fun s _ z => absurd z.1 (by decide))
        have s6 : (sI K1 26 0 6 0) 26 0 6 = 0 := sI_self _ _ _ _ _
        generalize sI K1 26 0 6 0 = K at ff gk s6
        rw [m_sizeNow gk, bnd_some]
        exact tr_ret ⟨rfl, ⟨gk, ⟨Nat.zero_le _, s6, fun k hk => absurd hk (Nat.not_lt_zero k)⟩, s0.2.2.1.fm ff (fun s z => by omega) (fun s z => by omega), s0.2.2.2.1.fm ff (fun z => by omega) (fun s z => by omega), s0.2.2.2.2.fm ff (fun z => by omega) (fun s z => by omega)⟩, ff.mono (fun a b c z => by unfold FMq; omega)⟩
  · refine og_X (fp := f_PR_restore a1) (E := xIA) (k := 1) h ?_ ?_ (by decide) (fun J sm => ?_)
    · unfold f_PR_restore
      rw [h1]
      by_cases q : a1 < 0
      · rw [if_pos q]
      · rw [if_neg q, if_neg (by omega)]
    · show (if xIA = xIA then _ else _) = _
      rw [if_pos rfl]
    · unfold f_M_restore
      try dsimp only [ltI]
      rw [m_noSlot0 (sI_self _ _ _ _ _) h1 hr, bnd_some, if_neg (by decide)]
      exact t_outG sm rfl
end KEPT
