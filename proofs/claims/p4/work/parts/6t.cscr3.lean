/-! ===== scripts: the class reads, third part ===== -/
theorem scr_inv {bs : List Int} : ∀ (n : Nat) (E : List EN) (c p : Nat) (s : PS), SEI bs E c p → scr bs n E c p = .inr s → SEI bs s.1 s.2.1 s.2.2 ∧ enc s.1 s.1.length = []
  | 0, E, c, p, s, _, e => by cases e
  | n + 1, E, c, p, s, h, e => by
    have e : (if enc E E.length = [] ∧ tK bs p = 0 then .inr (E, c, p) else (match (if enc E E.length ≠ [] ∧ tK bs p = 5 then cloP bs E c p else ordP bs E c p) with
      | .inl e => .inl e
      | .inr s => scr bs n s.1 s.2.1 s.2.2)) = (Sum.inr s : Int ⊕ PS) := e
    by_cases q : enc E E.length = [] ∧ tK bs p = 0
    · rw [if_pos q] at e
      cases e
      exact ⟨h, q.1⟩
    · rw [if_neg q] at e
      by_cases q2 : enc E E.length ≠ [] ∧ tK bs p = 5
      · rw [if_pos q2] at e
        cases hc : cloP bs E c p with
        | inl v => rw [hc] at e; cases e
        | inr t =>
          rw [hc] at e
          exact scr_inv n t.1 t.2.1 t.2.2 s (cloP_inv h q2.1 q2.2 hc).1 e
      · rw [if_neg q2] at e
        cases hc : ordP bs E c p with
        | inl v => rw [hc] at e; cases e
        | inr t =>
          rw [hc] at e
          exact scr_inv n t.1 t.2.1 t.2.2 s (ordP_inv h hc).1 e
section CSCR3
variable {I J : Mem} {bs : List Int} {E : List EN} {c p : Nat}
theorem t_readClose (hl : bs.length ≤ 600) (hr : ∀ b ∈ bs, 1 ≤ b ∧ b ≤ 255) (hS : SEI bs E c p) (h : PCl I bs E c p) (hne : enc E E.length ≠ []) (h5 : tK bs p = 5) : Tr (f_Scr_readClose I) (fun x K => OKo K bs x (cloP bs E c p) ∧ Fm FSc I K) := by
  obtain ⟨hB, hT, hSC, hO, h9⟩ := id h
  have hp := hS.1
  have hE := tE_le hp
  have hE2 := tE_le hE.2.1
  have hc30 := hS.2.1
  have hcc := hS.2.2.1
  have h22 := hS.2.2.2.1 E.length (Nat.le_refl _)
  have hpos := List.length_pos_iff.mpr hne
  obtain ⟨a, t, ha⟩ : ∃ a t, enc E E.length = a :: t := by
    cases hx : enc E E.length with
    | nil => exact absurd hx hne
    | cons a t => exact ⟨a, t, rfl⟩
  obtain ⟨ha1, ha2, ha3⟩ := enc_cons _ _ _ ha
  have hL : E.length < 60 := by omega
  unfold f_Scr_readClose
  rw [c_addEntry hSC.1 (by omega) (by decide), bnd_some]
  try dsimp only [ltI]
  have e10 : (sI (sI I 20 0 E.length ((13 : Nat) : Int)) 8 0 8 ((E.length : Int) + 1)) 8 0 10 = ((enc E E.length).length : Int) := by rw [sI_ne (by omega), sI_ne (by omega)]; exact hO.1
  rw [e10]
  have f1 : Fm (fun k i s => (k = 8 ∧ (s = 8 ∨ s = 10)) ∨ (k = 20 ∧ s = E.length)) I (sI (sI (sI I 20 0 E.length ((13 : Nat) : Int)) 8 0 8 ((E.length : Int) + 1)) 8 0 10 (((enc E E.length).length : Int) - 1)) := ((Fm.sI (by decide) (by omega) (by omega) (Or.inr ⟨rfl, rfl⟩)).trans (Fm.sI (by decide) (by omega) (by omega) (Or.inl ⟨rfl, Or.inl rfl⟩))).trans (Fm.sI (by decide) (by omega) (by omega) (Or.inl ⟨rfl, Or.inr rfl⟩))
  have a8 : (sI (sI (sI I 20 0 E.length ((13 : Nat) : Int)) 8 0 8 ((E.length : Int) + 1)) 8 0 10 (((enc E E.length).length : Int) - 1)) 8 0 8 = ((E.length + 1 : Nat) : Int) := by rw [sI_ne (by omega), sI_self]; rfl
  have a10 : (sI (sI (sI I 20 0 E.length ((13 : Nat) : Int)) 8 0 8 ((E.length : Int) + 1)) 8 0 10 (((enc E E.length).length : Int) - 1)) 8 0 10 = (((enc E E.length).length - 1 : Nat) : Int) := by rw [sI_self]; omega
  have a20 : (sI (sI (sI I 20 0 E.length ((13 : Nat) : Int)) 8 0 8 ((E.length : Int) + 1)) 8 0 10 (((enc E E.length).length : Int) - 1)) 20 0 E.length = 13 := by rw [sI_ne (by omega), sI_ne (by omega), sI_self]; rfl
  generalize sI (sI (sI I 20 0 E.length ((13 : Nat) : Int)) 8 0 8 ((E.length : Int) + 1)) 8 0 10 (((enc E E.length).length : Int) - 1) = J1 at f1 a8 a10 a20
  have hO1 : J1 21 5 ((enc E E.length).length - 1) = (a : Int) := by
    rw [f1.at (by decide) (by omega), hO.2 _ (by omega), show (enc E E.length).length - 1 - ((enc E E.length).length - 1) = 0 by omega, ha]
    rfl
  rw [a10, w32_of (x := (((enc E E.length).length - 1 : Nat) : Int)) (by omega) (by omega), if_neg (by omega), if_pos (by omega), if_pos (by omega), Int.toNat_natCast, hO1]
  unfold f_Scr_readClose_j46
  rw [w32_of (x := (a : Int)) (by omega) (by omega), if_pos (by omega), w32_of (x := (E.length : Int)) (by omega) (by omega)]
  try dsimp only [ltI]
  rw [if_pos (by omega), Int.toNat_natCast, Int.toNat_natCast]
  have f2 : Fm (fun k i s => k = 21 ∧ i = 3 ∧ (s = a ∨ s = E.length)) J1 (sI (sI J1 21 3 a (E.length : Int)) 21 3 E.length (a : Int)) := (Fm.sI (by decide) (by omega) (by omega) ⟨rfl, rfl, Or.inl rfl⟩).trans (Fm.sI (by decide) (by omega) (by omega) ⟨rfl, rfl, Or.inr rfl⟩)
  have b1 : (sI (sI J1 21 3 a (E.length : Int)) 21 3 E.length (a : Int)) 21 3 E.length = (a : Int) := sI_self _ _ _ _ _
  have b2 : (sI (sI J1 21 3 a (E.length : Int)) 21 3 E.length (a : Int)) 21 3 a = (E.length : Int) := by rw [sI_ne (by omega), sI_self]
  generalize sI (sI J1 21 3 a (E.length : Int)) 21 3 E.length (a : Int) = J2 at f2 b1 b2
  have f12 : Fm (fun k i s => (k = 8 ∧ (s = 8 ∨ s = 10)) ∨ (k = 20 ∧ s = E.length) ∨ (k = 21 ∧ i = 3 ∧ (s = a ∨ s = E.length))) I J2 := (f1.mono (fun a b c z => z.elim Or.inl (fun y => Or.inr (Or.inl y)))).trans (f2.mono (fun a b c z => Or.inr (Or.inr z)))
  have hB2 : BfC J2 bs := hB.fm f12 (by omega) (fun s => by omega)
  have hT2 : TC J2 bs p := hT.fm f12 (fun s _ _ => by omega)
  refine tr_call (t_advS hB2 hl hr hp hT2) ?_
  rintro _ J3 ⟨t3, f3⟩
  refine tr_call (t_pass (hB2.sx f3) hl hr hE.2.1 t3 (a := 3) (by omega)) ?_
  rintro x J4 ⟨rfl, w1, w2, f4⟩
  have f34 := f3.trans f4
  have fend : Fm FSc I J4 := (f12.mono (fun a b c z => by
    rcases z with z | z | z
    · exact Or.inr (Or.inl ⟨z.1, by omega⟩)
    · exact Or.inr (Or.inr (Or.inl z.1))
    · exact Or.inr (Or.inr (Or.inr z.1)))).trans (f34.mono fsx_sc)
  rw [if_pos (bI_01 _)]
  unfold cloP
  by_cases q3 : tK bs (tE bs p) = 3
  · rw [if_pos q3]
    have heq : enc (E ++ [((13, 0, 0) : EN)]) (E ++ [((13, 0, 0) : EN)]).length = t := by
      rw [enc_next, if_neg (by decide), if_pos rfl, ha]
      rfl
    have atJ : ∀ {k i s : Nat}, k ≠ 30 → ¬ FSx k i s → J4 k i s = J2 k i s := fun h1 h2 => f34.at h1 h2
    have htl : (enc E E.length).length = t.length + 1 := by rw [ha]; rfl
    refine tr_ret ⟨⟨bI_pos q3, hB2.sx f34, w1 q3, ?_, ?_, ?_⟩, fend⟩
    · refine hSC.app ?_ (fun j hj => ⟨?_, ?_, ?_, ?_⟩) ⟨?_, fun y => absurd (show (13 : Nat) = 8 ∨ (13 : Nat) = 10 from y) (by decide), fun _ _ _ y => absurd rfl y⟩ (fun k hk hw a' t' ee => ?_) (fun _ a' t' ee => ?_)
      · rw [atJ (by decide) (by unfold FSx; omega), f2.at (by decide) (by omega)]; exact a8
      · rw [atJ (by decide) (by unfold FSx; omega), f12.at (by decide) (by omega)]
      · rw [atJ (by decide) (by unfold FSx; omega), f12.at (by decide) (by omega)]
      · rw [atJ (by decide) (by unfold FSx; omega), f12.at (by decide) (by omega)]
      · rw [atJ (by decide) (by unfold FSx; omega), f12.at (by decide) (by omega)]
      · rw [atJ (by decide) (by unfold FSx; omega), f2.at (by decide) (by omega)]; exact a20
      · obtain ⟨z1, z2, z3⟩ := enc_cons _ _ _ ee
        have hg := enc_gone hw ee E.length hk
        have n1 : a' ≠ a := fun y => hg (by rw [y, ha]; exact List.mem_cons_self)
        have n2 : k ≠ a := fun y => by rw [y, ha2] at hw; exact absurd hw (by decide)
        exact ⟨by rw [atJ (by decide) (by unfold FSx; omega), f12.at (by decide) (by omega)], by rw [atJ (by decide) (by unfold FSx; omega), f12.at (by decide) (by omega)]⟩
      · rw [ha] at ee
        cases ee
        exact ⟨by rw [atJ (by decide) (by unfold FSx; omega)]; exact b1, by rw [atJ (by decide) (by unfold FSx; omega)]; exact b2⟩
    · refine ⟨by rw [heq, atJ (by decide) (by unfold FSx; omega), f2.at (by decide) (by omega), a10, htl]; rfl, fun d hd => ?_⟩
      rw [heq] at hd ⊢
      rw [atJ (by decide) (by unfold FSx; omega), f12.at (by decide) (by omega), hO.2 d (by omega), ha]
      show (((a :: t).getD (t.length + 1 - 1 - d) 0 : Nat) : Int) = _
      obtain ⟨u, hu⟩ : ∃ u : Nat, t.length + 1 - 1 - d = u + 1 := ⟨t.length - 1 - d, by omega⟩
      rw [hu, show t.length - 1 - d = u by omega]
      rfl
    · show J4 8 0 9 = (c : Int)
      rw [atJ (by decide) (by unfold FSx; omega), f12.at (by decide) (by omega)]
      exact h9
  · rw [if_neg q3]
    exact tr_ret ⟨⟨bI_neg q3, w2 q3⟩, fend⟩
theorem t_scrL (hl : bs.length ≤ 600) (hr : ∀ b ∈ bs, 1 ≤ b ∧ b ≤ 255) : ∀ (n m : Nat) (E : List EN) (c p : Nat) (I : Mem), m ≤ p → bs.length - p < n → SEI bs E c p → PCl I bs E c p → Tr (whl f_Scr_read_w24 (m : Int) I) (fun x K => OKo K bs x (scr bs n E c p) ∧ Fm FSc I K) := by
  intro n
  induction n with
  | zero => intro m E c p I _ h; omega
  | succ n ih =>
    intro m E c p I hm hn hS h
    obtain ⟨hB, hT, hSC, hO, h9⟩ := id h
    have hp := hS.1
    have h22 := hS.2.2.2.1 E.length (Nat.le_refl _)
    have e0 : scr bs (n + 1) E c p = (if enc E E.length = [] ∧ tK bs p = 0 then .inr (E, c, p) else (match (if enc E E.length ≠ [] ∧ tK bs p = 5 then cloP bs E c p else ordP bs E c p) with
      | .inl e => .inl e
      | .inr s => scr bs n s.1 s.2.1 s.2.2)) := rfl
    rw [e0]
    refine tr_step ?_
    have hlen0 : (enc E E.length).length = 0 ↔ enc E E.length = [] := List.length_eq_zero_iff
    -- behind an order or a close
    have next : ∀ (o : Int ⊕ PS), (∀ s : PS, o = .inr s → SEI bs s.1 s.2.1 s.2.2 ∧ p < s.2.2) → (scr bs (n + 1) E c p = (match o with
        | .inl e => .inl e
        | .inr s => scr bs n s.1 s.2.1 s.2.2)) → ∀ {e : Option (Int × Mem)}, Tr e (fun x K => OKo K bs x o ∧ Fm FSc I K) → Tr (bnd e fun x K => if w32 x = 0 then some ((Sum.inr 0 : Int ⊕ Int), K) else some (Sum.inl ((m : Int) + 1), K)) (LQ (fun s' J => Tr (whl f_Scr_read_w24 s' J) (fun x K => OKo K bs x (scr bs (n + 1) E c p) ∧ Fm FSc I K)) (fun x K => OKo K bs x (scr bs (n + 1) E c p) ∧ Fm FSc I K)) := by
      intro o ho eo e he
      refine tr_call he ?_
      rintro x K ⟨hk, f⟩
      rw [eo]
      cases o with
      | inl v =>
        obtain ⟨rfl, h2⟩ := hk
        rw [if_pos (by decide)]
        exact tr_ret (show OKo K bs 0 (.inl v) ∧ Fm FSc I K from ⟨⟨rfl, h2⟩, f⟩)
      | inr s =>
        obtain ⟨rfl, h2⟩ := hk
        obtain ⟨s1, s2⟩ := ho s rfl
        rw [if_neg (by decide)]
        refine tr_ret ?_
        show Tr (whl f_Scr_read_w24 ((m : Int) + 1) K) _
        refine tr_mono (ih (m + 1) s.1 s.2.1 s.2.2 K (by omega) (by have := s1.1; omega) s1 h2) ?_
        rintro x M ⟨z1, z2⟩
        exact ⟨z1, f.trans z2⟩
    rw [← e0]
    have ord : ¬ (enc E E.length = [] ∧ tK bs p = 0) → ¬ (enc E E.length ≠ [] ∧ tK bs p = 5) → Tr (f_Scr_read_j73 (m : Int) I) (LQ (fun s' J => Tr (whl f_Scr_read_w24 s' J) (fun x K => OKo K bs x (scr bs (n + 1) E c p) ∧ Fm FSc I K)) (fun x K => OKo K bs x (scr bs (n + 1) E c p) ∧ Fm FSc I K)) := by
      intro z1 z2
      unfold f_Scr_read_j73 f_Scr_read_j74
      rw [if_pos (by decide)]
      refine next (ordP bs E c p) (fun s hs => ordP_inv hS hs) ?_ (t_readOrder hl hr hS h)
      rw [e0, if_neg z1, if_neg z2]
    have j51 : ¬ (enc E E.length = [] ∧ tK bs p = 0) → Tr (f_Scr_read_j51 (m : Int) I) (LQ (fun s' J => Tr (whl f_Scr_read_w24 s' J) (fun x K => OKo K bs x (scr bs (n + 1) E c p) ∧ Fm FSc I K)) (fun x K => OKo K bs x (scr bs (n + 1) E c p) ∧ Fm FSc I K)) := by
      intro z1
      unfold f_Scr_read_j51
      rw [hO.1, w32_of (x := ((enc E E.length).length : Int)) (by omega) (by omega)]
      by_cases q : enc E E.length = []
      · rw [if_neg (by have := hlen0.mpr q; omega)]
        exact ord z1 (fun y => y.1 q)
      · have hpos := List.length_pos_iff.mpr q
        rw [if_pos (by omega), c_is hT (by omega), bnd_some]
        by_cases q5 : tK bs p = 5
        · rw [if_neg (wb_pos q5)]
          unfold f_Scr_read_j74
          rw [if_neg (by decide)]
          refine next (cloP bs E c p) (fun s hs => cloP_inv hS q q5 hs) ?_ (t_readClose hl hr hS h q q5)
          rw [e0, if_neg z1, if_pos ⟨q, q5⟩]
        · rw [if_pos (wb_neg q5)]
          exact ord z1 (fun y => q5 y.2)
    unfold f_Scr_read_w24
    rw [w32_of (x := (m : Int)) (by omega) (by omega), if_neg (by omega), hO.1, w32_of (x := ((enc E E.length).length : Int)) (by omega) (by omega)]
    by_cases q : enc E E.length = []
    · rw [if_pos (by have := hlen0.mpr q; omega), c_is hT (by omega), bnd_some]
      by_cases q0 : tK bs p = 0
      · rw [if_neg (wb_pos q0)]
        have e1 : scr bs (n + 1) E c p = .inr (E, c, p) := by rw [e0, if_pos ⟨q, q0⟩]
        rw [e1]
        exact tr_ret (show OKo I bs 1 (.inr (E, c, p)) ∧ Fm FSc I I from ⟨⟨rfl, h⟩, Fm.refl _ _⟩)
      · rw [if_pos (wb_neg q0)]
        exact j51 (fun y => q0 y.2)
    · rw [if_neg (by have := List.length_pos_iff.mpr q; omega)]
      exact j51 (fun y => q y.1)
theorem t_scrRead (hl : bs.length ≤ 600) (hr : ∀ b ∈ bs, 1 ≤ b ∧ b ≤ 255) (hB : BfC I bs) : Tr (f_Scr_read I) (fun x K => OKo K bs x (scr bs 601 [] 0 0) ∧ BfC K bs ∧ Fm FSc I K) := by
  suffices h : Tr (f_Scr_read I) (fun x K => OKo K bs x (scr bs 601 [] 0 0) ∧ Fm FSc I K) from tr_mono h (fun x K z => ⟨z.1, hB.scr z.2, z.2⟩)
  unfold f_Scr_read
  try dsimp only [ltI]
  have f2 : Fm FSc I (sI (sI (sI I 8 0 8 0) 8 0 9 0) 8 0 10 0) := ((Fm.sI (by decide) (by omega) (by omega) (Or.inr (Or.inl ⟨rfl, by decide⟩))).trans (Fm.sI (by decide) (by omega) (by omega) (Or.inr (Or.inl ⟨rfl, by decide⟩)))).trans (Fm.sI (by decide) (by omega) (by omega) (Or.inr (Or.inl ⟨rfl, by decide⟩)))
  have a8 : (sI (sI (sI I 8 0 8 0) 8 0 9 0) 8 0 10 0) 8 0 8 = 0 := by rw [sI_ne (by omega), sI_ne (by omega), sI_self]
  have a9 : (sI (sI (sI I 8 0 8 0) 8 0 9 0) 8 0 10 0) 8 0 9 = 0 := by rw [sI_ne (by omega), sI_self]
  have a10 : (sI (sI (sI I 8 0 8 0) 8 0 9 0) 8 0 10 0) 8 0 10 = 0 := sI_self _ _ _ _ _
  generalize sI (sI (sI I 8 0 8 0) 8 0 9 0) 8 0 10 0 = J2 at f2 a8 a9 a10
  have hB2 : BfC J2 bs := hB.scr f2
  unfold f_Src_rewind
  try dsimp only [ltI]
  have f3 : Fm FSx J2 (sI (sI (sI J2 6 0 4 0) 6 0 6 0) 6 0 7 (-1)) := ((Fm.sI (by decide) (by omega) (by omega) ⟨rfl, by omega, by omega⟩).trans (Fm.sI (by decide) (by omega) (by omega) ⟨rfl, by omega, by omega⟩)).trans (Fm.sI (by decide) (by omega) (by omega) ⟨rfl, by omega, by omega⟩)
  have a4 : (sI (sI (sI J2 6 0 4 0) 6 0 6 0) 6 0 7 (-1)) 6 0 4 = ((0 : Nat) : Int) := by rw [sI_ne (by omega), sI_ne (by omega), sI_self]; rfl
  generalize sI (sI (sI J2 6 0 4 0) 6 0 6 0) 6 0 7 (-1) = J3 at f3 a4
  refine tr_call (P := fun _ K => TC K bs 0 ∧ Fm FSx J3 K) (tr_call (t_adv (hB2.sx f3) hl hr (Nat.zero_le _) a4) (fun _ K z => tr_ret ⟨z.1, z.2.mono fad_sx⟩)) ?_
  rintro _ J4 ⟨hT4, f4⟩
  have f34 := f3.trans f4
  have hP : PCl J4 bs [] 0 0 := ⟨hB2.sx f34, hT4, ⟨by rw [f34.at (by decide) (by unfold FSx; omega)]; exact a8, fun j hj => absurd hj (Nat.not_lt_zero j), fun k hk => absurd hk (Nat.not_lt_zero k)⟩, ⟨by rw [f34.at (by decide) (by unfold FSx; omega)]; exact a10, fun d hd => absurd hd (Nat.not_lt_zero d)⟩, by rw [f34.at (by decide) (by unfold FSx; omega)]; exact a9⟩
  refine tr_mono (t_scrL hl hr 601 0 [] 0 0 J4 (Nat.le_refl _) (by omega) SEI.nil hP) ?_
  rintro x K ⟨z1, z2⟩
  exact ⟨z1, f2.trans ((f34.mono fsx_sc).trans z2)⟩
end CSCR3
