/-! ===== rows: a pair becomes one symbol; a symbol becomes a body ===== -/
def joinL (a b s : Int) : List Int → List Int
  | [] => []
  | [x] => [x]
  | x :: y :: l => if x = a ∧ y = b then s :: joinL a b s l else x :: joinL a b s (y :: l)
def jcnt (a b : Int) : List Int → Nat
  | [] => 0
  | [_] => 0
  | x :: y :: l => if x = a ∧ y = b then jcnt a b l + 1 else jcnt a b (y :: l)
def openL (s : Int) (b l : List Int) : List Int := l.flatMap (fun x => if x = s then b else [x])
theorem openL_nil {s : Int} {b : List Int} : openL s b [] = [] := rfl
theorem openL_app {s : Int} {b l m : List Int} : openL s b (l ++ m) = openL s b l ++ openL s b m := List.flatMap_append ..
theorem openL_one {s x : Int} {b : List Int} : openL s b [x] = if x = s then b else [x] := by simp [openL]
theorem openL_cons {s x : Int} {b l : List Int} : openL s b (x :: l) = (if x = s then b else [x]) ++ openL s b l := by simp [openL]
theorem openL_len {s : Int} {b : List Int} : ∀ l : List Int, ((openL s b l).length : Int) = l.length + l.count s * ((b.length : Int) - 1) := by
  intro l
  induction l with
  | nil => simp [openL_nil]
  | cons x l ih =>
    rw [openL_cons, List.length_append, Int.natCast_add, ih, List.count_cons]
    by_cases e : x = s
    · rw [if_pos e, if_pos (by simpa using e), List.length_cons, Int.natCast_add, Int.natCast_add, Int.add_mul]
      simp
      omega
    · rw [if_neg e, if_neg (by simpa using e), List.length_cons, Int.natCast_add, Int.natCast_add]
      simp
      omega
theorem openL_ge {s : Int} {b : List Int} (hb : 1 ≤ b.length) (l : List Int) : l.length ≤ (openL s b l).length := by
  have h := openL_len (s := s) (b := b) l
  have h2 : 0 ≤ (l.count s : Int) * ((b.length : Int) - 1) := Int.mul_nonneg (by omega) (by omega)
  omega
theorem openL_none {s : Int} {b l : List Int} (h : l.count s = 0) : openL s b l = l := by
  induction l with
  | nil => rfl
  | cons x l ih =>
    rw [List.count_cons] at h
    rw [openL_cons, ih (by omega)]
    by_cases e : x = s
    · rw [if_pos (by simpa using e)] at h; omega
    · rw [if_neg e]; rfl
theorem joinL_len {a b s : Int} : ∀ l : List Int, (joinL a b s l).length + jcnt a b l = l.length
  | [] => rfl
  | [x] => rfl
  | x :: y :: l => by
    by_cases h : x = a ∧ y = b
    · have := joinL_len (a := a) (b := b) (s := s) l
      rw [joinL, jcnt, if_pos h, if_pos h]
      simp only [List.length_cons]
      omega
    · have := joinL_len (a := a) (b := b) (s := s) (y :: l)
      rw [joinL, jcnt, if_neg h, if_neg h]
      simp only [List.length_cons] at *
      omega
section ROW2
variable {I : Mem} {r : Nat} {l : List Int}
theorem t_join (h : RW I r l) (hs : SY l) {a b s : Int} (ha : 0 ≤ a ∧ a < 66) (hb : 0 ≤ b ∧ b < 66) : Tr (f_Row_join r a b s I) (fun x J => x = (jcnt a b l : Int) ∧ RW J r (joinL a b s l) ∧ Fm (FR r) I J) := by
  have hl := h.len
  obtain ⟨h1, h2, h3, h4, h5⟩ := h
  have hc : I 2 r 2 ≤ 400 := by unfold cok at h4; omega
  unfold f_Row_join
  rw [if_pos h1]
  refine tr_call (P := fun x J => x = ((jcnt a b l : Int), ((joinL a b s l).length : Int)) ∧ (∀ j : Nat, j < (joinL a b s l).length → J 12 r j = (joinL a b s l).getD j (-1)) ∧ Fm (FC r) I J) (tr_whl (fun n st J => ∃ (f : Nat) (out : List Int), n = l.length - f ∧ f ≤ l.length ∧ st = ((jcnt a b l : Int) - (jcnt a b (l.drop f) : Int), (out.length : Int), (f : Int)) ∧ out ++ joinL a b s (l.drop f) = joinL a b s l ∧ out.length ≤ f ∧ (∀ j : Nat, j < out.length → J 12 r j = out.getD j (-1)) ∧ (∀ j : Nat, f ≤ j → j < l.length → J 12 r j = l.getD j (-1)) ∧ Fm (FC r) I J) ?_ l.length _ _ ⟨0, [], rfl, Nat.zero_le _, by simp, rfl, Nat.le_refl _, fun j hj => absurd hj (Nat.not_lt_zero j), fun j _ hj => h5 j hj, Fm.refl _ _⟩) ?_
  · rintro n st J ⟨f, out, rfl, hf, rfl, ho, hof, g1, g2, g3⟩
    have e1 : J 2 r 1 = (l.length : Int) := by rw [g3.at (by decide) (by unfold FC; omega)]; exact h2
    have e2 : J 2 r 2 = I 2 r 2 := g3.at (by decide) (by unfold FC; omega)
    unfold f_Row_join_w9
    dsimp only
    rw [e1, e2, w32_of (x := (f : Int)) (by omega) (by omega), w32_of (x := (l.length : Int)) (by omega) (by omega)]
    by_cases q : f < l.length
    · have q0 := hs.at q
      rw [if_pos (by omega), if_pos (by omega), Int.toNat_natCast, g2 f (Nat.le_refl _) q, w32_of (x := a) (by omega) (by omega), w32_of (x := b) (by omega) (by omega), w32_of (x := l.getD f (-1)) (by omega) (by omega), w32_of (x := (f : Int) + 1) (by omega) (by omega), tn1]
      have plain : (f + 1 = l.length ∨ ¬ (l.getD f (-1) = a ∧ l.getD (f + 1) (-1) = b)) → Tr (f_Row_join_j70 r a b s ((jcnt a b l : Int) - (jcnt a b (l.drop f) : Int)) (out.length : Int) (f : Int) J) (LQ (fun s' J' => ∃ m : Nat, m < l.length - f ∧ ∃ (f : Nat) (out : List Int), m = l.length - f ∧ f ≤ l.length ∧ s' = ((jcnt a b l : Int) - (jcnt a b (l.drop f) : Int), (out.length : Int), (f : Int)) ∧ out ++ joinL a b s (l.drop f) = joinL a b s l ∧ out.length ≤ f ∧ (∀ j : Nat, j < out.length → J' 12 r j = out.getD j (-1)) ∧ (∀ j : Nat, f ≤ j → j < l.length → J' 12 r j = l.getD j (-1)) ∧ Fm (FC r) I J') (fun x J => x = ((jcnt a b l : Int), ((joinL a b s l).length : Int)) ∧ (∀ j : Nat, j < (joinL a b s l).length → J 12 r j = (joinL a b s l).getD j (-1)) ∧ Fm (FC r) I J)) := by
        intro hp
        have hd : joinL a b s (l.drop f) = l.getD f (-1) :: joinL a b s (l.drop (f + 1)) ∧ jcnt a b (l.drop f) = jcnt a b (l.drop (f + 1)) := by
          rw [drop_at (d := -1) q]
          by_cases q1 : f + 1 < l.length
          · rw [drop_at (d := -1) q1, joinL, jcnt, if_neg (by omega), if_neg (by omega)]
            exact ⟨rfl, rfl⟩
          · rw [show l.drop (f + 1) = [] from List.drop_eq_nil_of_le (by omega)]
            exact ⟨rfl, rfl⟩
        unfold f_Row_join_j70
        rw [e2, w32_of (x := (f : Int)) (by omega) (by omega), w32_of (x := (out.length : Int)) (by omega) (by omega), if_pos (by omega), if_pos (by omega), Int.toNat_natCast, Int.toNat_natCast, g2 f (Nat.le_refl _) q]
        refine tr_ret ⟨l.length - (f + 1), by omega, f + 1, out ++ [l.getD f (-1)], rfl, by omega, ?_, ?_, ?_, fun j hj => ?_, fun j hj hj2 => ?_, g3.trans (Fm.sI (by decide) (by omega) (by omega) ⟨rfl, rfl⟩)⟩
        · rw [hd.2, List.length_append]; rfl
        · rw [← ho, hd.1]; simp
        · rw [List.length_append]; simp; omega
        · rw [List.length_append] at hj
          by_cases e : j = out.length
          · subst e; rw [sI_self, getD_r (Nat.le_refl _), Nat.sub_self]; rfl
          · have : j < out.length := by simp at hj; omega
            rw [sI_ne (by omega), g1 j this, getD_l this]
        · rw [sI_ne (by omega), g2 j (by omega) hj2]
      by_cases c0 : l.getD f (-1) = a
      · rw [if_pos c0]
        by_cases c1 : f + 1 < l.length
        · have q1 := hs.at c1
          rw [if_pos (by omega), if_pos (by omega), g2 (f + 1) (by omega) c1, w32_of (x := l.getD (f + 1) (-1)) (by omega) (by omega)]
          by_cases c2 : l.getD (f + 1) (-1) = b
          · rw [if_pos c2, w32_of (x := (out.length : Int)) (by omega) (by omega), if_pos (by omega), Int.toNat_natCast]
            have hd : joinL a b s (l.drop f) = s :: joinL a b s (l.drop (f + 2)) ∧ jcnt a b (l.drop f) = jcnt a b (l.drop (f + 2)) + 1 := by
              rw [drop_at (d := -1) q, drop_at (d := -1) c1, joinL, jcnt, if_pos ⟨c0, c2⟩, if_pos ⟨c0, c2⟩]
              exact ⟨rfl, rfl⟩
            refine tr_ret ⟨l.length - (f + 2), by omega, f + 2, out ++ [s], rfl, by omega, ?_, ?_, ?_, fun j hj => ?_, fun j hj hj2 => ?_, g3.trans (Fm.sI (by decide) (by omega) (by omega) ⟨rfl, rfl⟩)⟩
            · rw [hd.2, List.length_append]
              refine Prod.ext ?_ (Prod.ext rfl ?_)
              · show _ = _; simp; omega
              · show _ = _; simp; omega
            · rw [← ho, hd.1]; simp
            · rw [List.length_append]; simp; omega
            · rw [List.length_append] at hj
              by_cases e : j = out.length
              · subst e; rw [sI_self, getD_r (Nat.le_refl _), Nat.sub_self]; rfl
              · have : j < out.length := by simp at hj; omega
                rw [sI_ne (by omega), g1 j this, getD_l this]
            · rw [sI_ne (by omega), g2 j (by omega) hj2]
          · rw [if_neg c2]; exact plain (Or.inr (fun e => c2 e.2))
        · rw [if_neg (by omega)]; exact plain (Or.inl (by omega))
      · rw [if_neg c0]; exact plain (Or.inr (fun e => c0 e.1))
    · have q' : f = l.length := by omega
      subst q'
      rw [List.drop_length] at ho
      have ho : out = joinL a b s l := by simpa [joinL] using ho
      rw [if_neg (by omega), List.drop_length]
      refine tr_ret ⟨?_, ?_, g3⟩
      · rw [ho]; simp [jcnt]
      · rw [← ho]; exact g1
  · rintro x J ⟨rfl, g1, g2⟩
    have hle := joinL_len (a := a) (b := b) (s := s) l
    refine tr_ret ⟨rfl, ⟨h1, sI_self .., ?_, ?_, fun j hj => ?_⟩, (g2.mono (fun k i c q => ⟨Or.inr q.1, q.2⟩)).trans (Fm.sI (by decide) (by omega) (by omega) ⟨Or.inl rfl, rfl⟩)⟩
    · rw [sI_ne (by omega), g2.at (by decide) (by unfold FC; omega)]; omega
    · rw [sI_ne (by omega), g2.at (by decide) (by unfold FC; omega)]; exact h4
    · rw [sI_ne (by omega)]; exact g1 j hj
theorem t_open {r2 : Nat} {b : List Int} (h : RW I r l) (k : RW I r2 b) (hr : r2 ≠ r) (hs : SY l) {s : Int} (h0 : 0 ≤ s ∧ s < 66) (hb : 1 ≤ b.length) (hlen : (openL s b l).length ≤ 400) : Tr (f_Row_open r s r2 I) (fun x J => x = (l.count s : Int) ∧ RW J r (openL s b l) ∧ Fm (FR r) I J) := by
  have hl := h.len
  have hbl := k.len
  have hol := openL_len (s := s) (b := b) l
  have hcl : l.count s ≤ l.length := List.count_le_length
  unfold f_Row_open
  rw [if_pos h.1, if_pos k.1, row_timesOf h hs (by omega), bnd_some, w32_of (x := (l.count s : Int)) (by omega) (by omega), k.2.1, h.2.1, w32_of (x := (b.length : Int)) (by omega) (by omega)]
  by_cases q : l.count s = 0
  · rw [if_pos (by omega)]
    refine tr_ret ⟨by omega, ?_, Fm.refl _ _⟩
    rw [openL_none q]; exact h
  · rw [if_neg (by omega), if_neg (by omega)]
    have e0 : (l.length : Int) + (l.count s : Int) * ((b.length : Int) - 1) = ((openL s b l).length : Int) := hol.symm
    rw [e0]
    refine tr_call (t_makeRoom h (need := ((openL s b l).length : Int)) (by omega) (by omega)) ?_
    rintro x J ⟨rfl, ⟨g1, g2, g3, g4, g5⟩, gn, gf⟩
    obtain ⟨-, e2, e3, e4, e5⟩ := k.fm gf (fun a b hab q => hr q.2)
    have hc : J 2 r 2 ≤ 400 := by unfold cok at g4; omega
    rw [if_neg (by decide), g2]
    refine tr_call (P := fun _ K => (∀ j : Nat, j < (openL s b l).length → K 12 r j = (openL s b l).getD j (-1)) ∧ Fm (FC r) J K) (tr_whl (fun n st K => ∃ f : Nat, f = n ∧ f ≤ l.length ∧ st = (((openL s b (l.take f)).length : Int), (f : Int) - 1) ∧ (∀ j : Nat, j < f → K 12 r j = l.getD j (-1)) ∧ (∀ j : Nat, (openL s b (l.take f)).length ≤ j → j < (openL s b l).length → K 12 r j = (openL s b l).getD j (-1)) ∧ Fm (FC r) J K) ?_ l.length _ _ ⟨l.length, rfl, Nat.le_refl _, by rw [List.take_length], g5, fun j h1 h2 => by rw [List.take_length] at h1; omega, Fm.refl _ _⟩) ?_
    · rintro n st K ⟨f, rfl, hf, rfl, c1, c2, c3⟩
      have d1 : K 2 r2 1 = (b.length : Int) := by rw [c3.at (by decide) (by unfold FC; omega)]; exact e2
      have d2 : K 2 r 2 = J 2 r 2 := c3.at (by decide) (by unfold FC; omega)
      have d3 : K 2 r2 2 = J 2 r2 2 := c3.at (by decide) (by unfold FC; omega)
      unfold f_Row_open_w55
      dsimp only
      by_cases qf : f = 0
      · subst qf
        rw [w32_of (x := ((0 : Nat) : Int) - 1) (by omega) (by omega), if_pos (by omega)]
        exact tr_ret ⟨fun j hj => c2 j (Nat.zero_le _) hj, c3⟩
      · have hf1 : f - 1 < l.length := by omega
        have hcast : (f : Int) - 1 = ((f - 1 : Nat) : Int) := by omega
        have qs := hs.at hf1
        have htk : l.take f = l.take (f - 1) ++ [l.getD (f - 1) (-1)] := by
          have := take_at (d := -1) hf1
          rwa [show f - 1 + 1 = f by omega] at this
        have hsp : openL s b l = openL s b (l.take f) ++ openL s b (l.drop f) := by rw [← openL_app, List.take_append_drop]
        have hge := openL_ge (s := s) hb (l.take (f - 1))
        rw [List.length_take] at hge
        have hle : (openL s b (l.take f)).length ≤ (openL s b l).length := by rw [hsp, List.length_append]; omega
        have hto : openL s b (l.take f) = openL s b (l.take (f - 1)) ++ (if l.getD (f - 1) (-1) = s then b else [l.getD (f - 1) (-1)]) := by rw [htk, openL_app, openL_one]
        rw [hcast, w32_of (x := ((f - 1 : Nat) : Int)) (by omega) (by omega), if_neg (by omega), d2, if_pos (by omega), Int.toNat_natCast, c1 (f - 1) (by omega), w32_of (x := l.getD (f - 1) (-1)) (by omega) (by omega), w32_of (x := s) (by omega) (by omega), d1, d3, w32_of (x := (b.length : Int)) (by omega) (by omega)]
        by_cases qe : l.getD (f - 1) (-1) = s
        · rw [if_pos qe] at hto
          have hto2 := congrArg List.length hto
          rw [List.length_append] at hto2
          have e9 : ((openL s b (l.take f)).length : Int) - (b.length : Int) = ((openL s b (l.take (f - 1))).length : Int) := by omega
          rw [if_pos qe, e9, w32_of (x := ((openL s b (l.take (f - 1))).length : Int)) (by omega) (by omega), if_pos (by omega), Int.toNat_natCast, Int.toNat_natCast]
          refine tr_ret ⟨f - 1, by omega, f - 1, rfl, by omega, ?_, fun j hj => ?_, fun j h1 h2 => ?_, c3.trans (Fm.cpI (by decide) (by decide) (by decide) (fun s _ _ => ⟨rfl, rfl⟩))⟩
          · exact Prod.ext rfl (by show _ = _; omega)
          · unfold cpI
            rw [if_neg (by omega), c1 j (by omega)]
          · unfold cpI
            by_cases qj : j < (openL s b (l.take f)).length
            · rw [if_pos (by omega), Nat.zero_add, c3.at (by decide) (by unfold FC; omega), e5 _ (by omega), hsp, getD_l qj, hto, getD_r h1]
            · rw [if_neg (by omega), c2 j (by omega) h2]
        · rw [if_neg qe] at hto
          have hto2 := congrArg List.length hto
          rw [List.length_append, List.length_singleton] at hto2
          have e9 : ((openL s b (l.take f)).length : Int) + (-1) = ((openL s b (l.take (f - 1))).length : Int) := by omega
          rw [if_neg qe, e9, w32_of (x := ((openL s b (l.take (f - 1))).length : Int)) (by omega) (by omega), if_pos (by omega), Int.toNat_natCast]
          refine tr_ret ⟨f - 1, by omega, f - 1, rfl, by omega, ?_, fun j hj => ?_, fun j h1 h2 => ?_, c3.trans (Fm.sI (by decide) (by omega) (by omega) ⟨rfl, rfl⟩)⟩
          · exact Prod.ext rfl (by show _ = _; omega)
          · rw [sI_ne (by omega), c1 j (by omega)]
          · by_cases qj : j = (openL s b (l.take (f - 1))).length
            · subst qj
              rw [sI_self, hsp, getD_l (by omega), hto, getD_r (Nat.le_refl _), Nat.sub_self]
              rfl
            · rw [sI_ne (by omega), c2 j (by omega) h2]
    · rintro _ K ⟨c1, c2⟩
      refine tr_ret ⟨rfl, ⟨g1, sI_self .., ?_, ?_, fun j hj => ?_⟩, gf.trans ((c2.mono (fun k i c q => ⟨Or.inr q.1, q.2⟩)).trans (Fm.sI (by decide) (by omega) (by omega) ⟨Or.inl rfl, rfl⟩))⟩
      · rw [sI_ne (by omega), c2.at (by decide) (by unfold FC; omega)]; exact gn
      · rw [sI_ne (by omega), c2.at (by decide) (by unfold FC; omega)]; exact g4
      · rw [sI_ne (by omega)]; exact c1 j hj
end ROW2
