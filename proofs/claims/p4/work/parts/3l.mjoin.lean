/-! ===== the reference: pairs become rules, rules dissolve ===== -/
section MJ
variable {I : Mem} {g : GS}
theorem m_one0 : f_M_one 0 I = some (0, I) := by unfold f_M_one; rw [if_pos (by decide)]
theorem m_one1 : f_M_one 1 I = some (1, I) := by unfold f_M_one; rw [if_neg (by decide)]
theorem m_isAlone (h : GW I g) {i : Nat} (hi : i < 41) : f_M_isAlone (i : Int) I = some (bI (i ≠ 0 ∧ (gR g i).length = 2), I) := by
  have hl := (h.1 i hi).2.1
  unfold f_M_isAlone
  rw [w32_of (x := (i : Int)) (by omega) (by omega)]
  by_cases q : i = 0
  · rw [if_neg (by omega), bI_neg (fun z => z.1 q)]
  · rw [if_pos (by omega), m_many h hi, bnd_some, w32_of (by omega) (by omega)]
    by_cases e : (gR g i).length = 2
    · rw [if_pos (by omega), bI_pos ⟨q, e⟩]
    · rw [if_neg (by omega), bI_neg (fun z => e z.2)]
theorem t_mopens (h : GW I g) {i r p : Nat} (hi : i < 41) (hr : r < 40) (hne : i ≠ r + 1) (hp : p < (gR g i).length) (hb : 1 ≤ (gR g (r + 1)).length) (hlen : (gR g i).length + (gR g (r + 1)).length ≤ 401) : Tr (f_M_opens (i : Int) (p : Int) (r : Int) I) (fun _ J => GW J (gsR g i ((gR g i).take p ++ gR g (r + 1) ++ (gR g i).drop (p + 1))) ∧ Fm (FWR i) I J) := by
  have hb4 := (h.1 (r + 1) (by omega)).2.1
  have e1 := m_many h (i := r + 1) (by omega)
  rw [show ((r + 1 : Nat) : Int) = (r : Int) + 1 from rfl] at e1
  have cell := (h.1 i hi).2.2
  have bcell := (h.1 (r + 1) (by omega)).2.2
  generalize hl : gR g i = l at *
  generalize hbb : gR g (r + 1) = b at *
  obtain ⟨m, hm⟩ : ∃ m : Nat, b.length = m + 1 := ⟨b.length - 1, by omega⟩
  have hmore : (b.length : Int) - 1 = (m : Int) := by omega
  have e2 : f_M_many (i : Int) I = some ((l.length : Int), I) := by rw [m_many h hi, hl]
  unfold f_M_opens
  rw [e1, bnd_some, e2, bnd_some, hmore]
  refine tr_call (P := fun _ J => (∀ q : Nat, q ≤ p → J 27 0 (60 + 400 * i + q) = l.getD q (-1)) ∧ (∀ q : Nat, p < q → q < l.length → J 27 0 (60 + 400 * i + (q + m)) = l.getD q (-1)) ∧ Fm (fun a b s => a = 27 ∧ b = 0 ∧ 60 + 400 * i ≤ s ∧ s < 460 + 400 * i) I J) (tr_whl (fun n s J => ∃ k : Nat, k = p + n ∧ k < l.length ∧ s = (k : Int) ∧ (∀ q : Nat, q ≤ k → J 27 0 (60 + 400 * i + q) = l.getD q (-1)) ∧ (∀ q : Nat, k < q → q < l.length → J 27 0 (60 + 400 * i + (q + m)) = l.getD q (-1)) ∧ Fm (fun a b s => a = 27 ∧ b = 0 ∧ 60 + 400 * i ≤ s ∧ s < 460 + 400 * i) I J) ?_ (l.length - 1 - p) _ _ ⟨l.length - 1, by omega, by omega, by omega, fun q hq => cell q (by omega), fun q h1 h2 => by omega, Fm.refl _ _⟩) ?_
  · rintro n s J ⟨k, rfl, hk, rfl, c1, c2, c3⟩
    unfold f_M_opens_w20
    rw [w32_of (x := (p : Int)) (by omega) (by omega), w32_of (x := ((p + n : Nat) : Int)) (by omega) (by omega)]
    by_cases q : n = 0
    · subst q
      rw [if_neg (by omega)]
      exact tr_ret ⟨c1, c2, c3⟩
    · rw [if_pos (by omega), m_atR hi (by omega), bnd_some, show ((p + n : Nat) : Int) + (m : Int) = ((p + n + m : Nat) : Int) by omega, m_puts hi (by omega), bnd_some]
      refine tr_ret ⟨n - 1, by omega, p + (n - 1), rfl, by omega, by show ((p + n : Nat) : Int) + -1 = _; omega, fun x hx => ?_, fun x h1 h2 => ?_, c3.trans (Fm.sI (by decide) (by omega) (by omega) ⟨rfl, rfl, by omega, by omega⟩)⟩
      · rw [sI_ne (by omega)]; exact c1 x (by omega)
      · by_cases e : x = p + n
        · subst e; rw [sI_self]; exact c1 _ (Nat.le_refl _)
        · rw [sI_ne (by omega)]; exact c2 x (by omega) h2
  rintro _ J1 ⟨c1, c2, c3⟩
  have hJ1 : ∀ q : Nat, q < b.length → J1 27 0 (60 + 400 * (r + 1) + q) = b.getD q (-1) := fun q hq => by rw [c3.at (by decide) (by omega)]; exact bcell q hq
  refine tr_call (P := fun _ J => (∀ q : Nat, q < p → J 27 0 (60 + 400 * i + q) = l.getD q (-1)) ∧ (∀ q : Nat, q < b.length → J 27 0 (60 + 400 * i + (p + q)) = b.getD q (-1)) ∧ (∀ q : Nat, p < q → q < l.length → J 27 0 (60 + 400 * i + (q + m)) = l.getD q (-1)) ∧ Fm (fun a b s => a = 27 ∧ b = 0 ∧ 60 + 400 * i ≤ s ∧ s < 460 + 400 * i) I J) (tr_cnt (fun k => (k : Int)) (fun k J => (∀ q : Nat, q < p → J 27 0 (60 + 400 * i + q) = l.getD q (-1)) ∧ (∀ q : Nat, q < k → J 27 0 (60 + 400 * i + (p + q)) = b.getD q (-1)) ∧ (∀ q : Nat, p < q → q < l.length → J 27 0 (60 + 400 * i + (q + m)) = l.getD q (-1)) ∧ Fm (fun a b s => a = 27 ∧ b = 0 ∧ 60 + 400 * i ≤ s ∧ s < 460 + 400 * i) I J) b.length rfl ⟨fun q hq => c1 q (by omega), fun q hq => absurd hq (Nat.not_lt_zero q), c2, c3⟩ ?_ ?_) ?_
  · rintro k J hk ⟨d1, d2, d3, d4⟩
    have eb : J 27 0 (60 + 400 * (r + 1) + k) = b.getD k (-1) := by rw [d4.at (by decide) (by omega)]; exact bcell k hk
    unfold f_M_opens_w52
    rw [w32_of (x := (m : Int)) (by omega) (by omega), w32_of (x := (k : Int)) (by omega) (by omega), if_neg (by omega), show (r : Int) + 1 = ((r + 1 : Nat) : Int) from rfl, m_atR (by omega) (by omega), bnd_some, eb, show (p : Int) + (k : Int) = ((p + k : Nat) : Int) from rfl, m_puts hi (by omega), bnd_some]
    refine tr_ret ⟨rfl, fun x hx => ?_, fun x hx => ?_, fun x h1 h2 => ?_, d4.trans (Fm.sI (by decide) (by omega) (by omega) ⟨rfl, rfl, by omega, by omega⟩)⟩
    · rw [sI_ne (by omega)]; exact d1 x hx
    · by_cases e : x = k
      · subst e; rw [sI_self]
      · rw [sI_ne (by omega)]; exact d2 x (by omega)
    · rw [sI_ne (by omega)]; exact d3 x h1 h2
  · rintro J ⟨d1, d2, d3, d4⟩
    unfold f_M_opens_w52
    rw [w32_of (x := (m : Int)) (by omega) (by omega), w32_of (x := (b.length : Int)) (by omega) (by omega), if_pos (by omega)]
    exact tr_ret ⟨d1, d2, d3, d4⟩
  rintro _ J2 ⟨d1, d2, d3, d4⟩
  rw [w32_of (by omega) (by omega), if_pos (by omega), show ((16 : Int) + (i : Int)).toNat = 16 + i by omega]
  have e16 : J2 27 0 (16 + i) = (l.length : Int) := by rw [d4.at (by decide) (by omega), (h.1 i hi).1, hl]
  have F : Fm (FWR i) I (sI J2 27 0 (16 + i) (J2 27 0 (16 + i) + (m : Int))) := (d4.mono (fun a b c z => ⟨z.1, z.2.1, Or.inr z.2.2⟩)).trans fwr_m
  have hL : (l.take p ++ b ++ l.drop (p + 1)).length = l.length + m := by
    rw [List.length_append, List.length_append, List.length_take, List.length_drop]; omega
  refine tr_ret ⟨h.row hi (by omega) ?_ (fun j hj => ?_) F, F⟩
  · rw [sI_self, e16, hL]; omega
  · rw [hL] at hj
    have hpl : (l.take p).length = p := by rw [List.length_take]; omega
    rw [sI_ne (by omega)]
    by_cases q1 : j < p
    · rw [d1 j q1, List.append_assoc, getD_l (by omega), getD_take q1]
    · by_cases q2 : j < p + b.length
      · obtain ⟨x, rfl⟩ : ∃ x : Nat, j = p + x := ⟨j - p, by omega⟩
        rw [d2 x (by omega), List.append_assoc, getD_r (by omega), hpl, getD_l (by omega), show p + x - p = x by omega]
      · obtain ⟨x, rfl⟩ : ∃ x : Nat, j = x + m := ⟨j - m, by omega⟩
        rw [d3 x (by omega) (by omega), getD_r (by rw [List.length_append]; omega), getD_drop, List.length_append, hpl, show p + 1 + (x + m - (p + b.length)) = x by omega]
theorem t_mjoins (h : GW I g) (w : ∀ i : Nat, i < 41 → SY (gR g i)) {i : Nat} (hi : i < 41) {a b s : Int} (ha : 0 ≤ a ∧ a < 66) (hb : 0 ≤ b ∧ b < 66) : Tr (f_M_joins (i : Int) a b s I) (fun x J => x = (jcnt a b (gR g i) : Int) ∧ GW J (gsR g i (joinL a b s (gR g i))) ∧ Fm (FWR i) I J) := by
  have hs := w i hi
  have hll := (h.1 i hi).2.1
  have cell := (h.1 i hi).2.2
  have h16 := (h.1 i hi).1
  generalize hl : gR g i = l at *
  unfold f_M_joins
  refine tr_call (P := fun x J => x = ((jcnt a b l : Int), ((joinL a b s l).length : Int)) ∧ (∀ j : Nat, j < (joinL a b s l).length → J 27 0 (60 + 400 * i + j) = (joinL a b s l).getD j (-1)) ∧ Fm (fun a b s => a = 27 ∧ b = 0 ∧ 60 + 400 * i ≤ s ∧ s < 460 + 400 * i) I J) (tr_whl (fun n st J => ∃ (f : Nat) (out : List Int), n = l.length - f ∧ f ≤ l.length ∧ st = ((jcnt a b l : Int) - (jcnt a b (l.drop f) : Int), (out.length : Int), (f : Int)) ∧ out ++ joinL a b s (l.drop f) = joinL a b s l ∧ out.length ≤ f ∧ (∀ j : Nat, j < out.length → J 27 0 (60 + 400 * i + j) = out.getD j (-1)) ∧ (∀ j : Nat, f ≤ j → j < l.length → J 27 0 (60 + 400 * i + j) = l.getD j (-1)) ∧ Fm (fun a b s => a = 27 ∧ b = 0 ∧ 60 + 400 * i ≤ s ∧ s < 460 + 400 * i) I J) ?_ l.length _ _ ⟨0, [], rfl, Nat.zero_le _, by simp, rfl, Nat.le_refl _, fun j hj => absurd hj (Nat.not_lt_zero j), fun j _ hj => cell j hj, Fm.refl _ _⟩) ?_
  · rintro n st J ⟨f, out, rfl, hf, rfl, ho, hof, g1, g2, g3⟩
    have em : f_M_many (i : Int) J = some ((l.length : Int), J) := by
      unfold f_M_many
      rw [w32_of (by omega) (by omega), if_pos (by omega), show ((16 : Int) + (i : Int)).toNat = 16 + i by omega, g3.at (by decide) (by omega), h16]
    unfold f_M_joins_w9
    dsimp only
    rw [em, bnd_some, w32_of (x := (f : Int)) (by omega) (by omega), w32_of (x := (l.length : Int)) (by omega) (by omega)]
    by_cases q : f < l.length
    · have q0 := hs.at q
      rw [if_pos (by omega), em, bnd_some, w32_of (x := (f : Int) + 1) (by omega) (by omega), w32_of (x := (l.length : Int)) (by omega) (by omega)]
      have plain : (f + 1 = l.length ∨ ¬ (l.getD f (-1) = a ∧ l.getD (f + 1) (-1) = b)) → Tr (f_M_joins_j59 (i : Int) a b s ((jcnt a b l : Int) - (jcnt a b (l.drop f) : Int)) (out.length : Int) (f : Int) J) (LQ (fun s' J' => ∃ m : Nat, m < l.length - f ∧ ∃ (f : Nat) (out : List Int), m = l.length - f ∧ f ≤ l.length ∧ s' = ((jcnt a b l : Int) - (jcnt a b (l.drop f) : Int), (out.length : Int), (f : Int)) ∧ out ++ joinL a b s (l.drop f) = joinL a b s l ∧ out.length ≤ f ∧ (∀ j : Nat, j < out.length → J' 27 0 (60 + 400 * i + j) = out.getD j (-1)) ∧ (∀ j : Nat, f ≤ j → j < l.length → J' 27 0 (60 + 400 * i + j) = l.getD j (-1)) ∧ Fm (fun a b s => a = 27 ∧ b = 0 ∧ 60 + 400 * i ≤ s ∧ s < 460 + 400 * i) I J') (fun x J => x = ((jcnt a b l : Int), ((joinL a b s l).length : Int)) ∧ (∀ j : Nat, j < (joinL a b s l).length → J 27 0 (60 + 400 * i + j) = (joinL a b s l).getD j (-1)) ∧ Fm (fun a b s => a = 27 ∧ b = 0 ∧ 60 + 400 * i ≤ s ∧ s < 460 + 400 * i) I J)) := by
        intro hp
        have hd : joinL a b s (l.drop f) = l.getD f (-1) :: joinL a b s (l.drop (f + 1)) ∧ jcnt a b (l.drop f) = jcnt a b (l.drop (f + 1)) := by
          rw [drop_at (d := -1) q]
          by_cases q1 : f + 1 < l.length
          · rw [drop_at (d := -1) q1, joinL, jcnt, if_neg (by omega), if_neg (by omega)]
            exact ⟨rfl, rfl⟩
          · rw [show l.drop (f + 1) = [] from List.drop_eq_nil_of_le (by omega)]
            exact ⟨rfl, rfl⟩
        unfold f_M_joins_j59 f_M_joins_j60
        rw [if_pos (by decide), m_atR hi (by omega), bnd_some, g2 f (Nat.le_refl _) q]
        unfold f_M_joins_j83
        rw [m_puts hi (by omega), bnd_some]
        rw [m_one0, bnd_some]
        refine tr_ret ⟨l.length - (f + 1), by omega, f + 1, out ++ [l.getD f (-1)], rfl, by omega, ?_, ?_, ?_, fun j hj => ?_, fun j hj hj2 => ?_, g3.trans (Fm.sI (by decide) (by omega) (by omega) ⟨rfl, rfl, by omega, by omega⟩)⟩
        · rw [hd.2, List.length_append, if_pos (by decide)]
          exact Prod.ext (by show _ + (0 : Int) = _; omega) rfl
        · rw [← ho, hd.1]; simp
        · rw [List.length_append]; simp; omega
        · rw [List.length_append] at hj
          by_cases e : j = out.length
          · subst e; rw [sI_self, getD_r (Nat.le_refl _), Nat.sub_self]; rfl
          · have : j < out.length := by simp at hj; omega
            rw [sI_ne (by omega), g1 j this, getD_l this]
        · rw [sI_ne (by omega), g2 j (by omega) hj2]
      by_cases c1 : f + 1 < l.length
      · have q1 := hs.at c1
        rw [if_pos (by omega), m_atR hi (by omega), bnd_some, g2 f (Nat.le_refl _) q, w32_of (x := a) (by omega) (by omega), w32_of (x := l.getD f (-1)) (by omega) (by omega)]
        by_cases c0 : l.getD f (-1) = a
        · rw [if_pos c0, show (f : Int) + 1 = ((f + 1 : Nat) : Int) from rfl, m_atR hi (by omega), bnd_some, g2 (f + 1) (by omega) c1, w32_of (x := b) (by omega) (by omega), w32_of (x := l.getD (f + 1) (-1)) (by omega) (by omega)]
          by_cases c2 : l.getD (f + 1) (-1) = b
          · rw [if_pos c2]
            have hd : joinL a b s (l.drop f) = s :: joinL a b s (l.drop (f + 2)) ∧ jcnt a b (l.drop f) = jcnt a b (l.drop (f + 2)) + 1 := by
              rw [drop_at (d := -1) q, drop_at (d := -1) c1, joinL, jcnt, if_pos ⟨c0, c2⟩, if_pos ⟨c0, c2⟩]
              exact ⟨rfl, rfl⟩
            unfold f_M_joins_j60
            rw [if_neg (by decide)]
            unfold f_M_joins_j83
            rw [m_puts hi (by omega), bnd_some]
            rw [m_one1, bnd_some]
            refine tr_ret ⟨l.length - (f + 2), by omega, f + 2, out ++ [s], rfl, by omega, ?_, ?_, ?_, fun j hj => ?_, fun j hj hj2 => ?_, g3.trans (Fm.sI (by decide) (by omega) (by omega) ⟨rfl, rfl, by omega, by omega⟩)⟩
            · rw [hd.2, List.length_append, if_neg (by decide)]
              refine Prod.ext ?_ (Prod.ext rfl ?_)
              · show _ + (1 : Int) = _; simp; omega
              · show (f : Int) + 2 = _; simp
            · rw [← ho, hd.1]; simp
            · rw [List.length_append]; simp; omega
            · rw [List.length_append] at hj
              by_cases e : j = out.length
              · subst e; rw [sI_self, getD_r (Nat.le_refl _), Nat.sub_self]; rfl
              · have : j < out.length := by simp at hj; omega
                rw [sI_ne (by omega), g1 j this, getD_l this]
            · rw [sI_ne (by omega), g2 j (by omega) hj2]
          · rw [if_neg c2]; exact plain (Or.inr (fun e => c2 e.2))
        · rw [if_neg c0]; exact plain (Or.inr (fun e => c0 e.1))
      · rw [if_neg (by omega)]; exact plain (Or.inl (by omega))
    · have q' : f = l.length := by omega
      subst q'
      rw [List.drop_length] at ho
      have ho : out = joinL a b s l := by simpa [joinL] using ho
      rw [if_neg (by omega), List.drop_length]
      refine tr_ret ⟨?_, ?_, g3⟩
      · rw [ho]; simp [jcnt]
      · rw [← ho]; exact g1
  · rintro x J ⟨rfl, g1, g2⟩
    have hle := joinL_len (a := a) (b := b) (s := s) l
    rw [w32_of (by omega) (by omega), if_pos (by omega), show ((16 : Int) + (i : Int)).toNat = 16 + i by omega]
    have F : Fm (FWR i) I (sI J 27 0 (16 + i) ((joinL a b s l).length : Int)) := (g2.mono (fun a b c z => ⟨z.1, z.2.1, Or.inr z.2.2⟩)).trans fwr_m
    exact tr_ret ⟨rfl, h.row hi (by omega) (sI_self ..) (fun j hj => by rw [sI_ne (by omega)]; exact g1 j hj) F, F⟩
/-- the rows, one after another, and what is counted -/
theorem t_mmakes (h : GW I g) (w : ∀ i : Nat, i < 41 → SY (gR g i)) {p : Nat} (hp : p < 4356) (hk : I 27 13 p = gKept g ((p / 66 : Nat) : Int) ((p % 66 : Nat) : Int)) (hr : gRule g ((p / 66 : Nat) : Int) ((p % 66 : Nat) : Int) ≠ -1) : Tr (f_M_makes (p : Int) I) (fun x J => x = gRule g ((p / 66 : Nat) : Int) ((p % 66 : Nat) : Int) ∧ GW J (gJoin g ((p / 66 : Nat) : Int) ((p % 66 : Nat) : Int)) ∧ Fm FW I J) := by
  have ha : (0 : Int) ≤ ((p / 66 : Nat) : Int) ∧ ((p / 66 : Nat) : Int) < 66 := by omega
  have hb : (0 : Int) ≤ ((p % 66 : Nat) : Int) ∧ ((p % 66 : Nat) : Int) < 66 := by omega
  have hi1 := idv_nat p (by omega)
  have hi2 := irm_nat p (by omega)
  generalize ((p / 66 : Nat) : Int) = a at *
  generalize ((p % 66 : Nat) : Int) = b at *
  rcases gRule_rng g a b with z | ⟨r, hr4, hrr⟩
  · exact absurd z hr
  have hKr : -1 ≤ gKept g a b ∧ gKept g a b < 40 := by
    by_cases q : gKept g a b = -1
    · omega
    · obtain ⟨j, h1, h2, h3, -⟩ := fF_some q
      have h1 : gKept g a b = (j : Int) := h1
      omega
  have body : Tr (f_M_makes_j33 (p : Int) a b (r : Int) I) (fun x J => x = gRule g a b ∧ GW J (gJoin g a b) ∧ Fm FW I J) := by
    unfold f_M_makes_j33
    refine tr_call (P := fun _ J => GW J (gJR g a b (26 + (r : Int)), gT g, gL g, up (gA g) 5 (gA g 5 + gPlaces g a b), gN g) ∧ Fm FW I J) (tr_cnt (fun k => (k : Int)) (fun k J => GW J (fun i => if i < k then gJR g a b (26 + (r : Int)) i else gR g i, gT g, gL g, up (gA g) 5 (gA g 5 + sT (gPl g a b) k), gN g) ∧ Fm FW I J) 41 rfl ⟨h.congr (fun i _ => rfl) rfl (fun i _ => ?_) (fun _ _ => rfl), Fm.refl _ _⟩ ?_ ?_) ?_
    · show up (gA g) 5 (gA g 5 + 0) i = gA g i
      by_cases e : i = 5
      · subst e; rw [up_self, Int.add_zero]
      · rw [up_ne e]
    · rintro k J hk ⟨hG, hF⟩
      have hke : gR ((fun i => if i < k then gJR g a b (26 + (r : Int)) i else gR g i, gT g, gL g, up (gA g) 5 (gA g 5 + sT (gPl g a b) k), gN g) : GS) k = gR g k := if_neg (Nat.lt_irrefl k)
      have hwk : ∀ i : Nat, i < 41 → SY (gR ((fun i => if i = k then gR g i else [], gT g, gL g, gA g, gN g) : GS) i) := fun i hi => by
        show SY (if i = k then gR g i else [])
        by_cases e : i = k
        · rw [if_pos e]; exact w i hi
        · rw [if_neg e]; exact fun x hx => absurd hx List.not_mem_nil
      have hal := m_isAlone hG hk
      rw [hke] at hal
      have kcell := (h.1 k hk).2.1
      have hkl := (hG.1 k hk)
      rw [hke] at hkl
      unfold f_M_makes_w38
      rw [w32_of (x := (k : Int)) (by omega) (by omega), if_pos (by omega), hal, bnd_some]
      -- the join itself
      have join : ¬ (k ≠ 0 ∧ gR g k = [a, b]) → Tr (f_M_makes_j79 (p : Int) a b (r : Int) (k : Int) J) (LQ (fun s' J' => s' = ((k + 1 : Nat) : Int) ∧ GW J' (fun i => if i < k + 1 then gJR g a b (26 + (r : Int)) i else gR g i, gT g, gL g, up (gA g) 5 (gA g 5 + sT (gPl g a b) (k + 1)), gN g) ∧ Fm FW I J') (fun _ J => GW J (gJR g a b (26 + (r : Int)), gT g, gL g, up (gA g) 5 (gA g 5 + gPlaces g a b), gN g) ∧ Fm FW I J)) := by
        intro hn
        have hp1 : gPl g a b k = (jcnt a b (gR g k) : Int) := if_neg hn
        have hj1 : gJR g a b (26 + (r : Int)) k = joinL a b (26 + (r : Int)) (gR g k) := if_neg hn
        unfold f_M_makes_j79
        -- only row k's symbols are looked at
        have hG' : GW J ((fun i => if i < k then gJR g a b (26 + (r : Int)) i else gR g i, gT g, gL g, up (gA g) 5 (gA g 5 + sT (gPl g a b) k), gN g) : GS) := hG
        have hsyk : ∀ i : Nat, i < 41 → SY (gR ((fun i => if i < k then gJR g a b (26 + (r : Int)) i else gR g i, gT g, gL g, up (gA g) 5 (gA g 5 + sT (gPl g a b) k), gN g) : GS) i) := fun i hi => by
          show SY (if i < k then gJR g a b (26 + (r : Int)) i else gR g i)
          split
          · intro x hx
            unfold gJR at hx
            split at hx
            · exact w i hi x hx
            · rcases joinL_mem hx with z | z
              · exact w i hi x z
              · rw [z.1]; omega
          · exact w i hi
        refine tr_call (t_mjoins hG' hsyk hk ha hb (s := 26 + (r : Int))) ?_
        rintro x K ⟨rfl, k1, k2⟩
        rw [hke] at k1 ⊢
        refine tr_call (t_mcounts k1 (a := 5) (by decide) _) ?_
        rintro _ K2 ⟨k3, k4⟩
        refine tr_ret ⟨rfl, k3.congr (fun i _ => ?_) rfl (fun i _ => ?_) (fun _ _ => rfl), hF.trans ((k2.mono FWR_FW).trans k4)⟩
        · show (if i < k + 1 then gJR g a b (26 + (r : Int)) i else gR g i) = up (fun i => if i < k then gJR g a b (26 + (r : Int)) i else gR g i) k (joinL a b (26 + (r : Int)) (gR g k)) i
          by_cases e : i = k
          · subst e; rw [if_pos (by omega), up_self, hj1]
          · rw [up_ne e]
            by_cases e2 : i < k
            · rw [if_pos e2, if_pos (by omega)]
            · rw [if_neg e2, if_neg (by omega)]
        · show up (gA g) 5 (gA g 5 + (sT (gPl g a b) k + gPl g a b k)) i = up (up (gA g) 5 (gA g 5 + sT (gPl g a b) k)) 5 (up (gA g) 5 (gA g 5 + sT (gPl g a b) k) 5 + (jcnt a b (gR g k) : Int)) i
          by_cases e : i = 5
          · subst e; rw [up_self, up_self, up_self, hp1]; omega
          · rw [up_ne e, up_ne e, up_ne e]
      by_cases al : k ≠ 0 ∧ (gR g k).length = 2
      · rw [if_neg (wb_pos al)]
        have q0 := (w k hk).at (j := 0) (by omega)
        have q1 := (w k hk).at (j := 1) (by omega)
        have a0 := m_atR (I := J) hk (j := 0) (by omega)
        have a1 := m_atR (I := J) hk (j := 1) (by omega)
        rw [hkl.2.2 0 (by omega)] at a0
        rw [hkl.2.2 1 (by omega)] at a1
        have a0 : f_M_at (k : Int) 0 J = some ((gR g k).getD 0 (-1), J) := a0
        have a1 : f_M_at (k : Int) 1 J = some ((gR g k).getD 1 (-1), J) := a1
        have hpair : gR g k = [(gR g k).getD 0 (-1), (gR g k).getD 1 (-1)] := by
          match gR g k, al.2 with
          | [x, y], _ => rfl
        rw [a0, bnd_some, w32_of (x := (gR g k).getD 0 (-1)) (by omega) (by omega), w32_of (x := a) (by omega) (by omega)]
        by_cases c0 : (gR g k).getD 0 (-1) = a
        · rw [if_pos c0, a1, bnd_some, w32_of (x := (gR g k).getD 1 (-1)) (by omega) (by omega), w32_of (x := b) (by omega) (by omega)]
          by_cases c1 : (gR g k).getD 1 (-1) = b
          · rw [if_pos c1]
            have hkk : k ≠ 0 ∧ gR g k = [a, b] := ⟨al.1, by rw [hpair, c0, c1]⟩
            have hp1 : gPl g a b k = 0 := if_pos hkk
            have hj1 : gJR g a b (26 + (r : Int)) k = gR g k := if_pos hkk
            refine tr_ret ⟨rfl, hG.congr (fun i _ => ?_) rfl (fun i _ => ?_) (fun _ _ => rfl), hF⟩
            · show (if i < k + 1 then gJR g a b (26 + (r : Int)) i else gR g i) = (if i < k then gJR g a b (26 + (r : Int)) i else gR g i)
              by_cases e : i = k
              · subst e; rw [if_pos (by omega), if_neg (by omega), hj1]
              · by_cases e2 : i < k
                · rw [if_pos e2, if_pos (by omega)]
                · rw [if_neg e2, if_neg (by omega)]
            · show up (gA g) 5 (gA g 5 + (sT (gPl g a b) k + gPl g a b k)) i = up (gA g) 5 (gA g 5 + sT (gPl g a b) k) i
              rw [hp1, Int.add_zero]
          · rw [if_neg c1]; exact join (fun z => c1 (by rw [z.2]; rfl))
        · rw [if_neg c0]; exact join (fun z => c0 (by rw [z.2]; rfl))
      · rw [if_pos (wb_neg al)]; exact join (fun z => al ⟨z.1, by rw [z.2]; rfl⟩)
    · rintro J ⟨hG, hF⟩
      unfold f_M_makes_w38
      rw [if_neg (by decide)]
      refine tr_ret ⟨hG.congr (fun i hi => ?_) rfl (fun _ _ => rfl) (fun _ _ => rfl), hF⟩
      show gJR g a b (26 + (r : Int)) i = (if i < 41 then gJR g a b (26 + (r : Int)) i else gR g i)
      rw [if_pos hi]
    rintro _ J2 ⟨h2, f2⟩
    have hk2 : J2 27 13 p = gKept g a b := by rw [f2.at (by decide) (by unfold FW; omega)]; exact hk
    rw [w32_of (x := (p : Int)) (by omega) (by omega), if_pos (by omega), Int.toNat_natCast, hk2, w32_of (x := gKept g a b) (by omega) (by omega)]
    by_cases hkk : gKept g a b = -1
    · have hfree : gFree g = (r : Int) := by rw [← hrr]; unfold gRule; rw [if_pos hkk]
      have hfr := (gFree_spec hfree).2
      have hz : gR ((gJR g a b (26 + (r : Int)), gT g, gL g, up (gA g) 5 (gA g 5 + gPlaces g a b), gN g) : GS) (r + 1) = [] := by
        show gJR g a b (26 + (r : Int)) (r + 1) = []
        unfold gJR; rw [hfr, if_neg (by simp)]; rfl
      rw [if_pos hkk, show (r : Int) + 1 = ((r + 1 : Nat) : Int) from rfl]
      refine tr_call (t_madds h2 (by omega) (by rw [hz]; decide) a) ?_
      rintro _ J3 ⟨h3, f3⟩
      rw [hz] at h3
      have hz3 : gR (gsR ((gJR g a b (26 + (r : Int)), gT g, gL g, up (gA g) 5 (gA g 5 + gPlaces g a b), gN g) : GS) (r + 1) ([] ++ [a])) (r + 1) = [a] := up_self _ _ _
      refine tr_call (t_madds h3 (by omega) (by rw [hz3]; simp) b) ?_
      rintro _ J4 ⟨h4, f4⟩
      rw [hz3] at h4
      refine tr_call (t_mcounts h4 (a := 1) (by decide) 1) ?_
      rintro _ J5 ⟨h5, f5⟩
      refine tr_ret ⟨hrr.symm, h5.congr (fun i _ => ?_) ?_ (fun i _ => ?_) (fun i _ => ?_), f2.trans (((f3.mono FWR_FW).trans (f4.mono FWR_FW)).trans f5)⟩
      · unfold gJoin
        rw [hrr, if_neg (by omega), if_pos hkk, Int.toNat_natCast]
        show up (gJR g a b (26 + (r : Int))) (r + 1) [a, b] i = up (up (gJR g a b (26 + (r : Int))) (r + 1) ([] ++ [a])) (r + 1) ([a] ++ [b]) i
        by_cases e : i = r + 1
        · subst e; rw [up_self, up_self]; rfl
        · rw [up_ne e, up_ne e, up_ne e]
      · unfold gJoin
        rw [hrr, if_neg (by omega), if_pos hkk, Int.toNat_natCast]; rfl
      · unfold gJoin
        rw [hrr, if_neg (by omega), if_pos hkk, Int.toNat_natCast]; rfl
      · unfold gJoin
        rw [hrr, if_neg (by omega), if_pos hkk, Int.toNat_natCast]; rfl
    · rw [if_neg hkk]
      refine tr_ret ⟨hrr.symm, ?_, f2⟩
      unfold gJoin
      rw [hrr, if_neg (by omega), if_neg hkk, Int.toNat_natCast]
      exact h2
  unfold f_M_makes
  rw [w32_of (x := (p : Int)) (by omega) (by omega), if_pos (by omega), Int.toNat_natCast, hk, w32_of (x := gKept g a b) (by omega) (by omega), hi1, hi2]
  by_cases q : gKept g a b = -1
  · have e : gFree g = (r : Int) := by rw [← hrr]; unfold gRule; rw [if_pos q]
    rw [if_pos q, m_freeRule h, bnd_some, e]
    exact body
  · have e : gKept g a b = (r : Int) := by rw [← hrr]; unfold gRule; rw [if_neg q]
    rw [if_neg q, e]
    exact body
end MJ
