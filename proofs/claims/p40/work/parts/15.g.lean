section
/-! ===== the state of a run: what class and reference hold; history ===== -/
theorem gd_l {α : Type} {l m : List α} {j : Nat} {d : α} (h : j < l.length) : (l ++ m).getD j d = l.getD j d := by
  simp [List.getD_eq_getElem?_getD, List.getElem?_append, h]
theorem gd_r {α : Type} {l m : List α} {j : Nat} {d : α} (h : l.length ≤ j) : (l ++ m).getD j d = m.getD (j - l.length) d := by
  simp [List.getD_eq_getElem?_getD, List.getElem?_append, Nat.not_lt.mpr h]
theorem gd_take {α : Type} {l : List α} {i j : Nat} {d : α} (h : j < i) : (l.take i).getD j d = l.getD j d := by
  simp [List.getD_eq_getElem?_getD, List.getElem?_take, h]
theorem gd_drop {α : Type} {l : List α} {i j : Nat} {d : α} : (l.drop i).getD j d = l.getD (i + j) d := by
  simp [List.getD_eq_getElem?_getD]
theorem gd_mem {α : Type} {l : List α} {j : Nat} {d : α} (h : j < l.length) : l.getD j d ∈ l := by
  simp [List.getD_eq_getElem?_getD, h]
/-- the past with one more -/
def pushP (ps : List GS) (g : GS) : List GS := if ps.length < 8 then ps ++ [g] else ps.drop 1 ++ [g]
theorem pushP_len {ps : List GS} {g : GS} (h : ps.length ≤ 8) : (pushP ps g).length = (if ps.length < 8 then ps.length + 1 else 8) ∧ (pushP ps g).length ≤ 8 := by
  unfold pushP
  by_cases q : ps.length < 8
  · rw [if_pos q, if_pos q, List.length_append]
    exact ⟨rfl, by show ps.length + 1 ≤ 8; omega⟩
  · rw [if_neg q, if_neg q, List.length_append, List.length_drop]
    show ps.length - 1 + 1 = 8 ∧ ps.length - 1 + 1 ≤ 8
    omega
theorem pushP_wf {ps : List GS} {g : GS} (h : ∀ x ∈ ps, WF x) (w : WF g) : ∀ x ∈ pushP ps g, WF x := by
  intro x hx
  unfold pushP at hx
  split at hx
  · rcases List.mem_append.mp hx with z | z
    · exact h x z
    · rw [List.mem_singleton.mp z]; exact w
  · rcases List.mem_append.mp hx with z | z
    · exact h x (List.mem_of_mem_drop z)
    · rw [List.mem_singleton.mp z]; exact w
/-- the class's ring of eight -/
def HC (I : Mem) (ps : List GS) : Prop := ps.length ≤ 8 ∧ I 9 0 4 = (ps.length : Int) ∧ ∃ nx : Nat, nx < 8 ∧ I 9 0 3 = (nx : Int) ∧ ∀ k : Nat, k < ps.length → GC I (2 + (nx + 8 - ps.length + k) % 8) (ps.getD k g0)
/-- the reference's row of eight -/
def HM (I : Mem) (ps : List GS) : Prop := ps.length ≤ 8 ∧ I 26 0 6 = (ps.length : Int) ∧ ∀ k : Nat, k < ps.length → GB I 3 (16860 * k) (ps.getD k g0)
def KpC (I : Mem) (kp : Nat → Option GS) : Prop := ∀ j : Nat, j < 2 → match kp j with
  | none => I 24 0 j = 0
  | some g => I 24 0 j = 1 ∧ GC I (10 + j) g
def KpM (I : Mem) (kp : Nat → Option GS) : Prop := ∀ j : Nat, j < 2 → match kp j with
  | none => I 28 0 j = 0
  | some g => I 28 0 j = 1 ∧ GB I 4 (16860 * j) g
theorem GB.fm {F : FP} {I J : Mem} {k b : Nat} {g : GS} (h : GB I k b g) (f : Fm F I J) (hn : ∀ s : Nat, b ≤ s → s < b + 16860 → ¬ F 27 k s) : GB J k b g := GWf.congr h (fun s hs => f.at (by decide) (hn (b + s) (by omega) (by omega)))
section SIM
variable {I J : Mem} {ps : List GS} {kp : Nat → Option GS} {g : GS} {F : FP}
theorem HC.fm (h : HC I ps) (f : Fm F I J) (h1 : ∀ s : Nat, ¬ F 9 0 s) (h2 : ∀ t : Nat, 2 ≤ t → t < 10 → ∀ k i s : Nat, FG t k i s → ¬ F k i s) : HC J ps := by
  obtain ⟨a, b, nx, c, d, e⟩ := h
  exact ⟨a, by rw [f.at (by decide) (h1 4)]; exact b, nx, c, by rw [f.at (by decide) (h1 3)]; exact d, fun k hk => (e k hk).fm f (h2 _ (by omega) (by omega))⟩
theorem HM.fm (h : HM I ps) (f : Fm F I J) (h1 : ¬ F 26 0 6) (h2 : ∀ s : Nat, ¬ F 27 3 s) : HM J ps := by
  obtain ⟨a, b, c⟩ := h
  exact ⟨a, by rw [f.at (by decide) h1]; exact b, fun k hk => (c k hk).fm f (fun s _ _ => h2 s)⟩
theorem KpC.fm (h : KpC I kp) (f : Fm F I J) (h1 : ∀ s : Nat, ¬ F 24 0 s) (h2 : ∀ t : Nat, 10 ≤ t → t < 12 → ∀ k i s : Nat, FG t k i s → ¬ F k i s) : KpC J kp := by
  intro j hj
  have hh := h j hj
  cases e : kp j with
  | none => rw [e] at hh; show J 24 0 j = 0; rw [f.at (by decide) (h1 j)]; exact hh
  | some g =>
    rw [e] at hh
    exact ⟨by rw [f.at (by decide) (h1 j)]; exact hh.1, hh.2.fm f (h2 _ (by omega) (by omega))⟩
theorem KpM.fm (h : KpM I kp) (f : Fm F I J) (h1 : ∀ s : Nat, ¬ F 28 0 s) (h2 : ∀ s : Nat, ¬ F 27 4 s) : KpM J kp := by
  intro j hj
  have hh := h j hj
  cases e : kp j with
  | none => rw [e] at hh; show J 28 0 j = 0; rw [f.at (by decide) (h1 j)]; exact hh
  | some g =>
    rw [e] at hh
    exact ⟨by rw [f.at (by decide) (h1 j)]; exact hh.1, hh.2.fm f (fun s _ _ => h2 s)⟩
abbrev FHis : FP := fun k i s => (∃ t : Nat, 2 ≤ t ∧ t < 10 ∧ FG t k i s) ∨ k = 9
theorem t_hrem (gc : GC I 0 g) (hA : AllG I) (h : HC I ps) : Tr (f_His_remember 0 I) (fun _ J => HC J (pushP ps g) ∧ AllG J ∧ Fm FHis I J) := by
  obtain ⟨hn, h4, nx, hx, h3, hg⟩ := h
  have hl := pushP_len (g := g) hn
  obtain ⟨g2, gt⟩ := hA (2 + nx) (by omega)
  have w3 : w32 (nx : Int) = nx := w32_of (by omega) (by omega)
  unfold f_His_remember
  rw [if_pos (by decide), h3, w3, if_pos (by omega), Int.toNat_natCast]
  refine tr_call (t_gtakeFrom gt gc (by omega)) ?_
  rintro _ J ⟨gt, f⟩
  have e3 : J 9 0 3 = (nx : Int) := (f.at (by decide) (by unfold FG; omega)).trans h3
  have e4 : J 9 0 4 = (ps.length : Int) := (f.at (by decide) (by unfold FG; omega)).trans h4
  have hA2 : AllG J := hA.go f (fun t => t = 2 + nx) (fun t _ z => by subst z; exact ⟨_, gt⟩) (fun t _ z k i s q q2 => by unfold FG at q q2; omega)
  have key : ∀ nx' : Nat, nx' = (nx + 1) % 8 → Tr (f_His_remember_j35 (nx' : Int) J) (fun _ K => HC K (pushP ps g) ∧ AllG K ∧ Fm FHis I K) := by
    intro nx' hx'
    unfold f_His_remember_j35
    try dsimp only [ltI]
    rw [sI_ne (by decide), e4]
    have f9 : ∀ v w : Int, Fm (fun k _ _ => k = 9) J (sI (sI J 9 0 3 v) 9 0 4 w) := fun v w => (Fm.sI (by decide) (by omega) (by omega) rfl).trans (Fm.sI (by decide) (by omega) (by omega) rfl)
    have fg : ∀ (v w : Int) (t : Nat) (x : GS), GC J t x → GC (sI (sI J 9 0 3 v) 9 0 4 w) t x := fun v w t x hx => hx.fm (f9 v w) (fun k i s z q => by unfold FG at z; omega)
    have em : imn ((ps.length : Int) + 1) 8 = ((pushP ps g).length : Int) := by
      rw [hl.1]
      unfold imn
      rw [w32_of (x := (ps.length : Int) + 1) (by omega) (by omega), w32_of (x := 8) (by decide) (by decide)]
      split <;> split <;> omega
    refine tr_ret ⟨⟨hl.2, by rw [sI_self]; exact em, nx', by omega, by rw [sI_ne (by decide), sI_self], fun k hk => fg _ _ _ _ ?_⟩, fun t ht => ?_, (f.mono (fun a b c z => Or.inl ⟨2 + nx, by omega, by omega, z⟩)).trans ((f9 _ _).mono (fun a b c z => Or.inr z))⟩
    · have old : ∀ k : Nat, k < ps.length → (nx + 8 - ps.length + k) % 8 ≠ nx → GC J (2 + (nx + 8 - ps.length + k) % 8) (ps.getD k g0) := fun k hk hne => (hg k hk).fm f (fun a b c z q => by unfold FG at z q; omega)
      rw [hl.1] at hk ⊢
      unfold pushP
      by_cases q : ps.length < 8
      · rw [if_pos q] at hk ⊢
        rw [if_pos q]
        by_cases q2 : k < ps.length
        · rw [gd_l q2, show (nx' + 8 - (ps.length + 1) + k) % 8 = (nx + 8 - ps.length + k) % 8 by omega]
          exact old k q2 (by omega)
        · rw [gd_r (by omega), show k - ps.length = 0 by omega, show (nx' + 8 - (ps.length + 1) + k) % 8 = nx by omega]
          exact gt
      · rw [if_neg q] at hk ⊢
        rw [if_neg q]
        have hd : (ps.drop 1).length = 7 := by rw [List.length_drop]; omega
        by_cases q2 : k < 7
        · rw [gd_l (by omega), gd_drop, show (nx' + 8 - 8 + k) % 8 = (nx + 8 - ps.length + (1 + k)) % 8 by omega]
          exact old (1 + k) (by omega) (by omega)
        · rw [gd_r (by omega), hd, show k - 7 = 0 by omega, show (nx' + 8 - 8 + k) % 8 = nx by omega]
          exact gt
    · obtain ⟨x, hx⟩ := hA2 t ht
      exact ⟨x, fg _ _ t x hx⟩
  rw [e3, show (nx : Int) + 1 = ((nx + 1 : Nat) : Int) from rfl, w32_of (x := ((nx + 1 : Nat) : Int)) (by omega) (by omega)]
  by_cases q : nx + 1 < 8
  · rw [if_pos (by omega)]
    exact key (nx + 1) (by omega)
  · rw [if_neg (by omega)]
    exact key 0 (by omega)
/-- one step back, the past not empty -/
theorem t_hback (h0 : ∃ x : GS, GC I 0 x) (h : HC I ps) (hne : ps ≠ []) : Tr (f_His_goBack 0 I) (fun _ J => GC J 0 (ps.getD (ps.length - 1) g0) ∧ HC J (ps.take (ps.length - 1)) ∧ Fm (fun k i s => FG 0 k i s ∨ k = 9) I J) := by
  obtain ⟨hn, h4, nx, hx, h3, hg⟩ := h
  have hpos : 0 < ps.length := List.length_pos_iff.mpr hne
  obtain ⟨x0, gc0⟩ := h0
  have key : ∀ nx' : Nat, nx' < 8 → nx' = (nx + 7) % 8 → Tr (f_His_goBack_j26 0 (nx' : Int) I) (fun _ J => GC J 0 (ps.getD (ps.length - 1) g0) ∧ HC J (ps.take (ps.length - 1)) ∧ Fm (fun k i s => FG 0 k i s ∨ k = 9) I J) := by
    intro nx' hx8 hx'
    have f9 : ∀ v w : Int, Fm (fun k _ _ => k = 9) I (sI (sI I 9 0 3 v) 9 0 4 w) := fun v w => (Fm.sI (by decide) (by omega) (by omega) rfl).trans (Fm.sI (by decide) (by omega) (by omega) rfl)
    unfold f_His_goBack_j26
    try dsimp only [ltI]
    rw [show (sI I 9 0 3 (nx' : Int)) 9 0 4 = (ps.length : Int) by rw [sI_ne (by decide), h4], show (sI (sI I 9 0 3 (nx' : Int)) 9 0 4 ((ps.length : Int) - 1)) 9 0 3 = (nx' : Int) by rw [sI_ne (by decide), sI_self], w32_of (x := (nx' : Int)) (by omega) (by omega), if_pos (by omega), Int.toNat_natCast]
    have f1 := f9 (nx' : Int) ((ps.length : Int) - 1)
    have e3 : (sI (sI I 9 0 3 (nx' : Int)) 9 0 4 ((ps.length : Int) - 1)) 9 0 3 = (nx' : Int) := by rw [sI_ne (by decide), sI_self]
    have e4 : (sI (sI I 9 0 3 (nx' : Int)) 9 0 4 ((ps.length : Int) - 1)) 9 0 4 = (ps.length : Int) - 1 := sI_self _ _ _ _ _
    generalize sI (sI I 9 0 3 (nx' : Int)) 9 0 4 ((ps.length : Int) - 1) = J1 at f1 e3 e4
    have gl := hg (ps.length - 1) (by omega)
    rw [show (nx + 8 - ps.length + (ps.length - 1)) % 8 = nx' by omega] at gl
    refine tr_call (t_gtakeFrom (gc0.fm f1 (fun k i s z q => by unfold FG at z; omega)) (gl.fm f1 (fun k i s z q => by unfold FG at z; omega)) (by omega)) ?_
    rintro _ J ⟨gc, f2⟩
    have hlen : (ps.take (ps.length - 1)).length = ps.length - 1 := by rw [List.length_take]; omega
    refine tr_ret ⟨gc, ⟨by omega, ?_, nx', hx8, ?_, fun k hk => ?_⟩, (f1.mono (fun a b c z => Or.inr z)).trans (f2.mono (fun a b c z => Or.inl z))⟩
    · rw [f2.at (by decide) (by unfold FG; omega), e4, hlen]; omega
    · rw [f2.at (by decide) (by unfold FG; omega), e3]
    · rw [hlen] at hk ⊢
      rw [gd_take hk, show (nx' + 8 - (ps.length - 1) + k) % 8 = (nx + 8 - ps.length + k) % 8 by omega]
      exact ((hg k (by omega)).fm f1 (fun k i s z q => by unfold FG at z; omega)).fm f2 (fun k i s z q => by unfold FG at z q; omega)
  unfold f_His_goBack
  rw [if_pos (by decide), h4, w32_of (x := (ps.length : Int)) (by omega) (by omega), if_pos (by omega), h3, w32_of (x := (nx : Int)) (by omega) (by omega)]
  by_cases q : 0 < nx
  · rw [if_pos (by omega), show (nx : Int) - 1 = ((nx - 1 : Nat) : Int) by omega]
    exact key (nx - 1) (by omega) (by omega)
  · rw [if_neg (by omega)]
    exact key 7 (by omega) (by omega)
abbrev FRb3 : FP := fun k i s => (k = 27 ∧ i = 3) ∨ (k = 26 ∧ s = 6)
theorem t_mrem {q : Nat} (hq : q = 0 ∨ q = 2) (gw : GB I q 0 g) (h : HM I ps) : Tr (f_M_remembers q I) (fun _ J => HM J (pushP ps g) ∧ Fm FRb3 I J) := by
  obtain ⟨hn, h6, hg⟩ := h
  have hl := pushP_len (g := g) hn
  have key : ∀ (m : Nat) (J : Mem), m < 8 → J 26 0 6 = (m : Int) → m + 1 = (pushP ps g).length → (∀ k : Nat, k < m → GB J 3 (16860 * k) ((pushP ps g).getD k g0)) → (pushP ps g).getD m g0 = g → GB J q 0 g → Fm FRb3 I J → Tr (f_M_remembers_j50 q J) (fun _ K => HM K (pushP ps g) ∧ Fm FRb3 I K) := by
    intro m J hm e6 em hk eg gq f
    unfold f_M_remembers_j50
    rw [e6, show (16860 : Int) * (m : Int) = ((16860 * m : Nat) : Int) by omega]
    have hb : 0 + 16860 ≤ mLen q ∧ mLen q ≤ 1000000 := by rcases hq with rfl | rfl <;> decide
    refine tr_call (t_mlays (k := q) (b := 0) (k' := 3) (b' := 16860 * m) (I := J) (by omega) (by decide) hb.1 (by show 16860 * m + 16860 ≤ 134880; omega) hb.2 (by decide) (by omega)) ?_
    rintro _ K ⟨hc, f2⟩
    try dsimp only [ltI]
    have f3 : ∀ v : Int, Fm (fun k _ s => k = 26 ∧ s = 6) K (sI K 26 0 6 v) := fun v => Fm.sI (by decide) (by omega) (by omega) ⟨rfl, rfl⟩
    have e6' : K 26 0 6 = (m : Int) := (f2.at (by decide) (by omega)).trans e6
    rw [e6']
    refine tr_ret ⟨⟨hl.2, by rw [sI_self]; omega, fun k hk' => ?_⟩, f.trans ((f2.mono (fun a b c z => Or.inl ⟨z.1, z.2.1⟩)).trans ((f3 _).mono (fun a b c z => Or.inr z)))⟩
    refine GB.fm ?_ (f3 _) (fun s _ _ z => absurd z.1 (by decide))
    by_cases z : k < m
    · exact (hk k z).fm f2 (fun s h1 h2 z => by omega)
    · obtain rfl : k = m := by omega
      rw [eg]
      refine GWf.congr gq (fun s hs => ?_)
      rw [hc s hs]
  unfold f_M_remembers
  rw [if_pos (by omega), h6, w32_of (x := (ps.length : Int)) (by omega) (by omega)]
  by_cases q8 : ps.length = 8
  · rw [if_pos (by omega)]
    refine tr_call (P := fun _ J => (∀ s : Nat, s < 118020 → J 27 3 s = I 27 3 (s + 16860)) ∧ Fm (fun k i s => k = 27 ∧ i = 3 ∧ s < 118020) I J) (tr_cnt (fun k => (k : Int)) (fun n J => (∀ s : Nat, s < n → J 27 3 s = I 27 3 (s + 16860)) ∧ Fm (fun k i s => k = 27 ∧ i = 3 ∧ s < n) I J) 118020 rfl ⟨fun s hs => absurd hs (Nat.not_lt_zero s), Fm.refl _ _⟩ ?_ ?_) ?_
    · rintro n J hn ⟨hc, f⟩
      unfold f_M_remembers_w11
      rw [w32_of (x := (n : Int)) (by omega) (by omega), if_pos (by omega), show (n : Int) + 16860 = ((n + 16860 : Nat) : Int) by omega, w32_of (x := ((n + 16860 : Nat) : Int)) (by omega) (by omega), if_pos (by omega), if_pos (by omega), Int.toNat_natCast, Int.toNat_natCast]
      try dsimp only [ltI]
      refine tr_ret ⟨by omega, fun s hs => ?_, (f.mono (fun a b c z => ⟨z.1, z.2.1, by omega⟩)).trans (Fm.sI (by decide) (by omega) (by omega) ⟨rfl, rfl, by omega⟩)⟩
      by_cases z : s = n
      · subst z
        rw [sI_self, f.at (by decide) (by omega)]
      · rw [sI_ne (by omega)]
        exact hc s (by omega)
    · rintro J z
      unfold f_M_remembers_w11
      rw [w32_of (x := ((118020 : Nat) : Int)) (by decide) (by decide), if_neg (by decide)]
      exact tr_ret z
    · rintro _ J ⟨hc, f⟩
      try dsimp only [ltI]
      have f3 : ∀ v : Int, Fm (fun k _ s => k = 26 ∧ s = 6) J (sI J 26 0 6 v) := fun v => Fm.sI (by decide) (by omega) (by omega) ⟨rfl, rfl⟩
      have e6 : J 26 0 6 = (ps.length : Int) := (f.at (by decide) (by omega)).trans h6
      have hd : (ps.drop 1).length = 7 := by rw [List.length_drop]; omega
      have ep : pushP ps g = ps.drop 1 ++ [g] := by unfold pushP; rw [if_neg (by omega)]
      refine key 7 _ (by decide) (by rw [sI_self, e6, q8]; rfl) (by rw [hl.1, if_neg (by omega)]) (fun k hk => ?_) ?_ ?_ ((f.mono (fun a b c z => Or.inl ⟨z.1, z.2.1⟩)).trans ((f3 _).mono (fun a b c z => Or.inr z)))
      · refine GB.fm ?_ (f3 _) (fun s _ _ z => absurd z.1 (by decide))
        rw [ep, gd_l (by omega), gd_drop]
        refine GWf.congr (hg (1 + k) (by omega)) (fun s hs => ?_)
        rw [hc _ (by omega), show 16860 * k + s + 16860 = 16860 * (1 + k) + s by omega]
      · rw [ep, gd_r (by omega), hd]
        rfl
      · refine GB.fm (gw.fm f (fun s _ _ z => by omega)) (f3 _) (fun s _ _ z => absurd z.1 (by decide))
  · rw [if_neg (by omega)]
    have ep : pushP ps g = ps ++ [g] := by unfold pushP; rw [if_pos (by omega)]
    refine key ps.length I (by omega) h6 (by rw [hl.1, if_pos (by omega)]) (fun k hk => by rw [ep, gd_l hk]; exact hg k hk) (by rw [ep, gd_r (Nat.le_refl _), Nat.sub_self]; rfl) gw (Fm.refl _ _)
end SIM
end
section
/-! ===== the state of a run, second part: source, report, all together ===== -/
abbrev SS : Type := GS × List GS × (Nat → Option GS) × List Int × List Int
def BfC (I : Mem) (bs : List Int) : Prop := I 6 0 1 = (bs.length : Int) ∧ ∀ j : Nat, j < bs.length → I 19 0 j = bs.getD j 0
def BfM (I : Mem) (bs : List Int) : Prop := I 26 0 20 = (bs.length : Int) ∧ ∀ j : Nat, j < bs.length → I 27 14 j = bs.getD j 0
def capR (c : Int) : Prop := c = 64 ∨ c = 128 ∨ c = 256 ∨ c = 512 ∨ c = 1024 ∨ c = 2048 ∨ c = 4096 ∨ c = 8192 ∨ c = 16384 ∨ c = 32768 ∨ c = 65536 ∨ c = 131072
def RpC (I : Mem) (rp : List Int) : Prop := I 10 0 1 = (rp.length : Int) ∧ (rp.length : Int) ≤ I 10 0 2 ∧ capR (I 10 0 2) ∧ ∀ j : Nat, j < rp.length → I 25 0 j = rp.getD j 0
def RpM (I : Mem) (rp : List Int) : Prop := I 26 0 43 = (rp.length : Int) ∧ ∀ j : Nat, j < rp.length → I 27 22 j = rp.getD j 0
def SC (I : Mem) (s : SS) : Prop := GC I 0 s.1 ∧ AllG I ∧ PTi I ∧ HC I s.2.1 ∧ KpC I s.2.2.1 ∧ BfC I s.2.2.2.1 ∧ RpC I s.2.2.2.2
def SM (I : Mem) (s : SS) : Prop := GW I s.1 ∧ HM I s.2.1 ∧ KpM I s.2.2.1 ∧ BfM I s.2.2.2.1 ∧ RpM I s.2.2.2.2
def SW (s : SS) : Prop := WF s.1 ∧ (∀ x ∈ s.2.1, WF x) ∧ (∀ (j : Nat) (x : GS), s.2.2.1 j = some x → WF x) ∧ (s.2.2.2.1.length ≤ 600 ∧ ∀ b ∈ s.2.2.2.1, 1 ≤ b ∧ b ≤ 255) ∧ (s.2.2.2.2.length < 70000 ∧ ∀ b ∈ s.2.2.2.2, 0 ≤ b ∧ b < 128)
def SI (I : Mem) (s : SS) : Prop := SC I s ∧ SM I s ∧ SW s
/-- the class's own memory, and the reference's -/
abbrev FCl : FP := fun k _ _ => k < 26
abbrev FMo : FP := fun k _ _ => 26 ≤ k ∧ k < 29
section ST
variable {I J : Mem} {s s' : SS} {g : GS} {F : FP} {bs rp : List Int}
theorem BfC.fm (h : BfC I bs) (f : Fm F I J) (h1 : ¬ F 6 0 1) (h2 : ∀ s : Nat, ¬ F 19 0 s) : BfC J bs := ⟨by rw [f.at (by decide) h1]; exact h.1, fun j hj => by rw [f.at (by decide) (h2 j)]; exact h.2 j hj⟩
theorem BfM.fm (h : BfM I bs) (f : Fm F I J) (h1 : ¬ F 26 0 20) (h2 : ∀ s : Nat, ¬ F 27 14 s) : BfM J bs := ⟨by rw [f.at (by decide) h1]; exact h.1, fun j hj => by rw [f.at (by decide) (h2 j)]; exact h.2 j hj⟩
theorem RpC.fm (h : RpC I rp) (f : Fm F I J) (h1 : ∀ s : Nat, ¬ F 10 0 s) (h2 : ∀ s : Nat, ¬ F 25 0 s) : RpC J rp := ⟨by rw [f.at (by decide) (h1 1)]; exact h.1, by rw [f.at (by decide) (h1 2)]; exact h.2.1, by rw [f.at (by decide) (h1 2)]; exact h.2.2.1, fun j hj => by rw [f.at (by decide) (h2 j)]; exact h.2.2.2 j hj⟩
theorem RpM.fm (h : RpM I rp) (f : Fm F I J) (h1 : ¬ F 26 0 43) (h2 : ∀ s : Nat, ¬ F 27 22 s) : RpM J rp := ⟨by rw [f.at (by decide) h1]; exact h.1, fun j hj => by rw [f.at (by decide) (h2 j)]; exact h.2 j hj⟩
theorem PTi.fm (h : PTi I) (f : Fm F I J) (h1 : ∀ i s : Nat, ¬ F 4 i s ∧ ¬ F 16 i s) : PTi J := by
  obtain ⟨c, kf, pl, hp⟩ := h
  exact ⟨c, kf, pl, hp.fm f h1⟩
theorem AllG.fm (h : AllG I) (f : Fm F I J) (hn : ∀ t : Nat, t < 12 → ∀ k i s : Nat, FG t k i s → ¬ F k i s) : AllG J := fun t ht => by
  obtain ⟨x, hx⟩ := h t ht
  exact ⟨x, hx.fm f (hn t ht)⟩
theorem SC.mo (h : SC I s) (f : Fm FMo I J) : SC J s := by
  obtain ⟨a1, a2, a3, a4, a5, a6, a7⟩ := h
  exact ⟨a1.fm f (fun k i s z q => by unfold FG at z; omega), a2.fm f (fun t _ k i s z q => by unfold FG at z; omega), a3.fm f (fun i s => ⟨fun z => by omega, fun z => by omega⟩), a4.fm f (fun s z => by omega) (fun t _ _ k i s z q => by unfold FG at z; omega), a5.fm f (fun s z => by omega) (fun t _ _ k i s z q => by unfold FG at z; omega), a6.fm f (fun z => by omega) (fun s z => by omega), a7.fm f (fun s z => by omega) (fun s z => by omega)⟩
theorem SM.cl (h : SM I s) (f : Fm FCl I J) : SM J s := by
  obtain ⟨a1, a2, a3, a4, a5⟩ := h
  exact ⟨a1.fm f (fun s _ z => by omega), a2.fm f (fun z => by omega) (fun s z => by omega), a3.fm f (fun s z => by omega) (fun s z => by omega), a4.fm f (fun z => by omega) (fun s z => by omega), a5.fm f (fun z => by omega) (fun s z => by omega)⟩
theorem thrw_ne {k i s : Nat} (h : k ≠ 30) : thrw I k i s = I k i s := by
  unfold thrw
  rw [sI_ne (by omega), sI_ne (by omega)]
/-- all but the counters alike -/
def Lk (I J : Mem) : Prop := ∀ k i s : Nat, k ≠ 30 → J k i s = I k i s
theorem GC.lk {t : Nat} (h : GC I t g) (f : Lk I J) : GC J t g := by
  obtain ⟨a1, a2, a3, a4, a5, a6, a7⟩ := h
  have er : ∀ (r : Nat) (l : List Int), RW I r l → RW J r l := fun r l ⟨b1, b2, b3, b4, b5⟩ => ⟨b1, by rw [f 2 r 1 (by decide)]; exact b2, by rw [f 2 r 2 (by decide)]; exact b3, by rw [f 2 r 2 (by decide)]; exact b4, fun j hj => by rw [f 12 r j (by decide)]; exact b5 j hj⟩
  exact ⟨a1, fun i hi => er _ _ (a2 i hi), er _ _ a3, er _ _ a4, fun i hi => by rw [f 14 t i (by decide)]; exact a5 i hi, fun i hi => by rw [f 15 t i (by decide)]; exact a6 i hi, by rw [f 1 t 6 (by decide), f 1 t 7 (by decide), f 1 t 8 (by decide), f 1 t 9 (by decide)]; exact a7⟩
theorem PTi.lk (h : PTi I) (f : Lk I J) : PTi J := by
  obtain ⟨c, kf, pl, hp, ⟨tl, t1, t2, t3, t4⟩, hr⟩ := h
  exact ⟨c, kf, pl, fun p hq => by rw [f 16 0 p (by decide), f 16 2 p (by decide), f 16 1 p (by decide)]; exact hp p hq, ⟨tl, t1, t2, by rw [f 4 0 4 (by decide)]; exact t3, fun j hj => by rw [f 16 3 j (by decide)]; exact t4 j hj⟩, hr⟩
theorem SC.lk (h : SC I s) (f : Lk I J) : SC J s := by
  obtain ⟨a1, a2, a3, ⟨b1, b2, nx, b3, b4, b5⟩, a5, ⟨c1, c2⟩, d1, d2, d3, d4⟩ := h
  refine ⟨a1.lk f, fun t ht => ?_, a3.lk f, ⟨b1, by rw [f 9 0 4 (by decide)]; exact b2, nx, b3, by rw [f 9 0 3 (by decide)]; exact b4, fun k hk => (b5 k hk).lk f⟩, fun j hj => ?_, ⟨by rw [f 6 0 1 (by decide)]; exact c1, fun j hj => by rw [f 19 0 j (by decide)]; exact c2 j hj⟩, by rw [f 10 0 1 (by decide)]; exact d1, by rw [f 10 0 2 (by decide)]; exact d2, by rw [f 10 0 2 (by decide)]; exact d3, fun j hj => by rw [f 25 0 j (by decide)]; exact d4 j hj⟩
  · obtain ⟨x, hx⟩ := a2 t ht
    exact ⟨x, hx.lk f⟩
  · have hh := a5 j hj
    cases e : s.2.2.1 j with
    | none => rw [e] at hh; show J 24 0 j = 0; rw [f 24 0 j (by decide)]; exact hh
    | some g => rw [e] at hh; exact ⟨by rw [f 24 0 j (by decide)]; exact hh.1, hh.2.lk f⟩
theorem SM.lk (h : SM I s) (f : Lk I J) : SM J s := by
  obtain ⟨a1, ⟨b1, b2, b3⟩, a3, ⟨c1, c2⟩, d1, d2⟩ := h
  refine ⟨GWf.congr a1 (fun q _ => f 27 0 q (by decide)), ⟨b1, by rw [f 26 0 6 (by decide)]; exact b2, fun k hk => GWf.congr (b3 k hk) (fun q _ => f 27 3 _ (by decide))⟩, fun j hj => ?_, ⟨by rw [f 26 0 20 (by decide)]; exact c1, fun j hj => by rw [f 27 14 j (by decide)]; exact c2 j hj⟩, by rw [f 26 0 43 (by decide)]; exact d1, fun j hj => by rw [f 27 22 j (by decide)]; exact d2 j hj⟩
  have hh := a3 j hj
  cases e : s.2.2.1 j with
  | none => rw [e] at hh; show J 28 0 j = 0; rw [f 28 0 j (by decide)]; exact hh
  | some g => rw [e] at hh; exact ⟨by rw [f 28 0 j (by decide)]; exact hh.1, GWf.congr hh.2 (fun q _ => f 27 4 _ (by decide))⟩
theorem lk_thrw : Lk I (thrw I) := fun _ _ _ h => thrw_ne h
/-- what one call may make, against the growth of the rows -/
def Rm (I K : Mem) : Prop := I 30 0 0 ≤ K 30 0 0 ∧ I 30 0 1 ≤ K 30 0 1 ∧ K 30 0 0 - I 30 0 0 ≤ Cap K - Cap I + 1 ∧ K 30 0 1 - I 30 0 1 ≤ 3 * (Cap K - Cap I) + 6
theorem capMo (f : Fm FMo I J) : Cap J = Cap I := by
  unfold Cap
  rw [f.at (k := 10) (i := 0) (s := 2) (by decide) (fun z => by omega), show (fun r : Nat => J 2 r 2) = fun r => I 2 r 2 from funext (fun r => f.at (by decide) (fun z => by omega))]
theorem rm_2 {K : Mem} (f : Fm FCl I J) (k : Fm FMo J K) : Rm I K := by
  have h1 := f.2
  have h2 := k.2
  unfold Gr at h1 h2
  unfold Rm
  omega
theorem rm_t {K : Mem} (k : Fm FMo (thrw I) K) : Rm I K := by
  have h2 := k.2
  have hc : Cap (thrw I) = Cap I := by
    unfold Cap
    rw [thrw_ne (by decide), show (fun r : Nat => thrw I 2 r 2) = fun r => I 2 r 2 from funext (fun r => thrw_ne (by decide))]
  have e0 := thrw_0 I
  have e1 := thrw_1 I
  unfold Gr at h2
  unfold Rm
  omega
abbrev OGI (fc fm : Mem → Option (Int × Mem)) (I : Mem) : Prop := ∃ (r1 r2 : Int) (J K : Mem) (s' : SS), fc I = some (r1, J) ∧ fm J = some (r2, K) ∧ w32 r1 = w32 r2 ∧ SI K s' ∧ Rm I K
abbrev OGW (fl fm : Mem → Option (Int × Mem)) (I : Mem) : Prop := ∃ (r1 r2 : Int) (J K : Mem) (s' : SS), fl I = some (r1, J) ∧ fm J = some (r2, K) ∧ w32 (K 26 0 7) = w32 r1 ∧ (w32 r1 = 0 → w64 (K 29 0 0) = w64 (w32 r2)) ∧ SI K s' ∧ Rm I K
theorem og_I {fc fm : Mem → Option (Int × Mem)} {u : Int} (h : SI I s) (w : SW s') (hc : Tr (fc I) (fun x J => w32 x = u ∧ SC J s' ∧ Fm FCl I J)) (hm : ∀ J : Mem, SM J s → Tr (fm J) (fun x K => w32 x = u ∧ SM K s' ∧ Fm FMo J K)) : OGI fc fm I := by
  obtain ⟨r1, J, e1, u1, c1, f1⟩ := hc
  obtain ⟨r2, K, e2, u2, c2, f2⟩ := hm J (h.2.1.cl f1)
  exact ⟨r1, r2, J, K, s', e1, e2, u1.trans u2.symm, ⟨c1.mo f2, c2, w⟩, rm_2 f1 f2⟩
theorem og_W {fp : Mem → Option ((Int ⊕ String) × Mem)} {KX : String → Mem → Option (Int × Mem)} {fm : Mem → Option (Int × Mem)} {u : Int} (h : SI I s) (w : SW s') (hc : Tr (fp I) (fun x J => (∃ v : Int, x = .inl v ∧ w32 v = u) ∧ SC J s' ∧ Fm FCl I J)) (hm : ∀ J : Mem, SM J s → Tr (fm J) (fun x K => w32 x = u ∧ SM K s' ∧ K 26 0 7 = 0 ∧ Fm FMo J K)) : OGW (fun I => bndX (fp I) kRet KX) fm I := by
  obtain ⟨r1, J, e1, ⟨v, rfl, hv⟩, c1, f1⟩ := hc
  have lk : ∀ k i q : Nat, k ≠ 29 → (sI J 29 0 0 (w32 v)) k i q = J k i q := fun k i q hk => sI_ne (by omega)
  have s29 : SM (sI J 29 0 0 (w32 v)) s := by
    obtain ⟨a1, ⟨b1, b2, b3⟩, a3, ⟨c1, c2⟩, d1, d2⟩ := h.2.1.cl f1
    refine ⟨GWf.congr a1 (fun q _ => lk 27 0 q (by decide)), ⟨b1, by rw [lk 26 0 6 (by decide)]; exact b2, fun k hk => GWf.congr (b3 k hk) (fun q _ => lk 27 3 _ (by decide))⟩, fun j hj => ?_, ⟨by rw [lk 26 0 20 (by decide)]; exact c1, fun j hj => by rw [lk 27 14 j (by decide)]; exact c2 j hj⟩, by rw [lk 26 0 43 (by decide)]; exact d1, fun j hj => by rw [lk 27 22 j (by decide)]; exact d2 j hj⟩
    have hh := a3 j hj
    cases e : s.2.2.1 j with
    | none => rw [e] at hh; show (sI J 29 0 0 (w32 v)) 28 0 j = 0; rw [lk 28 0 j (by decide)]; exact hh
    | some g => rw [e] at hh; exact ⟨by rw [lk 28 0 j (by decide)]; exact hh.1, GWf.congr hh.2 (fun q _ => lk 27 4 _ (by decide))⟩
  obtain ⟨r2, K, e2, u2, c2, e7, f2⟩ := hm (sI J 29 0 0 (w32 v)) s29
  have f29 : Fm (fun k _ _ => k = 29) J (sI J 29 0 0 (w32 v)) := Fm.sI (by decide) (by omega) (by omega) rfl
  have fall : Fm (fun k _ _ => 26 ≤ k ∧ k < 30) J K := (f29.mono (fun a b c z => by omega)).trans (f2.mono (fun a b c z => by omega))
  have sc : SC K s' := by
    obtain ⟨a1, a2, a3, a4, a5, a6, a7⟩ := c1
    exact ⟨a1.fm fall (fun k i s z q => by unfold FG at z; omega), a2.fm fall (fun t _ k i s z q => by unfold FG at z; omega), a3.fm fall (fun i s => ⟨fun z => by omega, fun z => by omega⟩), a4.fm fall (fun s z => by omega) (fun t _ _ k i s z q => by unfold FG at z; omega), a5.fm fall (fun s z => by omega) (fun t _ _ k i s z q => by unfold FG at z; omega), a6.fm fall (fun z => by omega) (fun s z => by omega), a7.fm fall (fun s z => by omega) (fun s z => by omega)⟩
  refine ⟨0, r2, _, K, s', ?_, e2, by rw [e7], fun _ => ?_, ⟨sc, c2, w⟩, ?_⟩
  · show bndX (fp I) kRet KX = _
    rw [e1]
    rfl
  · rw [f2.at (by decide) (fun z => by omega), sI_self, hv, u2]
  · have hc : Cap K = Cap J := by
      unfold Cap
      rw [fall.at (k := 10) (i := 0) (s := 2) (by decide) (fun z => by omega), show (fun r : Nat => K 2 r 2) = fun r => J 2 r 2 from funext (fun r => fall.at (by decide) (fun z => by omega))]
    have h1 := f1.2
    have h2 := fall.2
    unfold Gr at h1 h2
    unfold Rm
    omega
theorem og_X {fp : Mem → Option ((Int ⊕ String) × Mem)} {KR : Int → Mem → Option (Int × Mem)} {KX : String → Mem → Option (Int × Mem)} {fm : Mem → Option (Int × Mem)} {E : String} {k : Int} (h : SI I s) (e1 : fp I = some (.inr E, thrw I)) (hk : KX E (thrw I) = some (k, thrw I)) (h0 : w32 k ≠ 0) (hm : ∀ J : Mem, SM J s → Tr (fm J) (fun _ K => K 26 0 7 = k ∧ SM K s ∧ Fm FMo J K)) : OGW (fun I => bndX (fp I) KR KX) fm I := by
  obtain ⟨r2, K, e2, h7, c2, f2⟩ := hm _ (h.2.1.lk lk_thrw)
  refine ⟨k, r2, thrw I, K, s, ?_, e2, by rw [h7], fun z => absurd z h0, ⟨(h.1.lk lk_thrw).mo f2, c2, h.2.2⟩, rm_t f2⟩
  show bndX (fp I) KR KX = _
  rw [e1]
  exact hk
/-- what reading and changing the grammar now touches -/
abbrev FOp : FP := fun k i s => FG 0 k i s ∨ FG 1 k i s ∨ k = 3 ∨ k = 4 ∨ k = 5 ∨ k = 16 ∨ k = 17 ∨ k = 18
theorem SC.op {ps : List GS} {kp : Nat → Option GS} {g' : GS} (h : SC I (g, ps, kp, bs, rp)) (f : Fm FOp I J) (g0 : GC J 0 g') (g1 : ∃ x : GS, GC J 1 x) (pt : PTi J) : SC J (g', ps, kp, bs, rp) := by
  obtain ⟨a1, a2, a3, a4, a5, a6, a7⟩ := h
  refine ⟨g0, ?_, pt, a4.fm f (fun s z => by unfold FOp FG at z; omega) (fun t _ _ k i s z q => by unfold FG at z; unfold FOp FG at q; omega), a5.fm f (fun s z => by unfold FOp FG at z; omega) (fun t _ _ k i s z q => by unfold FG at z; unfold FOp FG at q; omega), a6.fm f (fun z => by unfold FOp FG at z; omega) (fun s z => by unfold FOp FG at z; omega), a7.fm f (fun s z => by unfold FOp FG at z; omega) (fun s z => by unfold FOp FG at z; omega)⟩
  refine a2.go f (fun t => t = 0 ∨ t = 1) (fun t _ z => ?_) (fun t _ z k i s q q2 => by unfold FG at q; unfold FOp FG at q2; omega)
  rcases z with rfl | rfl
  · exact ⟨_, g0⟩
  · exact g1
theorem fop_cl : ∀ k i s : Nat, FOp k i s → FCl k i s := fun k i s z => by unfold FOp FG at z; unfold FCl; omega
/-- what the reference's reading and changing touches -/
abbrev FMp : FP := fun k i s => (k = 27 ∧ i ≠ 3 ∧ i ≠ 4 ∧ i ≠ 14 ∧ i ≠ 22) ∨ (k = 26 ∧ s ≠ 6 ∧ s ≠ 20 ∧ s ≠ 43)
theorem SM.op {ps : List GS} {kp : Nat → Option GS} {g' : GS} (h : SM I (g, ps, kp, bs, rp)) (f : Fm FMp I J) (g0 : GW J g') : SM J (g', ps, kp, bs, rp) := by
  obtain ⟨a1, a2, a3, a4, a5⟩ := h
  exact ⟨g0, a2.fm f (by unfold FMp; omega) (fun s => by unfold FMp; omega), a3.fm f (fun s => by unfold FMp; omega) (fun s => by unfold FMp; omega), a4.fm f (by unfold FMp; omega) (fun s => by unfold FMp; omega), a5.fm f (by unfold FMp; omega) (fun s => by unfold FMp; omega)⟩
theorem fmp_mo : ∀ k i s : Nat, FMp k i s → FMo k i s := fun k i s z => by unfold FMp at z; unfold FMo; omega
end ST
end
section
/-! ===== every call that changes, but load and play ===== -/
section MUTS
variable {I J : Mem} {g g' : GS} {ps : List GS} {kp : Nat → Option GS} {bs rp : List Int} {s : SS}
theorem SM.t7 {v : Int} (h : SM J s) : SM (sI J 26 0 7 v) s := by
  obtain ⟨g, ps, kp, bs, rp⟩ := s
  exact h.op (Fm.sI (by decide) (by omega) (by omega) (Or.inr ⟨rfl, by decide, by decide, by decide⟩)) (GWf.congr h.1 (fun q _ => sI_ne (by omega)))
theorem f7_mo {v : Int} : Fm FMo J (sI J 26 0 7 v) := Fm.sI (by decide) (by omega) (by omega) ⟨by decide, by decide⟩
theorem t_outG {w : Int} {e : Option (Int × Mem)} (sm : SM J s) (he : e = some (0, sI (sI J 26 0 7 0) 26 0 7 w)) : Tr e (fun _ K => K 26 0 7 = w ∧ SM K s ∧ Fm FMo J K) := by
  rw [he]
  exact tr_ret ⟨sI_self _ _ _ _ _, sm.t7.t7, f7_mo.trans f7_mo⟩
abbrev FMq : FP := fun k _ s => (26 ≤ k ∧ k < 29) ∧ ¬ (k = 26 ∧ s = 7)
theorem m_endG {e : Option (Int × Mem)} {u : Int} (h : Tr e (fun x K => w32 x = u ∧ SM K s ∧ Fm FMq (sI J 26 0 7 0) K)) : Tr e (fun x K => w32 x = u ∧ SM K s ∧ K 26 0 7 = 0 ∧ Fm FMo J K) := by
  refine tr_mono h (fun x K z => ⟨z.1, z.2.1, ?_, f7_mo.trans (z.2.2.mono (fun a b c q => q.1))⟩)
  rw [z.2.2.at (by decide) (by unfold FMq; omega), sI_self]
theorem m_endI {e : Option (Int × Mem)} {u : Int} (h : Tr e (fun x K => w32 x = u ∧ SM K s ∧ Fm FMq (sI J 26 0 7 0) K)) : Tr e (fun x K => w32 x = u ∧ SM K s ∧ Fm FMo J K) := tr_mono h (fun _ _ z => ⟨z.1, z.2.1, f7_mo.trans (z.2.2.mono (fun _ _ _ q => q.1))⟩)
abbrev FMn : FP := fun k i s => (k = 27 ∧ i ≠ 2 ∧ i ≠ 3 ∧ i ≠ 4 ∧ i ≠ 14 ∧ i ≠ 22) ∨ (k = 26 ∧ s ≠ 6 ∧ s ≠ 7 ∧ s ≠ 20 ∧ s ≠ 43)
theorem fn_p : ∀ k i s : Nat, FMn k i s → FMp k i s := fun k i s z => by unfold FMn at z; unfold FMp; omega
theorem fn_q : ∀ k i s : Nat, FMn k i s → FMq k i s := fun k i s z => by unfold FMn at z; unfold FMq; omega
theorem fn_w : ∀ k i s : Nat, FW k i s → FMn k i s := fun k i s z => by unfold FW at z; unfold FMn; omega
theorem fn_l : ∀ k i s : Nat, FL k i s → FMn k i s := fun k i s z => by unfold FL at z; unfold FMn; omega
theorem fn_mp : ∀ k i s : Nat, FMP k i s → FMn k i s := fun k i s z => by unfold FMP at z; unfold FMn; omega
theorem fn_bp : ∀ k i s : Nat, FBP k i s → FMn k i s := fun k i s z => z.elim (fn_mp k i s) (fn_l k i s)
theorem fn_ms : ∀ k i s : Nat, FMS k i s → FMn k i s := fun k i s z => z.elim (fn_w k i s) (fn_bp k i s)
theorem t_holdG (h : GW J g) : Tr (f_M_holds J) (fun _ K => GW K g ∧ GB K 2 0 g ∧ Fm (fun k i _ => k = 27 ∧ i = 2) J K) := by
  unfold f_M_holds
  refine tr_call (t_mlays (k := 0) (b := 0) (k' := 2) (b' := 0) (I := J) (by decide) (by decide) (by decide) (by decide) (by decide) (by decide) (by decide)) ?_
  rintro _ K ⟨hc, f⟩
  refine tr_ret ⟨h.fm f (fun s _ z => absurd z.2.1 (by decide)), GWf.congr h (fun s hs => ?_), f.mono (fun a b c z => ⟨z.1, z.2.1⟩)⟩
  have := hc s hs
  rw [Nat.zero_add] at this
  rw [Nat.zero_add]
  exact this
theorem m_mutG {now : Mem → Option (Int × Mem)} {x : Int} (sm : SM J (g, ps, kp, bs, rp)) (hx : 0 ≤ w32 x) (hn : ∀ K : Mem, GW K g → Tr (now K) (fun y L => y = x ∧ GW L g' ∧ Fm FMn K L)) : Tr (bnd (f_M_holds (sI J 26 0 7 0)) fun _ J9 => bnd (now J9) fun x13 J12 => bnd (f_M_recorded x13 J12) fun x16 J15 => some (x16, J15)) (fun y K => w32 y = w32 x ∧ SM K (g', pushP ps g, kp, bs, rp) ∧ Fm FMq (sI J 26 0 7 0) K) := by
  have s0 := sm.t7 (v := 0)
  generalize sI J 26 0 7 0 = J0 at s0
  refine tr_call (t_holdG s0.1) ?_
  rintro _ K1 ⟨gw, gb, f1⟩
  refine tr_call (hn K1 gw) ?_
  rintro y K2 ⟨rfl, gw2, f2⟩
  have gb2 : GB K2 2 0 g := gb.fm f2 (fun s _ _ z => by unfold FMn at z; omega)
  have f12 : Fm FMp J0 K2 := (f1.mono (fun a b c z => by unfold FMp; omega)).trans (f2.mono fn_p)
  have s2 := s0.op f12 gw2
  have hrec : Tr (f_M_recorded y K2) (fun z K => z = y ∧ HM K (pushP ps g) ∧ Fm FRb3 K2 K) := by
    unfold f_M_recorded
    rw [if_neg (by omega)]
    refine tr_call (t_mrem (q := 2) (Or.inr rfl) gb2 s2.2.1) ?_
    rintro _ K3 ⟨hm, f3⟩
    exact tr_ret ⟨rfl, hm, f3⟩
  refine tr_call hrec ?_
  rintro _ K3 ⟨rfl, hm, f3⟩
  refine tr_ret ⟨rfl, ⟨gw2.fm f3 (fun s _ z => by unfold FRb3 at z; omega), hm, s2.2.2.1.fm f3 (fun s z => by unfold FRb3 at z; omega) (fun s z => by unfold FRb3 at z; omega), s2.2.2.2.1.fm f3 (fun z => by unfold FRb3 at z; omega) (fun s z => by unfold FRb3 at z; omega), s2.2.2.2.2.fm f3 (fun z => by unfold FRb3 at z; omega) (fun s z => by unfold FRb3 at z; omega)⟩, (f1.mono (fun a b c z => by unfold FMq; omega)).trans ((f2.mono fn_q).trans (f3.mono (fun a b c z => by unfold FRb3 at z; unfold FMq; omega)))⟩
theorem m_mutN {now : Mem → Option (Int × Mem)} {x : Int} (sm : SM J (g, ps, kp, bs, rp)) (hx : w32 x < 0) (hn : ∀ K : Mem, GW K g → Tr (now K) (fun y L => y = x ∧ GW L g ∧ Fm FMn K L)) : Tr (bnd (f_M_holds (sI J 26 0 7 0)) fun _ J9 => bnd (now J9) fun x13 J12 => bnd (f_M_recorded x13 J12) fun x16 J15 => some (x16, J15)) (fun y K => w32 y = w32 x ∧ SM K (g, ps, kp, bs, rp) ∧ Fm FMq (sI J 26 0 7 0) K) := by
  have s0 := sm.t7 (v := 0)
  generalize sI J 26 0 7 0 = J0 at s0
  refine tr_call (t_holdG s0.1) ?_
  rintro _ K1 ⟨gw, gb, f1⟩
  refine tr_call (hn K1 gw) ?_
  rintro y K2 ⟨rfl, gw2, f2⟩
  unfold f_M_recorded
  rw [if_pos hx, bnd_some]
  exact tr_ret ⟨rfl, s0.op ((f1.mono (fun a b c z => by unfold FMp; omega)).trans (f2.mono fn_p)) gw2, (f1.mono (fun a b c z => by unfold FMq; omega)).trans (f2.mono fn_q)⟩
theorem c_mut {α : Type} {op : Mem → Option (α × Mem)} {R : α → Prop} (h : SC I (g, ps, kp, bs, rp)) (hop : ∀ J : Mem, GC J 0 g → PTi J → (∃ x : GS, GC J 1 x) → Tr (op J) (fun x K => R x ∧ GC K 0 g' ∧ (∃ x : GS, GC K 1 x) ∧ PTi K ∧ Fm FOp J K)) : Tr (bnd (f_His_remember 0 I) fun _ J => op J) (fun x K => R x ∧ SC K (g', pushP ps g, kp, bs, rp) ∧ Fm FCl I K) := by
  obtain ⟨a1, a2, a3, a4, a5, a6, a7⟩ := h
  refine tr_call (t_hrem a1 a2 a4) ?_
  rintro _ J1 ⟨hc, ag, f1⟩
  have n1 : ∀ k i s : Nat, FHis k i s → k ∈ [1, 2, 9, 12, 14, 15] ∧ (k = 9 ∨ ∃ t : Nat, 2 ≤ t ∧ t < 10 ∧ FG t k i s) := fun k i s z => by
    rcases z with ⟨t, h1, h2, h3⟩ | rfl
    · refine ⟨?_, Or.inr ⟨t, h1, h2, h3⟩⟩
      unfold FG at h3
      rcases h3 with ⟨rfl | rfl, _⟩ | ⟨rfl | rfl | rfl, _⟩ <;> decide
    · exact ⟨by decide, Or.inl rfl⟩
  have nk : ∀ q : Nat, q ∉ [1, 2, 9, 12, 14, 15] → ∀ i s : Nat, ¬ FHis q i s := fun q hq i s z => hq (n1 q i s z).1
  have ng : ∀ t : Nat, (t < 2 ∨ 10 ≤ t) → ∀ k i s : Nat, FG t k i s → ¬ FHis k i s := fun t ht k i s z q => by
    rcases (n1 k i s q).2 with rfl | ⟨u, h1, h2, h3⟩
    · unfold FG at z; omega
    · clear q n1 nk
      unfold FG at z h3; omega
  have sc : SC J1 (g, pushP ps g, kp, bs, rp) := ⟨a1.fm f1 (ng 0 (by omega)), ag, a3.fm f1 (fun i s => ⟨nk 4 (by decide) i s, nk 16 (by decide) i s⟩), hc, a5.fm f1 (fun s => nk 24 (by decide) 0 s) (fun t h1 _ => ng t (by omega)), a6.fm f1 (nk 6 (by decide) 0 1) (fun s => nk 19 (by decide) 0 s), a7.fm f1 (fun s => nk 10 (by decide) 0 s) (fun s => nk 25 (by decide) 0 s)⟩
  refine tr_mono (hop J1 sc.1 sc.2.2.1 (ag 1 (by decide))) ?_
  rintro x K ⟨hR, g0, g1, pt, f2⟩
  refine ⟨hR, sc.op f2 g0 g1 pt, (f1.mono (fun k i s z => ?_)).trans (f2.mono fop_cl)⟩
  have := (n1 k i s z).1
  simp at this
  show k < 26
  omega
theorem SW.mut (h : SW (g, ps, kp, bs, rp)) (w : WF g') : SW (g', pushP ps g, kp, bs, rp) := ⟨w, pushP_wf h.2.1 h.1, h.2.2⟩
theorem fo_g : ∀ k i s : Nat, FG 0 k i s → FOp k i s := fun _ _ _ z => Or.inl z
theorem fo_g1 : ∀ k i s : Nat, FG 1 k i s → FOp k i s := fun _ _ _ z => Or.inr (Or.inl z)
theorem fo_p : ∀ k i s : Nat, FPA k i s → FOp k i s := fun k i s z => by unfold FPA at z; unfold FOp; omega
theorem fo_s : ∀ k i s : Nat, FST 0 k i s → FOp k i s := fun k i s z => by
  rcases z with z | z | z
  · exact Or.inl z
  · unfold FOp; omega
  · exact fo_p k i s z
theorem fo_s1 : ∀ k i s : Nat, FST 1 k i s → FOp k i s := fun k i s z => by
  rcases z with z | z | z
  · exact Or.inr (Or.inl z)
  · unfold FOp; omega
  · exact fo_p k i s z
theorem fo_u : ∀ k i s : Nat, FGU 0 k i s → FOp k i s := fun k i s z => by
  rcases z with z | z
  · exact Or.inl z
  · unfold FOp; omega
theorem fo_u1 : ∀ k i s : Nat, FGU 1 k i s → FOp k i s := fun k i s z => by
  rcases z with z | z
  · exact Or.inr (Or.inl z)
  · unfold FOp; omega
theorem fo_v : ∀ k i s : Nat, FSV k i s → FOp k i s := fun k i s z => by unfold FSV at z; unfold FOp; omega
theorem g1_fm {F : FP} (h : ∃ x : GS, GC I 1 x) (f : Fm F I J) (hn : ∀ k i s : Nat, FG 1 k i s → ¬ F k i s) : ∃ x : GS, GC J 1 x := by
  obtain ⟨x, hx⟩ := h
  exact ⟨x, hx.fm f hn⟩
theorem pt_g {t : Nat} (h : PTi I) (f : Fm (FG t) I J) : PTi J := h.fm f (fun i s => ⟨fun z => by unfold FG at z; omega, fun z => by unfold FG at z; omega⟩)
theorem og_27 (h : SI I s) (a1 : Int) (h1 : w32 a1 = a1) : OGW (f_L_step a1) (f_M_step a1) I := by
  obtain ⟨g, ps, kp, bs, rp⟩ := s
  have w : WF g := h.2.2.1
  by_cases hr : 1 ≤ a1 ∧ a1 < 51
  · obtain ⟨n, rfl, hn⟩ : ∃ n : Nat, a1 = (n : Int) ∧ n < 51 := ⟨a1.toNat, by omega, by omega⟩
    have hb : ((stepsG n g).1 : Int) ≤ n := by
      have key : ∀ (n : Nat) (g : GS), (stepsG n g).1 ≤ n := by
        intro n
        induction n with
        | zero => intro g; exact Nat.le_refl 0
        | succ n ih =>
          intro g
          by_cases q : bestP g = -1
          · rw [stepsG_none q]; exact Nat.zero_le _
          · rw [stepsG_some q]; have := ih (stG g); show _ + 1 ≤ n + 1; omega
      have := key n g
      omega
    refine og_W (fp := f_PR_step (n : Int)) (u := w32 ((stepsG n g).1 : Int)) h (h.2.2.mut (stepsG_wf n w)) ?_ (fun J sm => m_endG ?_)
    · unfold f_PR_step
      rw [h1, if_neg (by omega), if_neg (by omega)]
      refine c_mut (R := fun x : Int ⊕ String => ∃ v : Int, x = .inl v ∧ w32 v = w32 ((stepsG n g).1 : Int)) h.1 (fun J g0 pt g1 => ?_)
      refine tr_call (t_makeSteps g0 w pt (by omega)) ?_
      rintro x K ⟨rfl, gc, -, pt2, f⟩
      exact tr_ret ⟨⟨_, rfl, rfl⟩, gc, g1_fm g1 f (fun k i s z q => by unfold FG at z; unfold FST FG FPA at q; omega), pt2, f.mono fo_s⟩
    · unfold f_M_step
      try dsimp only [ltI]
      rw [chk_in (sI_self _ _ _ _ _) (by rw [h1, w32c 1 (by decide), w32c 50 (by decide)]; omega)]
      exact m_mutG (now := f_M_stepsMany (n : Int)) sm (by rw [w32_of (by omega) (by omega)]; omega) (fun K gw => tr_mono (t_mstepsMany gw w (by omega)) (fun _ _ z => ⟨z.1, z.2.1, z.2.2.mono fn_ms⟩))
  · refine og_X (fp := f_PR_step a1) (E := xIA) (k := 1) h ?_ (if_pos rfl) (by decide) (fun J sm => ?_)
    · unfold f_PR_step
      rw [h1]
      by_cases q : a1 < 1
      · rw [if_pos q]
      · rw [if_neg q, if_pos (by omega)]
    · unfold f_M_step
      exact t_outG sm (chk_out (sI_self _ _ _ _ _) (Or.inl rfl) (by rw [h1, w32c 1 (by decide), w32c 50 (by decide)]; omega))
theorem inlG_le : ∀ (n : Nat) (g : GS), (inlG n g).1 ≤ n
  | 0, _ => Nat.le_refl 0
  | n + 1, g => by
    by_cases q : gLonely g = -1
    · rw [inlG_none q]; exact Nat.zero_le _
    · rw [inlG_some q]
      have := inlG_le n (gDis g (gLonely g).toNat (if 0 < gUses g (gLonely g).toNat then 2 else 3))
      show _ + 1 ≤ n + 1
      omega
theorem og_28 (h : SI I s) : OGI f_PR_inline f_M_inline I := by
  obtain ⟨g, ps, kp, bs, rp⟩ := s
  have w : WF g := h.2.2.1
  have hb := inlG_le 40 g
  refine og_I (u := w32 ((inlG 40 g).1 : Int)) h (h.2.2.mut (mu_inl 40 w).2) ?_ (fun J sm => m_endI ?_)
  · unfold f_PR_inline
    refine c_mut (R := fun x => w32 x = w32 ((inlG 40 g).1 : Int)) h.1 (fun J g0 pt g1 => ?_)
    refine tr_call (t_inlineAll g0 w) ?_
    rintro x K ⟨rfl, gc, -, f⟩
    exact tr_ret ⟨rfl, gc, g1_fm g1 f (fun k i s z q => by unfold FG at z; unfold FGU FG at q; omega), pt.fgu f, f.mono fo_u⟩
  · unfold f_M_inline
    try dsimp only [ltI]
    exact m_mutG (now := f_M_inlines) sm (by rw [w32_of (by omega) (by omega)]; omega) (fun K gw => tr_mono (t_minlines gw w) (fun _ _ z => ⟨z.1, z.2.1, z.2.2.mono fn_w⟩))
/-- two symbols out of range -/
theorem pair_xG {fp : Int → Int → Mem → Option ((Int ⊕ String) × Mem)} {fm : Int → Int → Mem → Option (Int × Mem)} {a1 a2 : Int} (h : SI I s) (h1 : w32 a1 = a1) (h2 : w32 a2 = a2) (hr : ¬ ((0 ≤ a1 ∧ a1 < 66) ∧ 0 ≤ a2 ∧ a2 < 66))
    (hc : ∀ x y : Int, f_PR_isSymbol a1 I = some (x, I) → f_PR_isSymbol a2 I = some (y, I) → w32 x = 0 ∨ w32 x ≠ 0 ∧ w32 y = 0 → fp a1 a2 I = some (.inr xIA, thrw I))
    (hm : ∀ J : Mem, f_M_noPair a1 a2 (sI J 26 0 7 0) = some (1, sI (sI J 26 0 7 0) 26 0 7 1) → fm a1 a2 J = some (0, sI (sI J 26 0 7 0) 26 0 7 1))
    {KR : Int → Mem → Option (Int × Mem)} {KX : String → Mem → Option (Int × Mem)} (hk : KX xIA (thrw I) = some (1, thrw I)) : OGW (fun I => bndX (fp a1 a2 I) KR KX) (fm a1 a2) I := by
  have hb := w32_rng a1
  rw [h1] at hb
  have hb2 := w32_rng a2
  rw [h2] at hb2
  refine og_X (fp := fp a1 a2) (E := xIA) (k := 1) h ?_ hk (by decide) (fun J sm => ?_)
  · refine hc _ _ (p_isSymbol hb.1 hb.2) (p_isSymbol hb2.1 hb2.2) ?_
    by_cases q : 0 ≤ a1 ∧ a1 < 66
    · exact Or.inr ⟨by rw [bI_pos q]; decide, by rw [bI_neg (fun z => hr ⟨q, z⟩)]; decide⟩
    · exact Or.inl (by rw [bI_neg q]; decide)
  · exact t_outG sm (hm _ (m_noPair0 (sI_self _ _ _ _ _) h1 h2 hr))
/-- what asks why a pair can't be made -/
theorem t_refusal (h : SC I (g, ps, kp, bs, rp)) (w : WF g) {a b : Int} (ha : 0 ≤ a ∧ a < 66) (hb : 0 ≤ b ∧ b < 66) : Tr (f_PR_refusalOfMake a b I) (fun x J => (mkC g a b < 0 ∧ x = mkC g a b ∨ 0 ≤ mkC g a b ∧ x = 0) ∧ SC J (g, ps, kp, bs, rp) ∧ Fm FOp I J) := by
  obtain ⟨p, hp, e1, e2⟩ := nat_pair (a := a) (b := b) ⟨ha, hb⟩
  unfold f_PR_refusalOfMake
  by_cases q1 : symOK g a
  · rw [g_hasSymbol h.1 ha, bI_pos q1, bnd_some, if_neg (by decide)]
    by_cases q2 : symOK g b
    · rw [g_hasSymbol h.1 hb, bI_pos q2, bnd_some, if_neg (by decide)]
      refine tr_call (t_readFrom h.1 w h.2.2.1) ?_
      rintro _ J ⟨pd, pt, gc, f⟩
      have sc : SC J (g, ps, kp, bs, rp) := h.op (f.mono fo_p) gc (g1_fm (h.2.1 1 (by decide)) f (fun k i s z q => by unfold FG at z; unfold FPA at q; omega)) pt
      have cr := cz_rng g p zE
      have kr := kz_rng g p 40
      have ez := zE_eq
      have ekk : kz g p 40 = gKept g a b := by
        unfold kz gKept
        rw [show ((p / 66 : Nat) : Int) = a by omega, show ((p % 66 : Nat) : Int) = b by omega]
      rw [p_pairOf ha hb, bnd_some, e1, p_countOf pd.1 hp, bnd_some, w32_of (x := cz g p zE) (by omega) (by omega), mkC_pos ⟨q1, q2⟩, e2, Int.toNat_natCast]
      by_cases qc : cz g p zE = 0
      · rw [if_pos qc, if_pos qc]
        exact tr_ret ⟨Or.inl ⟨by decide, rfl⟩, sc, f.mono fo_p⟩
      · rw [if_neg qc, if_neg qc, p_keptOf pd.1 hp, bnd_some, w32_of (x := kz g p 40) (by omega) (by omega), ekk]
        unfold gRule
        by_cases qk : gKept g a b = -1
        · rw [if_pos qk, if_pos qk, g_lowestFree gc, bnd_some]
          have fr := gFree_rng g
          rw [w32_of (x := gFree g) (by omega) (by omega)]
          by_cases qf : gFree g = -1
          · rw [if_pos qf, if_pos qf]
            exact tr_ret ⟨Or.inl ⟨by decide, rfl⟩, sc, f.mono fo_p⟩
          · rw [if_neg qf, if_neg qf]
            exact tr_ret ⟨Or.inr ⟨by omega, rfl⟩, sc, f.mono fo_p⟩
        · rw [if_neg qk, if_neg qk, if_neg qk]
          exact tr_ret ⟨Or.inr ⟨by rw [← ekk] at qk ⊢; omega, rfl⟩, sc, f.mono fo_p⟩
    · rw [g_hasSymbol h.1 hb, bI_neg q2, bnd_some, if_pos (by decide), mkC_neg (fun z => q2 z.2)]
      exact tr_ret ⟨Or.inl ⟨by decide, rfl⟩, h, Fm.refl _ _⟩
  · rw [g_hasSymbol h.1 ha, bI_neg q1, bnd_some, if_pos (by decide), mkC_neg (fun z => q1 z.1)]
    exact tr_ret ⟨Or.inl ⟨by decide, rfl⟩, h, Fm.refl _ _⟩
theorem mkC_rng {a b : Int} : -7 ≤ mkC g a b ∧ mkC g a b < 40 := by
  have hr := gRule_rng g a b
  by_cases q : symOK g a ∧ symOK g b
  · rw [mkC_pos q]
    by_cases q1 : cz g (66 * a + b).toNat zE = 0
    · rw [if_pos q1]; decide
    · rw [if_neg q1]
      by_cases q2 : gRule g a b = -1
      · rw [if_pos q2]; decide
      · rw [if_neg q2]
        rcases hr with z | ⟨r, z1, z2⟩
        · exact absurd z q2
        · omega
  · rw [mkC_neg q]; decide
theorem mkC_rule {a b : Int} (h : 0 ≤ mkC g a b) : mkC g a b = gRule g a b := by
  by_cases q : symOK g a ∧ symOK g b
  · rw [mkC_pos q] at h ⊢
    by_cases q1 : cz g (66 * a + b).toNat zE = 0
    · rw [if_pos q1] at h; omega
    · rw [if_neg q1] at h ⊢
      by_cases q2 : gRule g a b = -1
      · rw [if_pos q2] at h; omega
      · rw [if_neg q2]
  · rw [mkC_neg q] at h; omega
theorem og_29 (h : SI I s) (a1 a2 : Int) (h1 : w32 a1 = a1) (h2 : w32 a2 = a2) : OGW (f_L_make a1 a2) (f_M_make a1 a2) I := by
  obtain ⟨g, ps, kp, bs, rp⟩ := s
  have w : WF g := h.2.2.1
  by_cases hr : (0 ≤ a1 ∧ a1 < 66) ∧ 0 ≤ a2 ∧ a2 < 66
  · have mr := mkC_rng (g := g) (a := a1) (b := a2)
    have wm : w32 (mkC g a1 a2) = mkC g a1 a2 := w32_of (by omega) (by omega)
    by_cases hm : mkC g a1 a2 < 0
    · have es : mkS g a1 a2 = g := if_pos hm
      refine og_W (fp := f_PR_make a1 a2) (s' := (g, ps, kp, bs, rp)) (u := w32 (mkC g a1 a2)) h h.2.2 ?_ (fun J sm => m_endG ?_)
      · unfold f_PR_make
        rw [sym_in h1 hr.1, bnd_some, if_neg (by decide), sym_in h2 hr.2, bnd_some, if_neg (by decide)]
        refine tr_call (t_refusal h.1 w hr.1 hr.2) ?_
        rintro x K ⟨z | z, sc, f⟩
        · rw [z.2, wm, if_pos hm]
          exact tr_ret ⟨⟨_, rfl, wm⟩, sc, f.mono fop_cl⟩
        · omega
      · unfold f_M_make
        try dsimp only [ltI]
        rw [m_noPair1 (sI_self _ _ _ _ _) h1 h2 hr, bnd_some, if_pos (by decide)]
        refine m_mutN (now := f_M_makeNow a1 a2) sm (by omega) (fun K gw => tr_mono (t_mmakeNow gw w hr.1 hr.2) (fun _ _ z => ⟨z.1, ?_, z.2.2.mono fn_ms⟩))
        have := z.2.1
        rwa [es] at this
    · have es : mkS g a1 a2 = gJoin g a1 a2 := if_neg hm
      refine og_W (fp := f_PR_make a1 a2) (s' := (gJoin g a1 a2, pushP ps g, kp, bs, rp)) (u := w32 (mkC g a1 a2)) h (h.2.2.mut (by rw [← es]; exact w.mkS hr.1 hr.2)) ?_ (fun J sm => m_endG ?_)
      · unfold f_PR_make
        rw [sym_in h1 hr.1, bnd_some, if_neg (by decide), sym_in h2 hr.2, bnd_some, if_neg (by decide)]
        refine tr_call (t_refusal h.1 w hr.1 hr.2) ?_
        rintro x K ⟨z | z, sc, f⟩
        · omega
        · rw [z.2, if_neg (by decide)]
          refine tr_mono (c_mut (R := fun x : Int ⊕ String => ∃ v : Int, x = .inl v ∧ w32 v = w32 (mkC g a1 a2)) (g' := gJoin g a1 a2) sc (fun J g0 pt g1 => ?_)) (fun x L z => ⟨z.1, z.2.1, (f.mono fop_cl).trans z.2.2⟩)
          refine tr_call (t_gjoin g0 (fun i hi => w.sy hi) hr.1 hr.2) ?_
          rintro x L ⟨rfl, gc, f2⟩
          exact tr_ret ⟨⟨_, rfl, by rw [mkC_rule (by omega)]⟩, gc, g1_fm g1 f2 (fun k i s z q => by unfold FG at z q; omega), pt_g pt f2, f2.mono fo_g⟩
      · unfold f_M_make
        try dsimp only [ltI]
        rw [m_noPair1 (sI_self _ _ _ _ _) h1 h2 hr, bnd_some, if_pos (by decide)]
        refine m_mutG (now := f_M_makeNow a1 a2) sm (by omega) (fun K gw => tr_mono (t_mmakeNow gw w hr.1 hr.2) (fun _ _ z => ⟨z.1, ?_, z.2.2.mono fn_ms⟩))
        have := z.2.1
        rwa [es] at this
  · refine pair_xG (fp := f_PR_make) (fm := f_M_make) h h1 h2 hr (fun x y ex ey z => ?_) (fun J e => ?_) (if_pos rfl)
    · unfold f_PR_make
      rw [ex, bnd_some]
      rcases z with z | ⟨z1, z2⟩
      · rw [if_pos z]
      · rw [if_neg z1, ey, bnd_some, if_pos z2]
    · unfold f_M_make
      try dsimp only [ltI]
      rw [e, bnd_some, if_neg (by decide)]
end MUTS
end
section
/-! ===== every call that changes, second part ===== -/
section MUTS2
variable {I J : Mem} {g g' : GS} {ps : List GS} {kp : Nat → Option GS} {bs rp : List Int} {s : SS}
theorem m_ruleIn (h7 : J 26 0 7 = 0) {a1 : Int} (h1 : w32 a1 = a1) (hr : 0 ≤ a1 ∧ a1 < 40) : f_M_noRule a1 J = some (0, J) := m_noRule1 h7 h1 hr
theorem og_30 (h : SI I s) (a1 : Int) (h1 : w32 a1 = a1) : OGW (f_L_expand a1) (f_M_expand a1) I := by
  obtain ⟨g, ps, kp, bs, rp⟩ := s
  have w : WF g := h.2.2.1
  by_cases hr : 0 ≤ a1 ∧ a1 < 40
  · obtain ⟨j, rfl, hj⟩ : ∃ j : Nat, a1 = (j : Int) ∧ j < 40 := ⟨a1.toNat, by omega, by omega⟩
    by_cases hn : gR g (j + 1) = []
    · refine og_W (fp := f_PR_expand (j : Int)) (s' := (g, ps, kp, bs, rp)) (u := w32 (-4)) h h.2.2 ?_ (fun J sm => m_endG ?_)
      · unfold f_PR_expand
        rw [h1, if_neg (by omega), if_pos (by omega), g_hasRule h.1.1 hj, bI_neg (fun z => z hn), bnd_some, if_pos (by decide)]
        exact tr_ret ⟨⟨_, rfl, rfl⟩, h.1, Fm.refl _ _⟩
      · unfold f_M_expand
        try dsimp only [ltI]
        rw [m_ruleIn (sI_self _ _ _ _ _) h1 (by omega), bnd_some, if_pos (by decide)]
        refine m_mutN (now := f_M_expandNow (j : Int)) sm (by decide) (fun K gw => tr_mono (t_mexpandNow gw w hj) (fun _ _ z => ?_))
        rcases z with ⟨z | z, f⟩
        · exact ⟨z.2.1, z.2.2, f.mono fn_w⟩
        · exact absurd hn z.1
    · refine og_W (fp := f_PR_expand (j : Int)) (s' := (gDis g j 4, pushP ps g, kp, bs, rp)) (u := w32 (gUses g j)) h (h.2.2.mut (w.dis hj hn 4)) ?_ (fun J sm => m_endG ?_)
      · unfold f_PR_expand
        rw [h1, if_neg (by omega), if_pos (by omega), g_hasRule h.1.1 hj, bI_pos hn, bnd_some, if_neg (by decide)]
        refine c_mut (R := fun x : Int ⊕ String => ∃ v : Int, x = .inl v ∧ w32 v = w32 (gUses g j)) h.1 (fun J g0 pt g1 => ?_)
        rw [show (4 : Int) = ((4 : Nat) : Int) from rfl]
        refine tr_call (t_dissolve g0 w hj hn (c := 4) (by decide)) ?_
        rintro x K ⟨rfl, gc, f⟩
        exact tr_ret ⟨⟨_, rfl, rfl⟩, gc, g1_fm g1 f (fun k i s z q => by unfold FG at z q; omega), pt_g pt f, f.mono fo_g⟩
      · have ur : 0 ≤ gUses g j ∧ gUses g j ≤ 16400 := gUses_rng h.1.1 j
        unfold f_M_expand
        try dsimp only [ltI]
        rw [m_ruleIn (sI_self _ _ _ _ _) h1 (by omega), bnd_some, if_pos (by decide)]
        refine m_mutG (now := f_M_expandNow (j : Int)) sm (by rw [w32_of (by omega) (by omega)]; omega) (fun K gw => tr_mono (t_mexpandNow gw w hj) (fun _ _ z => ?_))
        rcases z with ⟨z | z, f⟩
        · exact absurd z.1 hn
        · exact ⟨z.2.1, z.2.2, f.mono fn_w⟩
  · refine og_X (fp := f_PR_expand a1) (E := xIO) (k := 1) h ?_ (if_pos rfl) (by decide) (fun J sm => ?_)
    · unfold f_PR_expand
      rw [h1]
      by_cases q : a1 < 0
      · rw [if_pos q]
      · rw [if_neg q, if_neg (by omega)]
    · unfold f_M_expand
      try dsimp only [ltI]
      rw [m_noRule0 (sI_self _ _ _ _ _) h1 hr, bnd_some, if_neg (by decide)]
      exact t_outG sm rfl
theorem WF.app (w : WF g) (hl : (gT g).length < 400) {a : Int} (ha : 0 ≤ a ∧ a < 26) : WF (gAppend g a) := by
  obtain ⟨a1, a2, a3, a4, a5, a6⟩ := w
  have hR : ∀ i : Nat, gR (gAppend g a) i = if i = 0 then gR g 0 ++ [a] else gR g i := fun i => by
    show up (gR g) 0 (gR g 0 ++ [a]) i = _
    by_cases q : i = 0
    · rw [if_pos q, q, up_self]
    · rw [if_neg q, up_ne q]
  have hs : ∀ x : Int, SYr (gR g) x → SYr (gR (gAppend g a)) x := fun x hx => ⟨hx.1, hx.2.1, fun h26 => by rw [hR, if_neg (by omega)]; exact hx.2.2 h26⟩
  refine ⟨fun i hi x hx => ?_, fun r hr hn => ?_, ?_, ?_, ?_, a6⟩
  · rw [hR] at hx
    by_cases q : i = 0
    · rw [if_pos q] at hx
      rcases List.mem_append.mp hx with z | z
      · exact hs x (a1 0 (by decide) x z)
      · rw [List.mem_singleton.mp z]
        exact ⟨ha.1, by omega, fun h26 => by omega⟩
    · rw [if_neg q] at hx
      exact hs x (a1 i hi x hx)
  · rw [hR, if_neg (by omega)] at hn ⊢
    exact a2 r hr hn
  · rw [hR, if_pos rfl]
    show ll (gL g) (gR g 0 ++ [a]) = ((gT g ++ [a]).length : Int)
    rw [ll_app, a3, ll_cons, ll_nil, List.length_append]
    unfold sl
    rw [if_pos ha.2]
    show _ = (((gT g).length + 1 : Nat) : Int)
    omega
  · show 1 ≤ (gT g ++ [a]).length
    rw [List.length_append]
    show 1 ≤ (gT g).length + 1
    omega
  · show (gT g ++ [a]).length ≤ 400
    rw [List.length_append]
    show (gT g).length + 1 ≤ 400
    omega
theorem og_31 (h : SI I s) (a1 : Int) (h1 : w32 a1 = a1) : OGW (f_L_append a1) (f_M_append a1) I := by
  obtain ⟨g, ps, kp, bs, rp⟩ := s
  have w : WF g := h.2.2.1
  have hb := w32_rng a1
  rw [h1] at hb
  have hT : ll (gL g) (gR g 0) = (gT g).length := w.2.2.1
  have hT4 : (gT g).length ≤ 400 := w.2.2.2.2.1
  by_cases hr : 0 ≤ a1 ∧ a1 < 26
  · by_cases hf : (gT g).length < 400
    · refine og_W (fp := f_PR_append a1) (s' := (gAppend g a1, pushP ps g, kp, bs, rp)) (u := w32 (((gT g).length : Int) + 1)) h (h.2.2.mut (w.app hf hr)) ?_ (fun J sm => m_endG ?_)
      · unfold f_PR_append
        rw [p_isLetter hb.1 hb.2, bI_pos hr, bnd_some, if_neg (by decide), g_textLength h.1.1 (fun i hi => w.sy hi), bnd_some, hT, w32_of (x := ((gT g).length : Int)) (by omega) (by omega), if_pos (by omega)]
        refine c_mut (R := fun x : Int ⊕ String => ∃ v : Int, x = .inl v ∧ w32 v = w32 (((gT g).length : Int) + 1)) h.1 (fun J g0 pt g1 => ?_)
        have l0 := (w.lle (i := 0) (by decide)).1
        refine tr_call (t_addLetter g0 (by omega) hf a1) ?_
        rintro _ K ⟨gc, f⟩
        have w2 := w.app hf hr
        rw [g_textLength gc (fun i hi => w2.sy hi), bnd_some, w2.2.2.1]
        refine tr_ret ⟨⟨_, rfl, ?_⟩, gc, g1_fm g1 f (fun k i s z q => by unfold FG at z q; omega), pt_g pt f, f.mono fo_g⟩
        show w32 ((gT g ++ [a1]).length : Int) = _
        rw [List.length_append]
        rfl
      · unfold f_M_append
        try dsimp only [ltI]
        rw [chk_in (sI_self _ _ _ _ _) (by rw [h1, w0, w32c 25 (by decide)]; omega)]
        have l0 := (w.lle (i := 0) (by decide)).1
        exact m_mutG (now := f_M_appendNow a1) sm (by rw [w32_of (by omega) (by omega)]; omega) (fun K gw => tr_mono (t_mappendNow gw (by omega) hf a1) (fun _ _ z => ⟨z.1, z.2.1, z.2.2.mono fn_w⟩))
    · refine og_W (fp := f_PR_append a1) (s' := (g, ps, kp, bs, rp)) (u := w32 (-5)) h h.2.2 ?_ (fun J sm => m_endG ?_)
      · unfold f_PR_append
        rw [p_isLetter hb.1 hb.2, bI_pos hr, bnd_some, if_neg (by decide), g_textLength h.1.1 (fun i hi => w.sy hi), bnd_some, hT, w32_of (x := ((gT g).length : Int)) (by omega) (by omega), if_neg (by omega)]
        exact tr_ret ⟨⟨_, rfl, rfl⟩, h.1, Fm.refl _ _⟩
      · unfold f_M_append
        try dsimp only [ltI]
        rw [chk_in (sI_self _ _ _ _ _) (by rw [h1, w0, w32c 25 (by decide)]; omega)]
        refine m_mutN (now := f_M_appendNow a1) sm (by decide) (fun K gw => ?_)
        have e3 : K 27 0 3 = ((gT g).length : Int) := gw.2.1
        unfold f_M_appendNow
        rw [e3, w32_of (x := ((gT g).length : Int)) (by omega) (by omega), if_pos (by omega)]
        exact tr_ret ⟨rfl, gw, Fm.refl _ _⟩
  · refine og_X (fp := f_PR_append a1) (E := xIA) (k := 1) h ?_ (if_pos rfl) (by decide) (fun J sm => ?_)
    · unfold f_PR_append
      rw [p_isLetter hb.1 hb.2, bI_neg hr, bnd_some, if_pos (by decide)]
    · unfold f_M_append
      exact t_outG sm (chk_out (sI_self _ _ _ _ _) (Or.inl rfl) (by rw [h1, w0, w32c 25 (by decide)]; omega))
theorem og_32 (h : SI I s) (a1 : Int) (h1 : w32 a1 = a1) : OGW (f_L_cut a1) (f_M_cut a1) I := by
  obtain ⟨g, ps, kp, bs, rp⟩ := s
  have w : WF g := h.2.2.1
  have hT : ll (gL g) (gR g 0) = (gT g).length := w.2.2.1
  have hT4 : (gT g).length ≤ 400 := w.2.2.2.2.1
  by_cases hr : 1 ≤ a1 ∧ a1 < 401
  · obtain ⟨m, rfl, hm⟩ : ∃ m : Nat, a1 = (m : Int) ∧ m < 401 := ⟨a1.toNat, by omega, by omega⟩
    by_cases hf : m < (gT g).length
    · have w2 := w.cut hf
      have l2 := w2.len400 0 (by decide)
      refine og_W (fp := f_PR_cut (m : Int)) (s' := (gCut g m, pushP ps g, kp, bs, rp)) (u := w32 ((gR (gCut g m) 0).length : Int)) h (h.2.2.mut w2) ?_ (fun J sm => m_endG ?_)
      · unfold f_PR_cut
        rw [h1, if_neg (by omega), if_neg (by omega), g_textLength h.1.1 (fun i hi => w.sy hi), bnd_some, hT, w32_of (x := ((gT g).length : Int)) (by omega) (by omega), if_pos (by omega)]
        refine c_mut (R := fun x : Int ⊕ String => ∃ v : Int, x = .inl v ∧ w32 v = w32 ((gR (gCut g m) 0).length : Int)) h.1 (fun J g0 pt g1 => ?_)
        refine tr_call (t_dropLetters g0 w (by omega) hf) ?_
        rintro _ K ⟨gc, f⟩
        have e1 : K 2 (43 * 0) 1 = ((gR (gCut g m) 0).length : Int) := (gc.2.1 0 (by decide)).2.1
        exact tr_ret ⟨⟨_, rfl, by rw [e1]⟩, gc, g1_fm g1 f (fun k i s z q => by unfold FG at z q; omega), pt_g pt f, f.mono fo_g⟩
      · unfold f_M_cut
        try dsimp only [ltI]
        rw [chk_in (sI_self _ _ _ _ _) (by rw [h1, w32c 1 (by decide), w32c 400 (by decide)]; omega)]
        exact m_mutG (now := f_M_cutNow (m : Int)) sm (by rw [w32_of (by omega) (by omega)]; omega) (fun K gw => tr_mono (t_mcutNow gw w (by omega) hf) (fun _ _ z => ⟨z.1, z.2.1, z.2.2.mono fn_ms⟩))
    · refine og_W (fp := f_PR_cut (m : Int)) (s' := (g, ps, kp, bs, rp)) (u := w32 (-6)) h h.2.2 ?_ (fun J sm => m_endG ?_)
      · unfold f_PR_cut
        rw [h1, if_neg (by omega), if_neg (by omega), g_textLength h.1.1 (fun i hi => w.sy hi), bnd_some, hT, w32_of (x := ((gT g).length : Int)) (by omega) (by omega), if_neg (by omega)]
        exact tr_ret ⟨⟨_, rfl, rfl⟩, h.1, Fm.refl _ _⟩
      · unfold f_M_cut
        try dsimp only [ltI]
        rw [chk_in (sI_self _ _ _ _ _) (by rw [h1, w32c 1 (by decide), w32c 400 (by decide)]; omega)]
        refine m_mutN (now := f_M_cutNow (m : Int)) sm (by decide) (fun K gw => ?_)
        have e3 : K 27 0 3 = ((gT g).length : Int) := gw.2.1
        unfold f_M_cutNow
        rw [e3, h1, w32_of (x := ((gT g).length : Int)) (by omega) (by omega), if_neg (by omega)]
        exact tr_ret ⟨rfl, gw, Fm.refl _ _⟩
  · refine og_X (fp := f_PR_cut a1) (E := xIA) (k := 1) h ?_ (if_pos rfl) (by decide) (fun J sm => ?_)
    · unfold f_PR_cut
      rw [h1]
      by_cases q : a1 < 1
      · rw [if_pos q]
      · rw [if_neg q, if_pos (by omega)]
    · unfold f_M_cut
      exact t_outG sm (chk_out (sI_self _ _ _ _ _) (Or.inl rfl) (by rw [h1, w32c 1 (by decide), w32c 400 (by decide)]; omega))
theorem WF_gN (w : WF g) {j : Nat} {v : Int} (h : (j = 0 → 2 ≤ v ∧ v ≤ 9) ∧ (j = 1 → 0 ≤ v ∧ v ≤ 2) ∧ (j = 2 → 0 ≤ v ∧ v ≤ 1)) : WF (gsN g j v) := by
  obtain ⟨a1, a2, a3, a4, a5, a6, a7, a8⟩ := w
  refine ⟨a1, a2, a3, a4, a5, ?_, ?_, ?_⟩
  · show 2 ≤ up (gN g) j v 0 ∧ up (gN g) j v 0 ≤ 9
    by_cases q : j = 0
    · subst q; rw [up_self]; exact h.1 rfl
    · rw [up_ne (by omega)]; exact a6
  · show 0 ≤ up (gN g) j v 1 ∧ up (gN g) j v 1 ≤ 2
    by_cases q : j = 1
    · subst q; rw [up_self]; exact h.2.1 rfl
    · rw [up_ne (by omega)]; exact a7
  · show 0 ≤ up (gN g) j v 2 ∧ up (gN g) j v 2 ≤ 1
    by_cases q : j = 2
    · subst q; rw [up_self]; exact h.2.2 rfl
    · rw [up_ne (by omega)]; exact a8
theorem gN_rng (w : WF g) {j : Nat} (hj : j < 3) : 0 ≤ gN g j ∧ gN g j ≤ 9 := by
  obtain ⟨a1, a2, a3, a4, a5, a6, a7, a8⟩ := w
  rcases (show j = 0 ∨ j = 1 ∨ j = 2 by omega) with rfl | rfl | rfl <;> omega
theorem setG (h : SI I (g, ps, kp, bs, rp)) {j : Nat} (hj : j < 3) {lo hi a2 : Int} (h2 : w32 a2 = a2) (hlh : 0 ≤ lo ∧ hi < 100 ∧ lo ≤ hi)
    (hl : ∀ I : Mem, f_PR_lowest (4 + (j : Int)) I = some (lo, I)) (hh : ∀ I : Mem, f_PR_highest (4 + (j : Int)) I = some (hi, I))
    (ml : ∀ I : Mem, f_M_leastOf (j : Int) I = some (lo, I)) (mh : ∀ I : Mem, f_M_mostOf (j : Int) I = some (hi, I)) (hw : lo ≤ a2 ∧ a2 ≤ hi → WF (gsN g j a2)) : OGW (f_L_set (4 + (j : Int)) a2) (f_M_set (4 + (j : Int)) a2) I := by
  have w : WF g := h.2.2.1
  have nr := gN_rng w hj
  have w1 : w32 (4 + (j : Int)) = 4 + (j : Int) := w32_of (by omega) (by omega)
  have wl : w32 lo = lo := w32_of (by omega) (by omega)
  have wh : w32 hi = hi := w32_of (by omega) (by omega)
  have e4 : 4 + (j : Int) - 4 = (j : Int) := by omega
  by_cases hr : lo ≤ a2 ∧ a2 ≤ hi
  · refine og_W (fp := f_PR_set (4 + (j : Int)) a2) (s' := (gsN g j a2, pushP ps g, kp, bs, rp)) (u := w32 (gN g j)) h (h.2.2.mut (hw hr)) ?_ (fun J sm => m_endG ?_)
    · unfold f_PR_set
      rw [w1, if_neg (by omega), if_neg (by omega), hl, bnd_some, h2, wl, if_neg (by omega), hh, bnd_some, wh, if_neg (by omega)]
      refine c_mut (R := fun x : Int ⊕ String => ∃ v : Int, x = .inl v ∧ w32 v = w32 (gN g j)) h.1 (fun J g0 pt g1 => ?_)
      rw [g_number g0 hj, bnd_some]
      refine tr_call (t_putNumber g0 hj a2) ?_
      rintro _ K ⟨gc, f⟩
      exact tr_ret ⟨⟨_, rfl, rfl⟩, gc, g1_fm g1 f (fun k i s z q => by unfold FG at z q; omega), pt_g pt f, f.mono fo_g⟩
    · unfold f_M_set
      try dsimp only [ltI]
      rw [m_in1 (by rw [w1, w32c 4 (by decide), w32c 6 (by decide)]; omega), bnd_some, if_neg (by decide), e4, ml, bnd_some, mh, bnd_some, m_in1 (by rw [h2, wl, wh]; exact hr), bnd_some, if_neg (by decide)]
      unfold f_M_set_j40
      rw [m_fz (sI_self _ _ _ _ _), bnd_some, if_pos (by decide), e4]
      exact m_mutG (now := f_M_setNow (j : Int) a2) sm (by rw [w32_of (by omega) (by omega)]; omega) (fun K gw => tr_mono (t_msetNow gw hj a2) (fun _ _ z => ⟨z.1, z.2.1, z.2.2.mono fn_w⟩))
  · refine og_X (fp := f_PR_set (4 + (j : Int)) a2) (E := xIA) (k := 1) h ?_ (if_pos rfl) (by decide) (fun J sm => ?_)
    · unfold f_PR_set
      rw [w1, if_neg (by omega), if_neg (by omega), hl, bnd_some, h2, wl]
      by_cases q : a2 < lo
      · rw [if_pos q]
      · rw [if_neg q, hh, bnd_some, wh, if_pos (by omega)]
    · unfold f_M_set
      try dsimp only [ltI]
      rw [m_in1 (by rw [w1, w32c 4 (by decide), w32c 6 (by decide)]; omega), bnd_some, if_neg (by decide), e4, ml, bnd_some, mh, bnd_some, m_in0 (by rw [h2, wl, wh]; omega), bnd_some, if_pos (by decide), m_setx (sI_self _ _ _ _ _)]
      exact t_outG sm rfl
theorem og_33 (h : SI I s) (a1 a2 : Int) (h1 : w32 a1 = a1) (h2 : w32 a2 = a2) : OGW (f_L_set a1 a2) (f_M_set a1 a2) I := by
  obtain ⟨g, ps, kp, bs, rp⟩ := s
  have w : WF g := h.2.2.1
  rcases (show a1 = 4 + ((0 : Nat) : Int) ∨ a1 = 4 + ((1 : Nat) : Int) ∨ a1 = 4 + ((2 : Nat) : Int) ∨ ¬ (4 ≤ a1 ∧ a1 ≤ 6) by omega) with rfl | rfl | rfl | hr
  · exact setG h (by decide) h2 (by decide) lo_0 hi_0 ml_0 mh_0 (fun z => WF_gN w ⟨fun _ => by omega, fun q => by omega, fun q => by omega⟩)
  · exact setG h (by decide) h2 (by decide) lo_1 hi_1 ml_1 mh_1 (fun z => WF_gN w ⟨fun q => by omega, fun _ => by omega, fun q => by omega⟩)
  · exact setG h (by decide) h2 (by decide) lo_2 hi_2 ml_2 mh_2 (fun z => WF_gN w ⟨fun q => by omega, fun q => by omega, fun _ => by omega⟩)
  · refine og_X (fp := f_PR_set a1 a2) (E := xIA) (k := 1) h ?_ (if_pos rfl) (by decide) (fun J sm => ?_)
    · unfold f_PR_set
      rw [h1]
      by_cases q : a1 < 4
      · rw [if_pos q]
      · rw [if_neg q, if_pos (by omega)]
    · unfold f_M_set
      try dsimp only [ltI]
      rw [m_in0 (by rw [h1, w32c 4 (by decide), w32c 6 (by decide)]; omega), bnd_some, if_pos (by decide), m_setx (sI_self _ _ _ _ _)]
      exact t_outG sm rfl
theorem GB.copy {k b : Nat} (hc : ∀ s : Nat, s < 16860 → J 27 0 (0 + s) = I 27 k (b + s)) (h : GB I k b g) : GW J g := GWf.congr h (fun s hs => by
  have := hc s hs
  rw [Nat.zero_add] at this
  exact this)
theorem og_36 (h : SI I s) : OGW (f_L_undo) (f_M_undo) I := by
  obtain ⟨g, ps, kp, bs, rp⟩ := s
  by_cases he : ps = []
  · subst he
    refine og_X (fp := f_PR_undo) (E := xNS) (k := 1) h ?_ (if_pos rfl) (by decide) (fun J sm => ?_)
    · have e4 : I 9 0 4 = 0 := h.1.2.2.2.1.2.1
      unfold f_PR_undo
      rw [e4, if_pos (by decide)]
    · have e6 : (sI J 26 0 7 0) 26 0 6 = 0 := by rw [sI_ne (by decide)]; exact sm.2.1.2.1
      unfold f_M_undo
      try dsimp only [ltI]
      rw [e6, if_pos (by decide), m_f1 (sI_self _ _ _ _ _) (Or.inl rfl), bnd_some, if_neg (by decide)]
      exact t_outG sm rfl
  · have hp : 0 < ps.length := List.length_pos_iff.mpr he
    have h8 : ps.length ≤ 8 := h.1.2.2.2.1.1
    have hlen : (ps.take (ps.length - 1)).length = ps.length - 1 := by rw [List.length_take]; omega
    have wl : WF (ps.getD (ps.length - 1) g0) := h.2.2.2.1 _ (gd_mem (show ps.length - 1 < ps.length by omega))
    refine og_W (fp := f_PR_undo) (s' := (ps.getD (ps.length - 1) g0, ps.take (ps.length - 1), kp, bs, rp)) (u := w32 ((ps.length : Int) - 1)) h ⟨wl, fun x hx => h.2.2.2.1 x (List.mem_of_mem_take hx), h.2.2.2.2⟩ ?_ (fun J sm => m_endG ?_)
    · have e4 : I 9 0 4 = (ps.length : Int) := h.1.2.2.2.1.2.1
      unfold f_PR_undo
      rw [e4, w32_of (x := (ps.length : Int)) (by omega) (by omega), if_neg (by omega)]
      obtain ⟨a1, a2, a3, a4, a5, a6, a7⟩ := h.1
      refine tr_call (t_hback ⟨g, a1⟩ a4 he) ?_
      rintro _ K ⟨gc, hc, f⟩
      have ek : K 9 0 4 = (ps.length : Int) - 1 := by have := hc.2.1; rw [hlen] at this; omega
      rw [ek]
      refine tr_ret ⟨⟨_, rfl, rfl⟩, ⟨gc, a2.go f (fun t => t = 0) (fun t _ z => by subst z; exact ⟨_, gc⟩) (fun t _ z k i s q q2 => by unfold FG at q q2; omega), a3.fm f (fun i s => ⟨fun z => by unfold FG at z; omega, fun z => by unfold FG at z; omega⟩), hc, a5.fm f (fun s z => by unfold FG at z; omega) (fun t _ _ k i s q q2 => by unfold FG at q q2; omega), a6.fm f (fun z => by unfold FG at z; omega) (fun s z => by unfold FG at z; omega), a7.fm f (fun s z => by unfold FG at z; omega) (fun s z => by unfold FG at z; omega)⟩, f.mono (fun a b c z => by unfold FG at z; unfold FCl; omega)⟩
    · have s0 := sm.t7 (v := 0)
      unfold f_M_undo
      try dsimp only [ltI]
      have e7 : (sI J 26 0 7 0) 26 0 7 = 0 := sI_self _ _ _ _ _
      generalize sI J 26 0 7 0 = J0 at s0 e7
      have e6 : J0 26 0 6 = (ps.length : Int) := s0.2.1.2.1
      rw [e6, w32_of (x := (ps.length : Int)) (by omega) (by omega), if_neg (by omega), m_fz e7, bnd_some, if_pos (by decide), e6, sI_self]
      have f1 : Fm (fun k _ s => k = 26 ∧ s = 6) J0 (sI J0 26 0 6 ((ps.length : Int) - 1)) := Fm.sI (by decide) (by omega) (by omega) ⟨rfl, rfl⟩
      have e6' : (sI J0 26 0 6 ((ps.length : Int) - 1)) 26 0 6 = (ps.length : Int) - 1 := sI_self _ _ _ _ _
      generalize sI J0 26 0 6 ((ps.length : Int) - 1) = J1 at f1 e6'
      rw [show (16860 : Int) * ((ps.length : Int) - 1) = ((16860 * (ps.length - 1) : Nat) : Int) by omega]
      refine tr_call (t_mlays (k := 3) (b := 16860 * (ps.length - 1)) (k' := 0) (b' := 0) (I := J1) (by decide) (by decide) (by show 16860 * (ps.length - 1) + 16860 ≤ 134880; omega) (by decide) (by decide) (by decide) (by decide)) ?_
      rintro _ K ⟨hc, f2⟩
      have f12 : Fm (fun k i s => (k = 26 ∧ s = 6) ∨ (k = 27 ∧ i = 0)) J0 K := (f1.mono (fun a b c z => Or.inl z)).trans (f2.mono (fun a b c z => Or.inr ⟨z.1, z.2.1⟩))
      have gl : GB J1 3 (16860 * (ps.length - 1)) (ps.getD (ps.length - 1) g0) := (s0.2.1.2.2 (ps.length - 1) (show ps.length - 1 < ps.length by omega)).fm f1 (fun s _ _ z => absurd z.1 (by decide))
      have ek : K 26 0 6 = (ps.length : Int) - 1 := (f2.at (by decide) (by omega)).trans e6'
      rw [ek]
      refine tr_ret ⟨rfl, ⟨GB.copy hc gl, ⟨show (ps.take (ps.length - 1)).length ≤ 8 by omega, show K 26 0 6 = ((ps.take (ps.length - 1)).length : Int) by rw [ek, hlen]; omega, fun k hk => ?_⟩, s0.2.2.1.fm f12 (fun s z => by omega) (fun s z => by omega), s0.2.2.2.1.fm f12 (fun z => by omega) (fun s z => by omega), s0.2.2.2.2.fm f12 (fun z => by omega) (fun s z => by omega)⟩, f12.mono (fun a b c z => by unfold FMq; omega)⟩
      have hk : k < ps.length - 1 := by rw [← hlen]; exact hk
      show GB K 3 (16860 * k) ((ps.take (ps.length - 1)).getD k g0)
      rw [gd_take hk]
      exact (s0.2.1.2.2 k (show k < ps.length by omega)).fm f12 (fun s _ _ z => by omega)
end MUTS2
end
section
/-! ===== save and restore; what is fed ===== -/
section KEPT
variable {I J : Mem} {g g' : GS} {ps : List GS} {kp : Nat → Option GS} {bs rp : List Int} {s : SS}
theorem gSize_rng (h : GC I 0 g) : 0 ≤ gSize g ∧ gSize g ≤ 16400 := by
  have key : ∀ n : Nat, n ≤ 41 → 0 ≤ sT (fun i => ((gR g i).length : Int)) n ∧ sT (fun i => ((gR g i).length : Int)) n ≤ 400 * n := by
    intro n
    induction n with
    | zero => intro _; exact ⟨Int.le_refl 0, Int.le_refl 0⟩
    | succ n ih =>
      intro hn
      have h1 := ih (by omega)
      have h2 := (h.2.1 n (by omega)).len
      show 0 ≤ sT (fun i => ((gR g i).length : Int)) n + ((gR g n).length : Int) ∧ sT (fun i => ((gR g i).length : Int)) n + ((gR g n).length : Int) ≤ _
      omega
  exact key 41 (Nat.le_refl _)
theorem og_37 (h : SI I s) (a1 : Int) (h1 : w32 a1 = a1) : OGW (f_L_save a1) (f_M_save a1) I := by
  obtain ⟨g, ps, kp, bs, rp⟩ := s
  have w : WF g := h.2.2.1
  by_cases hr : 0 ≤ a1 ∧ a1 < 2
  · obtain ⟨j, rfl, hj⟩ : ∃ j : Nat, a1 = (j : Int) ∧ j < 2 := ⟨a1.toNat, by omega, by omega⟩
    have hw : SW (g, ps, up kp j (some g), bs, rp) := ⟨w, h.2.2.2.1, fun i x hx => by
      have hx : up kp j (some g) i = some x := hx
      by_cases q : i = j
      · subst q; rw [up_self] at hx; cases hx; exact w
      · rw [up_ne q] at hx; exact h.2.2.2.2.1 i x hx, h.2.2.2.2.2⟩
    refine og_W (fp := f_PR_save (j : Int)) (s' := (g, ps, up kp j (some g), bs, rp)) (u := w32 (gSize g)) h hw ?_ (fun J sm => m_endG ?_)
    · obtain ⟨a1, a2, a3, a4, a5, a6, a7⟩ := h.1
      obtain ⟨gt, hgt⟩ := a2 (10 + j) (by omega)
      have key : Tr (f_His_keep (j : Int) 0 I) (fun _ J => SC J (g, ps, up kp j (some g), bs, rp) ∧ Fm FCl I J) := by
        unfold f_His_keep
        rw [if_pos (by decide), h1, if_neg (by omega), if_pos (by omega), if_pos (by omega), Int.toNat_natCast]
        refine tr_call (t_gtakeFrom (t := 10 + j) (a := 0) hgt a1 (by omega)) ?_
        rintro _ J ⟨gc2, f⟩
        have f9 : Fm (fun k _ s => k = 24 ∧ s = j) J (sI J 24 0 j 1) := Fm.sI (by decide) (by omega) (by omega) ⟨rfl, rfl⟩
        try dsimp only [ltI]
        have ff : Fm (fun k i s => FG (10 + j) k i s ∨ (k = 24 ∧ s = j)) I (sI J 24 0 j 1) := (f.mono (fun a b c z => Or.inl z)).trans (f9.mono (fun a b c z => Or.inr z))
        have gcj : GC (sI J 24 0 j 1) (10 + j) g := gc2.fm f9 (fun k i s z q => by unfold FG at z; omega)
        have s24 : (sI J 24 0 j 1) 24 0 j = 1 := sI_self _ _ _ _ _
        generalize sI J 24 0 j 1 = K at ff gcj s24
        refine tr_ret ⟨⟨a1.fm ff (fun k i s z q => by unfold FG at z q; omega), a2.go ff (fun t => t = 10 + j) (fun t _ z => by subst z; exact ⟨_, gcj⟩) (fun t _ z k i s q q2 => by unfold FG at q q2; omega), a3.fm ff (fun i s => ⟨fun z => by unfold FG at z; omega, fun z => by unfold FG at z; omega⟩), a4.fm ff (fun s z => by unfold FG at z; omega) (fun t _ _ k i s z q => by unfold FG at z q; omega), fun i hi => ?_, a6.fm ff (fun z => by unfold FG at z; omega) (fun s z => by unfold FG at z; omega), a7.fm ff (fun s z => by unfold FG at z; omega) (fun s z => by unfold FG at z; omega)⟩, ff.mono (fun a b c z => by unfold FG at z; unfold FCl; omega)⟩
        show match up kp j (some g) i with | none => K 24 0 i = 0 | some x => K 24 0 i = 1 ∧ GC K (10 + i) x
        by_cases q : i = j
        · subst q; rw [up_self]; exact ⟨s24, gcj⟩
        · rw [up_ne q]
          have e24 : K 24 0 i = I 24 0 i := ff.at (by decide) (fun z => by unfold FG at z; omega)
          have hh : match kp i with | none => I 24 0 i = 0 | some x => I 24 0 i = 1 ∧ GC I (10 + i) x := a5 i hi
          cases e : kp i with
          | none => rw [e] at hh; exact e24.trans hh
          | some x => rw [e] at hh; exact ⟨e24.trans hh.1, hh.2.fm ff (fun k i s z q => by unfold FG at z q; omega)⟩
      unfold f_PR_save
      rw [h1, if_neg (by omega), if_pos (by omega)]
      refine tr_call key ?_
      rintro _ J1 ⟨sc, f1⟩
      rw [g_totalSize sc.1, bnd_some]
      exact tr_ret ⟨⟨_, rfl, rfl⟩, sc, f1⟩
    · have s0 := sm.t7 (v := 0)
      have e7 : (sI J 26 0 7 0) 26 0 7 = 0 := sI_self _ _ _ _ _
      unfold f_M_save
      try dsimp only [ltI]
      generalize sI J 26 0 7 0 = J0 at s0 e7
      rw [m_noSlot1 e7 h1 hr, bnd_some, if_pos (by decide), show (16860 : Int) * (j : Int) = ((16860 * j : Nat) : Int) by omega, h1]
      refine tr_call (t_mlays (k := 0) (b := 0) (k' := 4) (b' := 16860 * j) (by decide) (by decide) (by decide) (by show 16860 * j + 16860 ≤ 33720; omega) (by decide) (by decide) (by decide)) ?_
      rintro _ K1 ⟨hc, f⟩
      rw [if_pos (by omega), Int.toNat_natCast]
      try dsimp only [ltI]
      have f28 : Fm (fun k _ s => k = 28 ∧ s = j) K1 (sI K1 28 0 j 1) := Fm.sI (by decide) (by omega) (by omega) ⟨rfl, rfl⟩
      have ff : Fm (fun k i s => (k = 27 ∧ i = 4 ∧ 16860 * j ≤ s ∧ s < 16860 * j + 16860) ∨ (k = 28 ∧ s = j)) J0 (sI K1 28 0 j 1) := (f.mono (fun a b c z => Or.inl z)).trans (f28.mono (fun a b c z => Or.inr z))
      have gb : GB (sI K1 28 0 j 1) 4 (16860 * j) g := GWf.congr s0.1 (fun s hs => by
        have := hc s hs
        rw [Nat.zero_add] at this
        rw [sI_ne (by omega)]
        exact this)
      have s28 : (sI K1 28 0 j 1) 28 0 j = 1 := sI_self _ _ _ _ _
      generalize sI K1 28 0 j 1 = K at ff gb s28
      have gk : GW K g := s0.1.fm ff (fun s _ z => by omega)
      rw [m_sizeNow gk, bnd_some]
      refine tr_ret ⟨rfl, ⟨gk, s0.2.1.fm ff (fun z => by omega) (fun s z => by omega), fun i hi => ?_, s0.2.2.2.1.fm ff (fun z => by omega) (fun s z => by omega), s0.2.2.2.2.fm ff (fun z => by omega) (fun s z => by omega)⟩, ff.mono (fun a b c z => by unfold FMq; omega)⟩
      show match up kp j (some g) i with | none => K 28 0 i = 0 | some x => K 28 0 i = 1 ∧ GB K 4 (16860 * i) x
      by_cases q : i = j
      · subst q; rw [up_self]; exact ⟨s28, gb⟩
      · rw [up_ne q]
        have e28 : K 28 0 i = J0 28 0 i := ff.at (by decide) (fun z => by omega)
        have hh : match kp i with | none => J0 28 0 i = 0 | some x => J0 28 0 i = 1 ∧ GB J0 4 (16860 * i) x := s0.2.2.1 i hi
        cases e : kp i with
        | none => rw [e] at hh; exact e28.trans hh
        | some x => rw [e] at hh; exact ⟨e28.trans hh.1, hh.2.fm ff (fun s z1 z2 z => by omega)⟩
  · refine og_X (fp := f_PR_save a1) (E := xIA) (k := 1) h ?_ (if_pos rfl) (by decide) (fun J sm => ?_)
    · unfold f_PR_save
      rw [h1]
      by_cases q : a1 < 0
      · rw [if_pos q]
      · rw [if_neg q, if_neg (by omega)]
    · unfold f_M_save
      try dsimp only [ltI]
      rw [m_noSlot0 (sI_self _ _ _ _ _) h1 hr, bnd_some, if_neg (by decide)]
      exact t_outG sm rfl
theorem og_38 (h : SI I s) (a1 : Int) (h1 : w32 a1 = a1) : OGW (f_L_restore a1) (f_M_restore a1) I := by
  obtain ⟨g, ps, kp, bs, rp⟩ := s
  by_cases hr : 0 ≤ a1 ∧ a1 < 2
  · obtain ⟨j, rfl, hj⟩ : ∃ j : Nat, a1 = (j : Int) ∧ j < 2 := ⟨a1.toNat, by omega, by omega⟩
    have hC : match kp j with | none => I 24 0 j = 0 | some x => I 24 0 j = 1 ∧ GC I (10 + j) x := h.1.2.2.2.2.1 j hj
    have hM : ∀ J : Mem, SM J (g, ps, kp, bs, rp) → match kp j with | none => J 28 0 j = 0 | some x => J 28 0 j = 1 ∧ GB J 4 (16860 * j) x := fun J sm => sm.2.2.1 j hj
    cases e : kp j with
    | none =>
      rw [e] at hC
      refine og_X (fp := f_PR_restore (j : Int)) (E := xNS) (k := 2) h ?_ ?_ (by decide) (fun J sm => ?_)
      · have eh : f_His_hasKept (j : Int) I = some (0, I) := by
          unfold f_His_hasKept
          rw [h1, if_neg (by omega), if_pos (by omega), if_pos (by omega), Int.toNat_natCast, hC, if_pos (by decide)]
        unfold f_PR_restore
        rw [h1, if_neg (by omega), if_pos (by omega), eh, bnd_some, if_pos (by decide)]
      · show (if xNS = xIA then _ else if xNS = xNS then _ else _) = _
        rw [if_neg (by decide), if_pos rfl]
      · have hm := hM J sm
        rw [e] at hm
        have e28 : (sI J 26 0 7 0) 28 0 j = 0 := by rw [sI_ne (by omega)]; exact hm
        unfold f_M_restore
        try dsimp only [ltI]
        rw [m_noSlot1 (sI_self _ _ _ _ _) h1 hr, bnd_some, if_pos (by decide), h1, if_pos (by omega), Int.toNat_natCast, e28, if_pos (by decide), m_f1 (sI_self _ _ _ _ _) (Or.inr rfl), bnd_some, if_neg (by decide)]
        exact t_outG sm rfl
    | some x =>
      rw [e] at hC
      have wx' : WF x := h.2.2.2.2.1 j x e
      refine og_W (fp := f_PR_restore (j : Int)) (s' := (x, [], kp, bs, rp)) (u := w32 (gSize x)) h ⟨wx', (fun y hy => absurd hy List.not_mem_nil), h.2.2.2.2⟩ ?_ (fun J sm => m_endG ?_)
      · have eh : f_His_hasKept (j : Int) I = some (1, I) := by
          unfold f_His_hasKept
          rw [h1, if_neg (by omega), if_pos (by omega), if_pos (by omega), Int.toNat_natCast, hC.1, if_neg (by decide)]
        obtain ⟨a1, a2, a3, a4, a5, a6, a7⟩ := h.1
        unfold f_PR_restore
        rw [h1, if_neg (by omega), if_pos (by omega), eh, bnd_some, if_neg (by decide)]
        unfold f_His_bringBack
        rw [if_pos (by decide), eh, bnd_some, if_neg (by decide), h1, if_pos (by omega), Int.toNat_natCast]
        refine tr_call (P := fun _ J => GC J 0 x ∧ Fm (FG 0) I J) ?_ ?_
        · refine tr_call (t_gtakeFrom (t := 0) (a := 10 + j) a1 hC.2 (by omega)) ?_
          rintro _ J ⟨gc, f⟩
          exact tr_ret ⟨gc, f⟩
        rintro _ J ⟨gc, f⟩
        unfold f_His_forgetPast
        try dsimp only [ltI]
        rw [bnd_some]
        have f9 : Fm (fun k _ s => k = 9 ∧ s = 4) J (sI J 9 0 4 0) := Fm.sI (by decide) (by omega) (by omega) ⟨rfl, rfl⟩
        have ff : Fm (fun k i s => FG 0 k i s ∨ (k = 9 ∧ s = 4)) I (sI J 9 0 4 0) := (f.mono (fun a b c z => Or.inl z)).trans (f9.mono (fun a b c z => Or.inr z))
        have gk : GC (sI J 9 0 4 0) 0 x := gc.fm f9 (fun k i s z q => by unfold FG at z; omega)
        have s94 : (sI J 9 0 4 0) 9 0 4 = 0 := sI_self _ _ _ _ _
        generalize sI J 9 0 4 0 = K at ff gk s94
        rw [g_totalSize gk, bnd_some]
        obtain ⟨b1, b2, nx, b3, b4, b5⟩ := a4
        refine tr_ret ⟨⟨_, rfl, rfl⟩, ⟨gk, a2.go ff (fun t => t = 0) (fun t _ z => by subst z; exact ⟨_, gk⟩) (fun t _ z k i s q q2 => by unfold FG at q q2; omega), a3.fm ff (fun i s => ⟨fun z => by unfold FG at z; omega, fun z => by unfold FG at z; omega⟩), ⟨Nat.zero_le _, s94, nx, b3, by rw [ff.at (by decide) (fun z => by unfold FG at z; omega)]; exact b4, fun k hk => absurd hk (Nat.not_lt_zero k)⟩, a5.fm ff (fun s z => by unfold FG at z; omega) (fun t _ _ k i s z q => by unfold FG at z q; omega), a6.fm ff (fun z => by unfold FG at z; omega) (fun s z => by unfold FG at z; omega), a7.fm ff (fun s z => by unfold FG at z; omega) (fun s z => by unfold FG at z; omega)⟩, ff.mono (fun a b c z => by unfold FG at z; unfold FCl; omega)⟩
      · have s0 := sm.t7 (v := 0)
        have hm : match kp j with | none => (sI J 26 0 7 0) 28 0 j = 0 | some x => (sI J 26 0 7 0) 28 0 j = 1 ∧ GB (sI J 26 0 7 0) 4 (16860 * j) x := hM _ s0
        rw [e] at hm
        have e7 : (sI J 26 0 7 0) 26 0 7 = 0 := sI_self _ _ _ _ _
        unfold f_M_restore
        try dsimp only [ltI]
        generalize sI J 26 0 7 0 = J0 at s0 e7 hm
        rw [m_noSlot1 e7 h1 hr, bnd_some, if_pos (by decide), h1, if_pos (by omega), Int.toNat_natCast, hm.1, if_neg (by decide), m_fz e7, bnd_some, if_pos (by decide), show (16860 : Int) * (j : Int) = ((16860 * j : Nat) : Int) by omega]
        refine tr_call (t_mlays (k := 4) (b := 16860 * j) (k' := 0) (b' := 0) (by decide) (by decide) (by show 16860 * j + 16860 ≤ 33720; omega) (by decide) (by decide) (by decide) (by decide)) ?_
        rintro _ K1 ⟨hc, f⟩
        try dsimp only [ltI]
        have f6 : Fm (fun k _ s => k = 26 ∧ s = 6) K1 (sI K1 26 0 6 0) := Fm.sI (by decide) (by omega) (by omega) ⟨rfl, rfl⟩
        have ff : Fm (fun k i s => (k = 27 ∧ i = 0) ∨ (k = 26 ∧ s = 6)) J0 (sI K1 26 0 6 0) := (f.mono (fun a b c z => Or.inl ⟨z.1, z.2.1⟩)).trans (f6.mono (fun a b c z => Or.inr z))
        have gk : GW (sI K1 26 0 6 0) x := (GB.copy hc hm.2).fm f6 (fun s _ z => absurd z.1 (by decide))
        have s6 : (sI K1 26 0 6 0) 26 0 6 = 0 := sI_self _ _ _ _ _
        generalize sI K1 26 0 6 0 = K at ff gk s6
        rw [m_sizeNow gk, bnd_some]
        exact tr_ret ⟨rfl, ⟨gk, ⟨Nat.zero_le _, s6, fun k hk => absurd hk (Nat.not_lt_zero k)⟩, s0.2.2.1.fm ff (fun s z => by omega) (fun s z => by omega), s0.2.2.2.1.fm ff (fun z => by omega) (fun s z => by omega), s0.2.2.2.2.fm ff (fun z => by omega) (fun s z => by omega)⟩, ff.mono (fun a b c z => by unfold FMq; omega)⟩
  · refine og_X (fp := f_PR_restore a1) (E := xIA) (k := 1) h ?_ ?_ (by decide) (fun J sm => ?_)
    · unfold f_PR_restore
      rw [h1]
      by_cases q : a1 < 0
      · rw [if_pos q]
      · rw [if_neg q, if_neg (by omega)]
    · show (if xIA = xIA then _ else _) = _
      rw [if_pos rfl]
    · unfold f_M_restore
      try dsimp only [ltI]
      rw [m_noSlot0 (sI_self _ _ _ _ _) h1 hr, bnd_some, if_neg (by decide)]
      exact t_outG sm rfl
end KEPT
end
section
/-! ===== every call that reads ===== -/
section READS
variable {I J : Mem} {g g' : GS} {ps : List GS} {kp : Nat → Option GS} {bs rp : List Int} {s : SS}
theorem fn_u : ∀ k i s : Nat, FUN k i s → FMn k i s := fun k i s z => by unfold FUN at z; unfold FMn; omega
theorem SM.rdq {K : Mem} (s0 : SM J s) (f : Fm FMn J K) (gw : GW K s.1) : SM K s ∧ Fm FMq J K := by
  obtain ⟨g, ps, kp, bs, rp⟩ := s
  exact ⟨s0.op (f.mono fn_p) gw, f.mono fn_q⟩
theorem SC.rd {F : FP} {K : Mem} (h : SC I (g, ps, kp, bs, rp)) (f : Fm F I K) (hF : ∀ k i s : Nat, F k i s → k = 3 ∨ k = 5 ∨ k = 17 ∨ k = 18) : SC K (g, ps, kp, bs, rp) ∧ Fm FCl I K := by
  have fo : Fm FOp I K := f.mono (fun a b c z => by have := hF a b c z; unfold FOp; omega)
  have n : ∀ t k i s : Nat, FG t k i s → ¬ F k i s := fun t k i s z q => by have := hF k i s q; unfold FG at z; omega
  exact ⟨h.op fo (h.1.fm f (n 0)) (g1_fm (h.2.1 1 (by decide)) f (n 1)) (h.2.2.1.fm f (fun i s => ⟨fun z => by have := hF 4 i s z; omega, fun z => by have := hF 16 i s z; omega⟩)), fo.mono fop_cl⟩
theorem SC.sv {K : Mem} (h : SC I (g, ps, kp, bs, rp)) (f : Fm FSV I K) : SC K (g, ps, kp, bs, rp) ∧ Fm FCl I K := h.rd f (fun k i s z => by unfold FSV at z; omega)
theorem SC.pa {K : Mem} (h : SC I (g, ps, kp, bs, rp)) (f : Fm FPA I K) (gc : GC K 0 g) (pt : PTi K) : SC K (g, ps, kp, bs, rp) ∧ Fm FCl I K := ⟨h.op (f.mono fo_p) gc (g1_fm (h.2.1 1 (by decide)) f (fun k i s z q => by unfold FG at z; unfold FPA at q; omega)) pt, (f.mono fo_p).mono fop_cl⟩
theorem LET_g (w : WF g) : LET (gTx g) := exL_let w (w.1 0 (by decide))
theorem sizeX (h : SI I s) (a1 : Int) (h1 : w32 a1 = a1) (hr : ¬ (0 ≤ a1 ∧ a1 < 12)) : OGW (f_L_size a1) (f_M_size a1) I := by
  refine og_X (fp := f_PR_size a1) (E := xIA) (k := 1) h ?_ (if_pos rfl) (by decide) (fun J sm => ?_)
  · unfold f_PR_size
    rw [h1, if_neg (by omega), if_neg (by omega), if_neg (by omega), if_neg (by omega), if_neg (by omega), if_neg (by omega), if_neg (by omega), if_neg (by omega), if_neg (by omega), if_neg (by omega), if_neg (by omega), if_neg (by omega)]
  · unfold f_M_size
    exact t_outG sm (chk_out (sI_self _ _ _ _ _) (Or.inl rfl) (by rw [h1, w0, w32c 11 (by decide)]; omega))
theorem og_4 (h : SI I s) (a1 : Int) (h1 : w32 a1 = a1) : OGW (f_L_size a1) (f_M_size a1) I := by
  refine Classical.byCases (p := 0 ≤ a1 ∧ a1 < 12) (fun hr => ?_) (sizeX h a1 h1)
  obtain ⟨g, ps, kp, bs, rp⟩ := s
  have w : WF g := h.2.2.1
  have hT : ll (gL g) (gR g 0) = (gT g).length := w.2.2.1
  have s7 := fun J : Mem => sI_self J 26 0 7 0
  rcases (show a1 = 0 ∨ a1 = 1 ∨ a1 = 2 ∨ a1 = 3 ∨ a1 = 4 ∨ a1 = 5 ∨ a1 = 6 ∨ a1 = 7 ∨ a1 = 8 ∨ a1 = 9 ∨ a1 = 10 ∨ a1 = 11 by omega) with rfl | rfl | rfl | rfl | rfl | rfl | rfl | rfl | rfl | rfl | rfl | rfl
  · refine og_W (fp := f_PR_size 0) (s' := (g, ps, kp, bs, rp)) (u := w32 ((gT g).length : Int)) h h.2.2 ?_ (fun J sm => m_endG ?_)
    · unfold f_PR_size
      rw [if_pos (by decide)]
      rw [g_textLength h.1.1 (fun i hi => w.sy hi), bnd_some, hT]
      exact tr_ret ⟨⟨_, rfl, rfl⟩, h.1, Fm.refl _ _⟩
    · have s0 := sm.t7 (v := 0)
      unfold f_M_size
      try dsimp only [ltI]
      rw [chk_in (s7 J) (by decide), if_pos (by decide)]
      generalize sI J 26 0 7 0 = J0 at s0
      refine tr_call (t_textLong s0.1 w) ?_
      rintro x K ⟨rfl, -, gw, f⟩
      exact tr_ret ⟨rfl, s0.rdq (f.mono fn_l) gw⟩
  · refine og_W (fp := f_PR_size 1) (s' := (g, ps, kp, bs, rp)) (u := w32 ((gR g 0).length : Int)) h h.2.2 ?_ (fun J sm => m_endG ?_)
    · unfold f_PR_size
      rw [if_neg (by decide), if_pos (by decide)]
      rw [show I 2 (43 * 0) 1 = ((gR g 0).length : Int) from (h.1.1.2.1 0 (by decide)).2.1]
      exact tr_ret ⟨⟨_, rfl, rfl⟩, h.1, Fm.refl _ _⟩
    · have s0 := sm.t7 (v := 0)
      unfold f_M_size
      try dsimp only [ltI]
      rw [chk_in (s7 J) (by decide), if_neg (by decide), if_pos (by decide)]
      generalize sI J 26 0 7 0 = J0 at s0
      rw [show f_M_many 0 J0 = _ from m_many s0.1 (i := 0) (by decide), bnd_some]
      exact tr_ret ⟨rfl, s0, Fm.refl _ _⟩
  · refine og_W (fp := f_PR_size 2) (s' := (g, ps, kp, bs, rp)) (u := w32 (nRules g)) h h.2.2 ?_ (fun J sm => m_endG ?_)
    · unfold f_PR_size
      rw [if_neg (by decide), if_neg (by decide), if_pos (by decide)]
      rw [g_manyRules h.1.1, bnd_some]
      exact tr_ret ⟨⟨_, rfl, rfl⟩, h.1, Fm.refl _ _⟩
    · have s0 := sm.t7 (v := 0)
      unfold f_M_size
      try dsimp only [ltI]
      rw [chk_in (s7 J) (by decide), if_neg (by decide), if_neg (by decide), if_pos (by decide)]
      generalize sI J 26 0 7 0 = J0 at s0
      rw [m_rules s0.1, bnd_some]
      exact tr_ret ⟨rfl, s0, Fm.refl _ _⟩
  · refine og_W (fp := f_PR_size 3) (s' := (g, ps, kp, bs, rp)) (u := w32 (gSize g)) h h.2.2 ?_ (fun J sm => m_endG ?_)
    · unfold f_PR_size
      rw [if_neg (by decide), if_neg (by decide), if_neg (by decide), if_pos (by decide)]
      rw [g_totalSize h.1.1, bnd_some]
      exact tr_ret ⟨⟨_, rfl, rfl⟩, h.1, Fm.refl _ _⟩
    · have s0 := sm.t7 (v := 0)
      unfold f_M_size
      try dsimp only [ltI]
      rw [chk_in (s7 J) (by decide), if_neg (by decide), if_neg (by decide), if_neg (by decide), if_pos (by decide)]
      generalize sI J 26 0 7 0 = J0 at s0
      rw [m_sizeNow s0.1, bnd_some]
      exact tr_ret ⟨rfl, s0, Fm.refl _ _⟩
  · refine og_W (fp := f_PR_size 4) (s' := (g, ps, kp, bs, rp)) (u := w32 (gN g 0)) h h.2.2 ?_ (fun J sm => m_endG ?_)
    · unfold f_PR_size
      rw [if_neg (by decide), if_neg (by decide), if_neg (by decide), if_neg (by decide), if_pos (by decide)]
      rw [show (4 : Int) = 4 + ((0 : Nat) : Int) from rfl, g_number h.1.1 (by decide), bnd_some]
      exact tr_ret ⟨⟨_, rfl, rfl⟩, h.1, Fm.refl _ _⟩
    · have s0 := sm.t7 (v := 0)
      unfold f_M_size
      try dsimp only [ltI]
      rw [chk_in (s7 J) (by decide), if_neg (by decide), if_neg (by decide), if_neg (by decide), if_neg (by decide), if_pos (by decide)]
      generalize sI J 26 0 7 0 = J0 at s0
      rw [if_pos (by decide), show (w32 (4 - 4)).toNat = 0 by decide, s0.1.2.2.2.2.2.1]
      exact tr_ret ⟨rfl, s0, Fm.refl _ _⟩
  · refine og_W (fp := f_PR_size 5) (s' := (g, ps, kp, bs, rp)) (u := w32 (gN g 1)) h h.2.2 ?_ (fun J sm => m_endG ?_)
    · unfold f_PR_size
      rw [if_neg (by decide), if_neg (by decide), if_neg (by decide), if_neg (by decide), if_neg (by decide), if_pos (by decide)]
      rw [show (5 : Int) = 4 + ((1 : Nat) : Int) from rfl, g_number h.1.1 (by decide), bnd_some]
      exact tr_ret ⟨⟨_, rfl, rfl⟩, h.1, Fm.refl _ _⟩
    · have s0 := sm.t7 (v := 0)
      unfold f_M_size
      try dsimp only [ltI]
      rw [chk_in (s7 J) (by decide), if_neg (by decide), if_neg (by decide), if_neg (by decide), if_neg (by decide), if_neg (by decide), if_pos (by decide)]
      generalize sI J 26 0 7 0 = J0 at s0
      rw [if_pos (by decide), show (w32 (5 - 4)).toNat = 1 by decide, s0.1.2.2.2.2.2.2.1]
      exact tr_ret ⟨rfl, s0, Fm.refl _ _⟩
  · refine og_W (fp := f_PR_size 6) (s' := (g, ps, kp, bs, rp)) (u := w32 (gN g 2)) h h.2.2 ?_ (fun J sm => m_endG ?_)
    · unfold f_PR_size
      rw [if_neg (by decide), if_neg (by decide), if_neg (by decide), if_neg (by decide), if_neg (by decide), if_neg (by decide), if_pos (by decide)]
      rw [show (6 : Int) = 4 + ((2 : Nat) : Int) from rfl, g_number h.1.1 (by decide), bnd_some]
      exact tr_ret ⟨⟨_, rfl, rfl⟩, h.1, Fm.refl _ _⟩
    · have s0 := sm.t7 (v := 0)
      unfold f_M_size
      try dsimp only [ltI]
      rw [chk_in (s7 J) (by decide), if_neg (by decide), if_neg (by decide), if_neg (by decide), if_neg (by decide), if_neg (by decide), if_neg (by decide), if_pos (by decide)]
      generalize sI J 26 0 7 0 = J0 at s0
      rw [if_pos (by decide), show (w32 (6 - 4)).toNat = 2 by decide, s0.1.2.2.2.2.2.2.2.1]
      exact tr_ret ⟨rfl, s0, Fm.refl _ _⟩
  · refine og_W (fp := f_PR_size 7) (s' := (g, ps, kp, bs, rp)) (u := w32 (gLongest g)) h h.2.2 ?_ (fun J sm => m_endG ?_)
    · unfold f_PR_size
      rw [if_neg (by decide), if_neg (by decide), if_neg (by decide), if_neg (by decide), if_neg (by decide), if_neg (by decide), if_neg (by decide), if_pos (by decide)]
      rw [g_longestBody h.1.1, bnd_some]
      exact tr_ret ⟨⟨_, rfl, rfl⟩, h.1, Fm.refl _ _⟩
    · have s0 := sm.t7 (v := 0)
      unfold f_M_size
      try dsimp only [ltI]
      rw [chk_in (s7 J) (by decide), if_neg (by decide), if_neg (by decide), if_neg (by decide), if_neg (by decide), if_neg (by decide), if_neg (by decide), if_neg (by decide), if_pos (by decide)]
      generalize sI J 26 0 7 0 = J0 at s0
      rw [m_longest s0.1, bnd_some]
      exact tr_ret ⟨rfl, s0, Fm.refl _ _⟩
  · refine og_W (fp := f_PR_size 8) (s' := (g, ps, kp, bs, rp)) (u := w32 (mxd (dp g) (gR g 0))) h h.2.2 ?_ (fun J sm => m_endG ?_)
    · unfold f_PR_size
      rw [if_neg (by decide), if_neg (by decide), if_neg (by decide), if_neg (by decide), if_neg (by decide), if_neg (by decide), if_neg (by decide), if_neg (by decide), if_pos (by decide)]
      refine tr_call (t_measure h.1.1 w) ?_
      rintro _ K ⟨hd, f⟩
      have hr0 := (h.1.1.fsv f).2.1 0 (by decide)
      rw [show 43 * 0 = rix 0 0 from rfl, s_deepest (d := dp g) hr0 (w.sy (by decide)) (fun x hx => dp_letter g hx) (fun x hx h26 => ?_) (fun x hx => ?_), bnd_some]
      · exact tr_ret ⟨⟨_, rfl, rfl⟩, h.1.sv f⟩
      · have sx := w.1 0 (by decide) x hx
        rw [(hd (x - 26).toNat (by have := sx.2.1; omega) (sx.2.2 h26)).1, ← dpR h26]
      · have := dp_40 w (w.1 0 (by decide) x hx)
        omega
    · have s0 := sm.t7 (v := 0)
      unfold f_M_size
      try dsimp only [ltI]
      rw [chk_in (s7 J) (by decide), if_neg (by decide), if_neg (by decide), if_neg (by decide), if_neg (by decide), if_neg (by decide), if_neg (by decide), if_neg (by decide), if_neg (by decide), if_pos (by decide)]
      generalize sI J 26 0 7 0 = J0 at s0
      unfold f_M_deepNow
      rw [tr_bnd, tr_bnd]
      have gw0 : GW J0 g := s0.1
      refine tr_mono (t_textLong gw0 w) ?_
      rintro x K ⟨rfl, h10, gw, f⟩
      have hl : (gT g).length ≤ 400 := w.2.2.2.2.1
      have hl1 : 1 ≤ (gT g).length := w.2.2.2.1
      rw [if_pos (by rw [w32_of (x := ((gT g).length : Int)) (by omega) (by omega)]; omega), h10]
      exact tr_ret (tr_ret ⟨rfl, s0.rdq (f.mono fn_l) gw⟩)
  · refine og_W (fp := f_PR_size 9) (s' := (g, ps, kp, bs, rp)) (u := w32 (unlN (gTx g))) h h.2.2 ?_ (fun J sm => m_endG ?_)
    · unfold f_PR_size
      rw [if_neg (by decide), if_neg (by decide), if_neg (by decide), if_neg (by decide), if_neg (by decide), if_neg (by decide), if_neg (by decide), if_neg (by decide), if_neg (by decide), if_pos (by decide)]
      refine tr_call (t_unfold h.1.1 w) ?_
      rintro _ K ⟨tx, f⟩
      rw [s_unlike tx (LET_g w), bnd_some]
      exact tr_ret ⟨⟨_, rfl, rfl⟩, h.1.sv f⟩
    · have s0 := sm.t7 (v := 0)
      unfold f_M_size
      try dsimp only [ltI]
      rw [chk_in (s7 J) (by decide), if_neg (by decide), if_neg (by decide), if_neg (by decide), if_neg (by decide), if_neg (by decide), if_neg (by decide), if_neg (by decide), if_neg (by decide), if_neg (by decide), if_pos (by decide)]
      generalize sI J 26 0 7 0 = J0 at s0
      refine tr_call (t_munlike s0.1 w) ?_
      rintro x K ⟨rfl, gw, f⟩
      exact tr_ret ⟨rfl, s0.rdq (f.mono fn_u) gw⟩
  · refine og_W (fp := f_PR_size 10) (s' := (g, ps, kp, bs, rp)) (u := w32 (worthN g)) h h.2.2 ?_ (fun J sm => m_endG ?_)
    · unfold f_PR_size
      rw [if_neg (by decide), if_neg (by decide), if_neg (by decide), if_neg (by decide), if_neg (by decide), if_neg (by decide), if_neg (by decide), if_neg (by decide), if_neg (by decide), if_neg (by decide), if_pos (by decide)]
      refine tr_call (t_readFrom h.1.1 w h.1.2.2.1) ?_
      rintro _ K ⟨hd, pt, gc, f⟩
      exact tr_ret ⟨⟨_, rfl, by rw [hd.2.2.1]⟩, h.1.pa f gc pt⟩
    · have s0 := sm.t7 (v := 0)
      unfold f_M_size
      try dsimp only [ltI]
      rw [chk_in (s7 J) (by decide), if_neg (by decide), if_neg (by decide), if_neg (by decide), if_neg (by decide), if_neg (by decide), if_neg (by decide), if_neg (by decide), if_neg (by decide), if_neg (by decide), if_neg (by decide), if_pos (by decide)]
      generalize sI J 26 0 7 0 = J0 at s0
      unfold f_M_worthNow
      rw [tr_bnd, tr_bnd]
      refine tr_mono (t_laysPairs s0.1 (fun i hi => w.sy hi)) ?_
      rintro _ K ⟨mp, gk, f⟩
      rw [m_worthy gk mp w (by decide), bnd_some, if_pos rfl]
      exact tr_ret (tr_ret ⟨rfl, s0.rdq (f.mono fn_mp) gk⟩)
  · refine og_W (fp := f_PR_size 11) (s' := (g, ps, kp, bs, rp)) (u := w32 (ps.length : Int)) h h.2.2 ?_ (fun J sm => m_endG ?_)
    · unfold f_PR_size
      rw [if_neg (by decide), if_neg (by decide), if_neg (by decide), if_neg (by decide), if_neg (by decide), if_neg (by decide), if_neg (by decide), if_neg (by decide), if_neg (by decide), if_neg (by decide), if_neg (by decide), if_pos (by decide)]
      rw [show I 9 0 4 = (ps.length : Int) from h.1.2.2.2.1.2.1]
      exact tr_ret ⟨⟨_, rfl, rfl⟩, h.1, Fm.refl _ _⟩
    · have s0 := sm.t7 (v := 0)
      unfold f_M_size
      try dsimp only [ltI]
      rw [chk_in (s7 J) (by decide), if_neg (by decide), if_neg (by decide), if_neg (by decide), if_neg (by decide), if_neg (by decide), if_neg (by decide), if_neg (by decide), if_neg (by decide), if_neg (by decide), if_neg (by decide), if_neg (by decide), if_pos (by decide)]
      generalize sI J 26 0 7 0 = J0 at s0
      rw [show J0 26 0 6 = (ps.length : Int) from s0.2.1.2.1]
      exact tr_ret ⟨rfl, s0, Fm.refl _ _⟩
theorem m_here (h7 : J 26 0 7 = 0) (gw : GW J g) {j : Nat} (hj : j < 40) (hn : gR g (j + 1) ≠ []) : f_M_noSuchRule (j : Int) J = some (0, J) := by
  unfold f_M_noSuchRule
  rw [m_in1 (by rw [w32_of (x := (j : Int)) (by omega) (by omega), w0, w32c 39 (by decide)]; omega), bnd_some, if_neg (by decide), m_isHere gw hj, bI_pos hn, bnd_some, if_neg (by decide), m_fz h7, bnd_some, if_pos (Or.inl rfl)]
theorem m_notHere (h7 : J 26 0 7 = 0) (gw : GW J g) {a1 : Int} (h1 : w32 a1 = a1) (hn : ¬ (0 ≤ a1 ∧ a1 < 40 ∧ gR g (a1.toNat + 1) ≠ [])) : f_M_noSuchRule a1 J = some (1, sI J 26 0 7 1) := by
  have key : f_M_noSuchRule_j19 J = some (1, sI J 26 0 7 1) := by
    unfold f_M_noSuchRule_j19
    rw [m_f1 h7 (Or.inl rfl), bnd_some, if_pos (Or.inr rfl)]
  unfold f_M_noSuchRule
  by_cases hr : 0 ≤ a1 ∧ a1 < 40
  · obtain ⟨j, rfl, hj⟩ : ∃ j : Nat, a1 = (j : Int) ∧ j < 40 := ⟨a1.toNat, by omega, by omega⟩
    rw [m_in1 (by rw [h1, w0, w32c 39 (by decide)]; omega), bnd_some, if_neg (by decide), m_isHere gw hj, bI_neg (fun z => hn ⟨hr.1, hr.2, by rw [Int.toNat_natCast]; exact z⟩), bnd_some, if_pos (by decide)]
    exact key
  · rw [m_in0 (by rw [h1, w0, w32c 39 (by decide)]; omega), bnd_some, if_pos (by decide)]
    exact key
theorem og_5 (h : SI I s) (a1 : Int) (h1 : w32 a1 = a1) : ∃ (r1 r2 : Int) (J K : Mem) (s' : SS), f_L_isRule a1 I = some (r1, J) ∧ f_M_isRule a1 J = some (r2, K) ∧ w32 (K 26 0 7) = w32 r1 ∧ (w32 r1 = 0 → w64 (K 29 0 0) = w64 (if w32 r2 = 0 then 0 else 1)) ∧ SI K s' ∧ Rm I K := by
  obtain ⟨g, ps, kp, bs, rp⟩ := s
  have hb := w32_rng a1
  rw [h1] at hb
  by_cases hr : 0 ≤ a1 ∧ a1 < 40
  · obtain ⟨j, rfl, hj⟩ : ∃ j : Nat, a1 = (j : Int) ∧ j < 40 := ⟨a1.toNat, by omega, by omega⟩
    have e1 : f_PR_isRule (j : Int) I = some (.inl (bI (gR g (j + 1) ≠ [])), I) := by
      unfold f_PR_isRule
      rw [h1, if_neg (by omega), if_pos (by omega), g_hasRule h.1.1 hj, bnd_some, if_pos (bI_01 _)]
    have hbi := bI_01 (gR g (j + 1) ≠ [])
    obtain ⟨v, hv1, hv2⟩ : ∃ v : Int, f_L_isRule (j : Int) I = some (0, sI I 29 0 0 v) ∧ (v = 0 ∨ v = 1) ∧ v = bI (gR g (j + 1) ≠ []) := by
      unfold f_L_isRule
      rw [e1]
      show ∃ v : Int, (if w32 (bI (gR g (j + 1) ≠ [])) = 0 then some ((0 : Int), sI I 29 0 0 0) else some (0, sI I 29 0 0 1)) = some (0, sI I 29 0 0 v) ∧ (v = 0 ∨ v = 1) ∧ v = bI (gR g (j + 1) ≠ [])
      rcases hbi with z | z
      · exact ⟨0, by rw [z, if_pos (by decide)], Or.inl rfl, z.symm⟩
      · exact ⟨1, by rw [z, if_neg (by decide)], Or.inr rfl, z.symm⟩
    have gw : GW (sI (sI I 29 0 0 v) 26 0 7 0) g := GWf.congr h.2.1.1 (fun q _ => by rw [sI_ne (by omega), sI_ne (by omega)])
    have e2 : f_M_isRule (j : Int) (sI I 29 0 0 v) = some (v, sI (sI I 29 0 0 v) 26 0 7 0) := by
      unfold f_M_isRule
      try dsimp only [ltI]
      rw [m_noRule1 (sI_self _ _ _ _ _) h1 hr, bnd_some, if_pos (by decide), m_isHere gw hj, ← hv2.2, bnd_some]
      rcases hv2.1 with rfl | rfl
      · rw [if_pos (by decide)]
      · rw [if_neg (by decide)]
    have f29 : Fm (fun k _ s => 26 ≤ k ∧ k < 30 ∧ ¬ (k = 26 ∧ s ≠ 7)) I (sI (sI I 29 0 0 v) 26 0 7 0) := (Fm.sI (by decide) (by omega) (by omega) ⟨by decide, by decide, by omega⟩).trans (Fm.sI (by decide) (by omega) (by omega) ⟨by decide, by decide, by omega⟩)
    have fl : ∀ k i q : Nat, ¬ (26 ≤ k ∧ k < 30 ∧ ¬ (k = 26 ∧ q ≠ 7)) → k ≠ 30 → (sI (sI I 29 0 0 v) 26 0 7 0) k i q = I k i q := fun k i q z hk => f29.at hk z
    have lk : Lk (sI I 29 0 0 v) (sI I 29 0 0 v) := fun _ _ _ _ => rfl
    have sm0 : SM (sI I 29 0 0 v) (g, ps, kp, bs, rp) := by
      have lk2 : ∀ k i q : Nat, k ≠ 29 → (sI I 29 0 0 v) k i q = I k i q := fun k i q hk => sI_ne (by omega)
      obtain ⟨a1, ⟨b1, b2, b3⟩, a3, ⟨c1, c2⟩, d1, d2⟩ := h.2.1
      refine ⟨GWf.congr a1 (fun q _ => lk2 27 0 q (by decide)), ⟨b1, by rw [lk2 26 0 6 (by decide)]; exact b2, fun k hk => GWf.congr (b3 k hk) (fun q _ => lk2 27 3 _ (by decide))⟩, fun j hj => ?_, ⟨by rw [lk2 26 0 20 (by decide)]; exact c1, fun j hj => by rw [lk2 27 14 j (by decide)]; exact c2 j hj⟩, by rw [lk2 26 0 43 (by decide)]; exact d1, fun j hj => by rw [lk2 27 22 j (by decide)]; exact d2 j hj⟩
      have hh := a3 j hj
      cases e : kp j with
      | none =>
        have hh : match kp j with | none => I 28 0 j = 0 | some x => I 28 0 j = 1 ∧ GB I 4 (16860 * j) x := hh
        show match kp j with | none => (sI I 29 0 0 v) 28 0 j = 0 | some x => (sI I 29 0 0 v) 28 0 j = 1 ∧ GB (sI I 29 0 0 v) 4 (16860 * j) x
        rw [e] at hh ⊢
        exact (lk2 28 0 j (by decide)).trans hh
      | some x =>
        have hh : match kp j with | none => I 28 0 j = 0 | some x => I 28 0 j = 1 ∧ GB I 4 (16860 * j) x := hh
        show match kp j with | none => (sI I 29 0 0 v) 28 0 j = 0 | some x => (sI I 29 0 0 v) 28 0 j = 1 ∧ GB (sI I 29 0 0 v) 4 (16860 * j) x
        rw [e] at hh ⊢
        exact ⟨(lk2 28 0 j (by decide)).trans hh.1, GWf.congr hh.2 (fun q _ => lk2 27 4 _ (by decide))⟩
    have sc : SC (sI (sI I 29 0 0 v) 26 0 7 0) (g, ps, kp, bs, rp) := by
      obtain ⟨a1, a2, a3, a4, a5, a6, a7⟩ := h.1
      exact ⟨a1.fm f29 (fun k i s z q => by unfold FG at z; omega), a2.fm f29 (fun t _ k i s z q => by unfold FG at z; omega), a3.fm f29 (fun i s => ⟨fun z => by omega, fun z => by omega⟩), a4.fm f29 (fun s z => by omega) (fun t _ _ k i s z q => by unfold FG at z; omega), a5.fm f29 (fun s z => by omega) (fun t _ _ k i s z q => by unfold FG at z; omega), a6.fm f29 (fun z => by omega) (fun s z => by omega), a7.fm f29 (fun s z => by omega) (fun s z => by omega)⟩
    refine ⟨0, v, _, _, (g, ps, kp, bs, rp), hv1, e2, by rw [sI_self], fun _ => ?_, ⟨sc, sm0.t7, h.2.2⟩, ?_⟩
    · rw [sI_ne (by decide), sI_self]
      rcases hv2.1 with rfl | rfl
      · rw [if_pos (by decide)]
      · rw [if_neg (by decide)]
    · have hc : Cap (sI (sI I 29 0 0 v) 26 0 7 0) = Cap I := by
        unfold Cap
        rw [f29.at (k := 10) (i := 0) (s := 2) (by decide) (fun z => by omega), show (fun r : Nat => (sI (sI I 29 0 0 v) 26 0 7 0) 2 r 2) = fun r => I 2 r 2 from funext (fun r => f29.at (by decide) (fun z => by omega))]
      have h2 := f29.2
      unfold Gr at h2
      unfold Rm
      omega
  · have e : f_PR_isRule a1 I = some (.inr xIO, thrw I) := by
      unfold f_PR_isRule
      rw [h1]
      by_cases q : a1 < 0
      · rw [if_pos q]
      · rw [if_neg q, if_neg (by omega)]
    have e1 : f_L_isRule a1 I = some (1, thrw I) := by
      unfold f_L_isRule
      rw [e]
      exact (if_pos rfl : (if xIO = xIO then some ((1 : Int), thrw I) else none) = some (1, thrw I))
    have e2 : f_M_isRule a1 (thrw I) = some (0, sI (sI (thrw I) 26 0 7 0) 26 0 7 1) := by
      unfold f_M_isRule
      try dsimp only [ltI]
      rw [m_noRule0 (sI_self _ _ _ _ _) h1 hr, bnd_some, if_neg (by decide)]
    have sm := (h.2.1.lk (lk_thrw (I := I))).t7 (v := 0) |>.t7 (v := 1)
    have ff : Fm FMo (thrw I) (sI (sI (thrw I) 26 0 7 0) 26 0 7 1) := f7_mo.trans f7_mo
    exact ⟨1, 0, _, _, (g, ps, kp, bs, rp), e1, e2, by rw [sI_self], fun z => absurd z (by decide), ⟨(h.1.lk lk_thrw).mo ff, sm, h.2.2⟩, rm_t ff⟩
end READS
end
section
/-! ===== every call that reads, second part ===== -/
section READS2
variable {I J : Mem} {g g' : GS} {ps : List GS} {kp : Nat → Option GS} {bs rp : List Int} {s : SS}
theorem og_6 (h : SI I s) (a1 a2 : Int) (h1 : w32 a1 = a1) (h2 : w32 a2 = a2) : OGW (f_L_rule a1 a2) (f_M_rule a1 a2) I := by
  obtain ⟨g, ps, kp, bs, rp⟩ := s
  have w : WF g := h.2.2.1
  have gc : GC I 0 g := h.1.1
  have hb := w32_rng a1
  rw [h1] at hb
  by_cases hr : 0 ≤ a1 ∧ a1 < 40 ∧ gR g (a1.toNat + 1) ≠ []
  · obtain ⟨j, rfl, hj⟩ : ∃ j : Nat, a1 = (j : Int) ∧ j < 40 := ⟨a1.toNat, by omega, by omega⟩
    have hn : gR g (j + 1) ≠ [] := by have := hr.2.2; rwa [Int.toNat_natCast] at this
    have eh : f_G_hasRule 0 (j : Int) I = some (1, I) := by rw [g_hasRule gc hj, bI_pos hn]
    have w26 : w32 (26 + (j : Int)) = ((26 + j : Nat) : Int) := by rw [w32_of (by omega) (by omega)]; omega
    by_cases h4 : 0 ≤ a2 ∧ a2 < 5
    · have mdl : ∀ {u : Int} {K : Mem → Option (Int × Mem)} (J : Mem), SM J (g, ps, kp, bs, rp) → (∀ L : Mem, LN L g → GW L g → Tr (K L) (fun x L' => w32 x = u ∧ GW L' g ∧ Fm FMn L L')) → Tr (bnd (f_M_laysLengths (sI J 26 0 7 0)) fun _ J12 => K J12) (fun x K => w32 x = u ∧ SM K (g, ps, kp, bs, rp) ∧ Fm FMq (sI J 26 0 7 0) K) := by
        intro u K J sm hk
        have s0 := sm.t7 (v := 0)
        refine tr_call (t_laysLengths s0.1 w) ?_
        rintro _ L ⟨ln, gw, f⟩
        refine tr_mono (hk L ln gw) ?_
        rintro x L' ⟨e, gw2, f2⟩
        exact ⟨e, s0.rdq ((f.mono fn_l).trans f2) gw2⟩
      have s7 := fun J : Mem => sI_self J 26 0 7 0
      have hd : ∀ J : Mem, SM J (g, ps, kp, bs, rp) → f_M_noSuchRule (j : Int) (sI J 26 0 7 0) = some (0, sI J 26 0 7 0) := fun J sm => m_here (s7 J) (sm.t7 (v := 0)).1 hj hn
      rcases (show a2 = 0 ∨ a2 = 1 ∨ a2 = 2 ∨ a2 = 3 ∨ a2 = 4 by omega) with rfl | rfl | rfl | rfl | rfl
      · refine og_W (fp := f_PR_rule (j : Int) 0) (s' := (g, ps, kp, bs, rp)) (u := w32 ((gR g (j + 1)).length : Int)) h h.2.2 ?_ (fun J sm => m_endG ?_)
        · unfold f_PR_rule
          rw [eh, bnd_some, if_neg (by decide), if_pos (by decide), g_body (by decide) hj, bnd_some, if_pos (rix_lt (by decide) (by omega)), (gc.2.1 (j + 1) (by omega)).2.1]
          exact tr_ret ⟨⟨_, rfl, rfl⟩, h.1, Fm.refl _ _⟩
        · unfold f_M_rule
          try dsimp only [ltI]
          rw [hd J sm, bnd_some, if_pos (by decide), chk_in (s7 J) (by decide)]
          refine mdl J sm (fun L ln gw => ?_)
          rw [if_pos (by decide), show (j : Int) + 1 = ((j + 1 : Nat) : Int) from rfl, m_many gw (by omega), bnd_some]
          exact tr_ret ⟨rfl, gw, Fm.refl _ _⟩
      · refine og_W (fp := f_PR_rule (j : Int) 1) (s' := (g, ps, kp, bs, rp)) (u := w32 (gUses g j)) h h.2.2 ?_ (fun J sm => m_endG ?_)
        · unfold f_PR_rule
          rw [eh, bnd_some, if_neg (by decide), if_neg (by decide), if_pos (by decide), g_usesOf gc (fun i hi => w.sy hi) hj, bnd_some]
          exact tr_ret ⟨⟨_, rfl, rfl⟩, h.1, Fm.refl _ _⟩
        · unfold f_M_rule
          try dsimp only [ltI]
          rw [hd J sm, bnd_some, if_pos (by decide), chk_in (s7 J) (by decide)]
          refine mdl J sm (fun L ln gw => ?_)
          rw [if_neg (by decide), if_pos (by decide), m_usesOf gw (fun i hi => w.sy hi) hj, bnd_some]
          exact tr_ret ⟨rfl, gw, Fm.refl _ _⟩
      · refine og_W (fp := f_PR_rule (j : Int) 2) (s' := (g, ps, kp, bs, rp)) (u := w32 (gL g j)) h h.2.2 ?_ (fun J sm => m_endG ?_)
        · unfold f_PR_rule
          rw [eh, bnd_some, if_neg (by decide), if_neg (by decide), if_neg (by decide), if_pos (by decide), g_lenR gc hj, bnd_some]
          exact tr_ret ⟨⟨_, rfl, rfl⟩, h.1, Fm.refl _ _⟩
        · unfold f_M_rule
          try dsimp only [ltI]
          rw [hd J sm, bnd_some, if_pos (by decide), chk_in (s7 J) (by decide)]
          refine mdl J sm (fun L ln gw => ?_)
          rw [if_neg (by decide), if_neg (by decide), if_pos (by decide), w26, if_pos (by omega), Int.toNat_natCast, (ln.2 j hj hn).1]
          exact tr_ret ⟨rfl, gw, Fm.refl _ _⟩
      · refine og_W (fp := f_PR_rule (j : Int) 3) (s' := (g, ps, kp, bs, rp)) (u := w32 (dp g (26 + (j : Int)))) h h.2.2 ?_ (fun J sm => m_endG ?_)
        · unfold f_PR_rule
          rw [eh, bnd_some, if_neg (by decide), if_neg (by decide), if_neg (by decide), if_neg (by decide), if_pos (by decide)]
          refine tr_call (t_measure gc w) ?_
          rintro _ K ⟨hm, f⟩
          have ed : f_Sv_depthOf (26 + (j : Int)) K = some (dp g (26 + (j : Int)), K) := by
            unfold f_Sv_depthOf
            rw [w26, if_neg (by omega), if_pos (by omega), show 26 + (j : Int) - 26 = (j : Int) by omega, w32_of (x := (j : Int)) (by omega) (by omega), if_pos (by omega), Int.toNat_natCast, (hm j hj hn).1]
          rw [ed, bnd_some]
          exact tr_ret ⟨⟨_, rfl, rfl⟩, h.1.sv f⟩
        · unfold f_M_rule
          try dsimp only [ltI]
          rw [hd J sm, bnd_some, if_pos (by decide), chk_in (s7 J) (by decide)]
          refine mdl J sm (fun L ln gw => ?_)
          rw [if_neg (by decide), if_neg (by decide), if_neg (by decide), if_pos (by decide), w26, if_pos (by omega), Int.toNat_natCast, (ln.2 j hj hn).2]
          exact tr_ret ⟨rfl, gw, Fm.refl _ _⟩
      · refine og_W (fp := f_PR_rule (j : Int) 4) (s' := (g, ps, kp, bs, rp)) (u := w32 (cm g j)) h h.2.2 ?_ (fun J sm => m_endG ?_)
        · unfold f_PR_rule
          rw [eh, bnd_some, if_neg (by decide), if_neg (by decide), if_neg (by decide), if_neg (by decide), if_neg (by decide), if_pos (by decide)]
          refine tr_call (t_measure gc w) ?_
          rintro _ K ⟨hm, f⟩
          have ed : f_Sv_comingsOf (j : Int) K = some (cm g j, K) := by
            unfold f_Sv_comingsOf
            rw [w32_of (x := (j : Int)) (by omega) (by omega), if_neg (by omega), if_pos (by omega), if_pos (by omega), Int.toNat_natCast, (hm j hj hn).2]
          rw [ed, bnd_some]
          exact tr_ret ⟨⟨_, rfl, rfl⟩, h.1.sv f⟩
        · unfold f_M_rule
          try dsimp only [ltI]
          rw [hd J sm, bnd_some, if_pos (by decide), chk_in (s7 J) (by decide)]
          refine mdl J sm (fun L ln gw => ?_)
          rw [if_neg (by decide), if_neg (by decide), if_neg (by decide), if_neg (by decide)]
          refine tr_call (t_comesOf gw w hj hn) ?_
          rintro x L' ⟨rfl, gw2, f⟩
          exact tr_ret ⟨rfl, gw2, f.mono (fun a b c z => z.elim (fn_l a b c) (fun q => by unfold FCM at q; unfold FMn; omega))⟩
    · refine og_X (fp := f_PR_rule (j : Int) a2) (E := xIA) (k := 2) h ?_ ?_ (by decide) (fun J sm => ?_)
      · unfold f_PR_rule
        rw [eh, bnd_some, if_neg (by decide), h2, if_neg (by omega), if_neg (by omega), if_neg (by omega), if_neg (by omega), if_neg (by omega)]
      · show (if xIA = xIO then _ else if xIA = xIA then _ else _) = _
        rw [if_neg (by decide), if_pos rfl]
      · unfold f_M_rule
        try dsimp only [ltI]
        rw [m_here (sI_self _ _ _ _ _) (sm.t7 (v := 0)).1 hj hn, bnd_some, if_pos (by decide)]
        exact t_outG sm (chk_out (sI_self _ _ _ _ _) (Or.inr rfl) (by rw [h2, w0, w32c 4 (by decide)]; omega))
  · refine og_X (fp := f_PR_rule a1 a2) (E := xIO) (k := 1) h ?_ (if_pos rfl) (by decide) (fun J sm => ?_)
    · unfold f_PR_rule
      rw [g_hasRuleI gc hb.1 hb.2, bI_neg hr, bnd_some, if_pos (by decide)]
    · unfold f_M_rule
      try dsimp only [ltI]
      rw [m_notHere (sI_self _ _ _ _ _) (sm.t7 (v := 0)).1 h1 hr, bnd_some, if_neg (by decide)]
      exact t_outG sm rfl
theorem sy_ne {l : List Int} (hs : SY l) {j : Nat} (hj : j < l.length) : ¬ w32 (l.getD j (-1)) = -1 := by
  have := hs.at hj
  rw [w32_of (by omega) (by omega)]
  omega
theorem og_8 (h : SI I s) (a1 : Int) (h1 : w32 a1 = a1) : OGW (f_L_startAt a1) (f_M_startAt a1) I := by
  obtain ⟨g, ps, kp, bs, rp⟩ := s
  have w : WF g := h.2.2.1
  have hb := w32_rng a1
  rw [h1] at hb
  have hrow : f_Row_at (43 * 0) a1 I = some (if a1 < 0 then -1 else (gR g 0).getD a1.toNat (-1), I) := row_atI (h.1.1.2.1 0 (by decide)) hb.1 hb.2
  have l4 := w.len400 0 (by decide)
  have wl : w32 (((gR g 0).length : Int) - 1) = ((gR g 0).length : Int) - 1 := w32_of (by omega) (by omega)
  by_cases hr : 0 ≤ a1 ∧ a1 < (gR g 0).length
  · obtain ⟨j, rfl, hj⟩ : ∃ j : Nat, a1 = (j : Int) ∧ j < (gR g 0).length := ⟨a1.toNat, by omega, by omega⟩
    refine og_W (fp := f_PR_startAt (j : Int)) (s' := (g, ps, kp, bs, rp)) (u := w32 ((gR g 0).getD j (-1))) h h.2.2 ?_ (fun J sm => m_endG ?_)
    · unfold f_PR_startAt
      rw [hrow, bnd_some, if_neg (by omega : ¬ (j : Int) < 0), Int.toNat_natCast, if_neg (sy_ne (w.sy (by decide)) hj)]
      exact tr_ret ⟨⟨_, rfl, rfl⟩, h.1, Fm.refl _ _⟩
    · have s0 := sm.t7 (v := 0)
      unfold f_M_startAt
      try dsimp only [ltI]
      rw [show f_M_many 0 (sI J 26 0 7 0) = _ from m_many s0.1 (i := 0) (by decide), bnd_some, chk_in (sI_self _ _ _ _ _) (by rw [h1, w0]; show 0 ≤ (j : Int) ∧ (j : Int) ≤ w32 (((gR g 0).length : Int) - 1); rw [wl]; omega), show f_M_at 0 (j : Int) (sI J 26 0 7 0) = _ from m_at s0.1 (i := 0) (by decide) hj, bnd_some]
      exact tr_ret ⟨rfl, s0, Fm.refl _ _⟩
  · refine og_X (fp := f_PR_startAt a1) (E := xIO) (k := 1) h ?_ (if_pos rfl) (by decide) (fun J sm => ?_)
    · unfold f_PR_startAt
      rw [hrow, bnd_some]
      have e : (if a1 < 0 then (-1 : Int) else (gR g 0).getD a1.toNat (-1)) = -1 := by
        by_cases q : a1 < 0
        · rw [if_pos q]
        · rw [if_neg q]
          exact getD_out (by omega)
      rw [e, if_pos (by decide)]
    · have s0 := sm.t7 (v := 0)
      unfold f_M_startAt
      try dsimp only [ltI]
      rw [show f_M_many 0 (sI J 26 0 7 0) = _ from m_many s0.1 (i := 0) (by decide), bnd_some]
      exact t_outG sm (chk_out (sI_self _ _ _ _ _) (Or.inl rfl) (by rw [h1, w0]; show a1 < 0 ∨ w32 (((gR g 0).length : Int) - 1) < a1; rw [wl]; omega))
theorem og_7 (h : SI I s) (a1 a2 : Int) (h1 : w32 a1 = a1) (h2 : w32 a2 = a2) : OGW (f_L_bodyAt a1 a2) (f_M_bodyAt a1 a2) I := by
  obtain ⟨g, ps, kp, bs, rp⟩ := s
  have w : WF g := h.2.2.1
  have gc : GC I 0 g := h.1.1
  have hb := w32_rng a1
  rw [h1] at hb
  have hb2 := w32_rng a2
  rw [h2] at hb2
  have hrw : ∀ l : List Int, RW I (if 0 ≤ a1 ∧ a1 < 40 then rix 0 (a1.toNat + 1) else 43 * 0 + 2) l → (if a2 < 0 then (-1 : Int) else l.getD a2.toNat (-1)) = -1 → f_PR_bodyAt a1 a2 I = some (.inr xIO, thrw I) := fun l hl e => by
    unfold f_PR_bodyAt
    rw [g_bodyI (by decide) hb.1 hb.2, bnd_some, if_pos hl.1, row_atI hl hb2.1 hb2.2, bnd_some, e, if_pos (by decide)]
  by_cases hr : 0 ≤ a1 ∧ a1 < 40 ∧ gR g (a1.toNat + 1) ≠ []
  · obtain ⟨j, rfl, hj⟩ : ∃ j : Nat, a1 = (j : Int) ∧ j < 40 := ⟨a1.toNat, by omega, by omega⟩
    have hn : gR g (j + 1) ≠ [] := by have := hr.2.2; rwa [Int.toNat_natCast] at this
    have l4 := w.len400 (j + 1) (by omega)
    have wl : w32 (((gR g (j + 1)).length : Int) - 1) = ((gR g (j + 1)).length : Int) - 1 := w32_of (by omega) (by omega)
    by_cases hr2 : 0 ≤ a2 ∧ a2 < (gR g (j + 1)).length
    · obtain ⟨q, rfl, hq⟩ : ∃ q : Nat, a2 = (q : Int) ∧ q < (gR g (j + 1)).length := ⟨a2.toNat, by omega, by omega⟩
      refine og_W (fp := f_PR_bodyAt (j : Int) (q : Int)) (s' := (g, ps, kp, bs, rp)) (u := w32 ((gR g (j + 1)).getD q (-1))) h h.2.2 ?_ (fun J sm => m_endG ?_)
      · unfold f_PR_bodyAt
        rw [g_body (by decide) hj, bnd_some, if_pos (rix_lt (by decide) (by omega)), row_atI (gc.2.1 (j + 1) (by omega)) hb2.1 hb2.2, bnd_some, if_neg (by omega : ¬ (q : Int) < 0), Int.toNat_natCast, if_neg (sy_ne (w.sy (by omega)) hq)]
        exact tr_ret ⟨⟨_, rfl, rfl⟩, h.1, Fm.refl _ _⟩
      · have s0 := sm.t7 (v := 0)
        unfold f_M_bodyAt
        try dsimp only [ltI]
        rw [m_here (sI_self _ _ _ _ _) s0.1 hj hn, bnd_some, if_pos (by decide), show (j : Int) + 1 = ((j + 1 : Nat) : Int) from rfl, m_many s0.1 (by omega), bnd_some, chk_in (sI_self _ _ _ _ _) (by rw [h2, w0]; show 0 ≤ (q : Int) ∧ (q : Int) ≤ w32 (((gR g (j + 1)).length : Int) - 1); rw [wl]; omega), m_at s0.1 (by omega) hq, bnd_some]
        exact tr_ret ⟨rfl, s0, Fm.refl _ _⟩
    · refine og_X (fp := f_PR_bodyAt (j : Int) a2) (E := xIO) (k := 1) h (hrw (gR g (j + 1)) ?_ ?_) (if_pos rfl) (by decide) (fun J sm => ?_)
      · rw [if_pos (by omega), Int.toNat_natCast]
        exact gc.2.1 (j + 1) (by omega)
      · by_cases q : a2 < 0
        · rw [if_pos q]
        · rw [if_neg q]
          exact getD_out (by omega)
      · have s0 := sm.t7 (v := 0)
        unfold f_M_bodyAt
        try dsimp only [ltI]
        rw [m_here (sI_self _ _ _ _ _) s0.1 hj hn, bnd_some, if_pos (by decide), show (j : Int) + 1 = ((j + 1 : Nat) : Int) from rfl, m_many s0.1 (by omega), bnd_some]
        exact t_outG sm (chk_out (sI_self _ _ _ _ _) (Or.inl rfl) (by rw [h2, w0]; show a2 < 0 ∨ w32 (((gR g (j + 1)).length : Int) - 1) < a2; rw [wl]; omega))
  · have hl : ∃ l : List Int, l = [] ∧ RW I (if 0 ≤ a1 ∧ a1 < 40 then rix 0 (a1.toNat + 1) else 43 * 0 + 2) l := by
      by_cases q : 0 ≤ a1 ∧ a1 < 40
      · rw [if_pos q]
        exact ⟨_, Classical.byContradiction (fun z => hr ⟨q.1, q.2, z⟩), gc.2.1 (a1.toNat + 1) (by omega)⟩
      · rw [if_neg q]
        exact ⟨_, rfl, gc.2.2.2.1⟩
    obtain ⟨l, rfl, hl⟩ := hl
    refine og_X (fp := f_PR_bodyAt a1 a2) (E := xIO) (k := 1) h (hrw [] hl ?_) (if_pos rfl) (by decide) (fun J sm => ?_)
    · by_cases q : a2 < 0
      · rw [if_pos q]
      · rw [if_neg q]
        rfl
    · unfold f_M_bodyAt
      try dsimp only [ltI]
      rw [m_notHere (sI_self _ _ _ _ _) (sm.t7 (v := 0)).1 h1 hr, bnd_some, if_neg (by decide)]
      exact t_outG sm rfl
theorem og_12 (h : SI I s) (a1 : Int) (h1 : w32 a1 = a1) : OGW (f_L_account a1) (f_M_account a1) I := by
  obtain ⟨g, ps, kp, bs, rp⟩ := s
  by_cases hr : 0 ≤ a1 ∧ a1 < 9
  · obtain ⟨j, rfl, hj⟩ : ∃ j : Nat, a1 = (j : Int) ∧ j < 9 := ⟨a1.toNat, by omega, by omega⟩
    refine og_W (fp := f_PR_account (j : Int)) (s' := (g, ps, kp, bs, rp)) (u := w32 (gA g j)) h h.2.2 ?_ (fun J sm => m_endG ?_)
    · unfold f_PR_account
      rw [h1, if_neg (by omega), if_pos (by omega), g_accountOf h.1.1 hj, bnd_some]
      exact tr_ret ⟨⟨_, rfl, rfl⟩, h.1, Fm.refl _ _⟩
    · have s0 := sm.t7 (v := 0)
      unfold f_M_account
      try dsimp only [ltI]
      rw [chk_in (sI_self _ _ _ _ _) (by rw [h1, w0, w32c 8 (by decide)]; omega), w32c (6 + (j : Int)) (by omega), if_pos (by omega), show ((6 : Int) + (j : Int)).toNat = 6 + j by omega, s0.1.2.2.2.2.1 j hj]
      exact tr_ret ⟨rfl, s0, Fm.refl _ _⟩
  · refine og_X (fp := f_PR_account a1) (E := xIA) (k := 1) h ?_ (if_pos rfl) (by decide) (fun J sm => ?_)
    · unfold f_PR_account
      rw [h1]
      by_cases q : a1 < 0
      · rw [if_pos q]
      · rw [if_neg q, if_neg (by omega)]
    · unfold f_M_account
      exact t_outG sm (chk_out (sI_self _ _ _ _ _) (Or.inl rfl) (by rw [h1, w0, w32c 8 (by decide)]; omega))
theorem og_14 (h : SI I s) : OGI f_PR_rulesGap f_M_rulesGap I := by
  obtain ⟨g, ps, kp, bs, rp⟩ := s
  have gc : GC I 0 g := h.1.1
  refine og_I (s' := (g, ps, kp, bs, rp)) (u := w32 (((((gN g 3 + gA g 1) - gA g 2) - gA g 3) - gA g 4) - nRules g)) h h.2.2 ?_ (fun J sm => m_endI ?_)
  · unfold f_PR_rulesGap
    rw [show (1 : Int) = ((1 : Nat) : Int) from rfl, show (2 : Int) = ((2 : Nat) : Int) from rfl, show (3 : Int) = ((3 : Nat) : Int) from rfl, show (4 : Int) = ((4 : Nat) : Int) from rfl, g_accountOf gc (by decide), bnd_some, g_accountOf gc (by decide), bnd_some, g_accountOf gc (by decide), bnd_some, g_accountOf gc (by decide), bnd_some, g_manyRules gc, bnd_some, gc.2.2.2.2.2.2.2.2.2]
    exact tr_ret ⟨rfl, h.1, Fm.refl _ _⟩
  · have s0 := sm.t7 (v := 0)
    have gw : GW (sI J 26 0 7 0) g := s0.1
    unfold f_M_rulesGap
    try dsimp only [ltI]
    rw [m_rules gw, bnd_some, gw.2.2.2.2.2.2.2.2]
    rw [show (sI J 26 0 7 0) 27 0 7 = gA g 1 from gw.2.2.2.2.1 1 (by decide), show (sI J 26 0 7 0) 27 0 8 = gA g 2 from gw.2.2.2.2.1 2 (by decide), show (sI J 26 0 7 0) 27 0 9 = gA g 3 from gw.2.2.2.2.1 3 (by decide), show (sI J 26 0 7 0) 27 0 10 = gA g 4 from gw.2.2.2.2.1 4 (by decide)]
    exact tr_ret ⟨rfl, s0, Fm.refl _ _⟩
theorem og_11 (h : SI I s) (a1 : Int) (h1 : w32 a1 = a1) : OGW (f_L_letters a1) (f_M_letters a1) I := by
  obtain ⟨g, ps, kp, bs, rp⟩ := s
  have w : WF g := h.2.2.1
  have hb := w32_rng a1
  rw [h1] at hb
  by_cases hr : 0 ≤ a1 ∧ a1 < 26
  · refine og_W (fp := f_PR_letters a1) (s' := (g, ps, kp, bs, rp)) (u := w32 ((gTx g).count a1 : Int)) h h.2.2 ?_ (fun J sm => m_endG ?_)
    · unfold f_PR_letters
      rw [p_isLetter hb.1 hb.2, bI_pos hr, bnd_some, if_neg (by decide)]
      refine tr_call (t_unfold h.1.1 w) ?_
      rintro _ K ⟨tx, f⟩
      rw [s_times tx (LET_g w) hr, bnd_some]
      exact tr_ret ⟨⟨_, rfl, rfl⟩, h.1.sv f⟩
    · have s0 := sm.t7 (v := 0)
      unfold f_M_letters
      try dsimp only [ltI]
      rw [chk_in (sI_self _ _ _ _ _) (by rw [h1, w0, w32c 25 (by decide)]; omega)]
      refine tr_call (t_mlettersOf s0.1 w hr) ?_
      rintro x K ⟨rfl, gw, f⟩
      exact tr_ret ⟨rfl, s0.rdq (f.mono fn_u) gw⟩
  · refine og_X (fp := f_PR_letters a1) (E := xIA) (k := 1) h ?_ (if_pos rfl) (by decide) (fun J sm => ?_)
    · unfold f_PR_letters
      rw [p_isLetter hb.1 hb.2, bI_neg hr, bnd_some, if_pos (by decide)]
    · unfold f_M_letters
      exact t_outG sm (chk_out (sI_self _ _ _ _ _) (Or.inl rfl) (by rw [h1, w0, w32c 25 (by decide)]; omega))
end READS2
end
section
/-! ===== every call that reads, third part ===== -/
section READS3
variable {I J : Mem} {g g' : GS} {ps : List GS} {kp : Nat → Option GS} {bs rp : List Int} {s : SS}
theorem t_placeIn (gw : GW J g) (w : WF g) (h7 : J 26 0 7 = 0) {j : Nat} (hj : j < (gTx g).length) : Tr (f_M_noPlace (j : Int) J) (fun x K => x = 0 ∧ UNF K g (gTx g) ∧ GW K g ∧ Fm FUN J K) := by
  have l4 := gTx_len w
  have l5 : (gT g).length ≤ 400 := w.2.2.2.2.1
  unfold f_M_noPlace
  refine tr_call (t_munfolds gw w) ?_
  rintro x K ⟨rfl, hu, f⟩
  rw [m_in1 (by rw [w32_of (x := (j : Int)) (by omega) (by omega), w0, w32_of (x := ((gTx g).length : Int) - 1) (by omega) (by omega)]; omega), bnd_some, if_neg (by decide), m_fz (by rw [f.at (by decide) (by unfold FUN; omega), h7]), bnd_some, if_pos (Or.inl rfl)]
  exact tr_ret ⟨rfl, hu, gw.fun_ f, f⟩
theorem t_placeOut (gw : GW J g) (w : WF g) (h7 : J 26 0 7 = 0) {a1 : Int} (h1 : w32 a1 = a1) (hr : ¬ (0 ≤ a1 ∧ a1 < (gTx g).length)) : Tr (f_M_noPlace a1 J) (fun x K => x = 1 ∧ ∃ K0 : Mem, K = sI K0 26 0 7 1 ∧ GW K0 g ∧ Fm FUN J K0) := by
  have l4 := gTx_len w
  have l5 : (gT g).length ≤ 400 := w.2.2.2.2.1
  unfold f_M_noPlace
  refine tr_call (t_munfolds gw w) ?_
  rintro x K ⟨rfl, hu, f⟩
  rw [m_in0 (by rw [h1, w0, w32_of (x := ((gTx g).length : Int) - 1) (by omega) (by omega)]; omega), bnd_some, if_pos (by decide), m_f1 (by rw [f.at (by decide) (by unfold FUN; omega), h7]) (Or.inl rfl), bnd_some, if_pos (Or.inr rfl)]
  exact tr_ret ⟨rfl, K, rfl, gw.fun_ f, f⟩
theorem m_placeX {e : Option (Int × Mem)} {fm : Int → Mem → Option (Int × Mem)} (sm : SM J (g, ps, kp, bs, rp)) (w : WF g) {a1 : Int} (h1 : w32 a1 = a1) (hr : ¬ (0 ≤ a1 ∧ a1 < (gTx g).length)) {K : Int → Mem → Option (Int × Mem)} (hk : ∀ (x : Int) (L : Mem), x = 1 → K x L = some (0, L)) : Tr (bnd (f_M_noPlace a1 (sI J 26 0 7 0)) K) (fun _ L => L 26 0 7 = 1 ∧ SM L (g, ps, kp, bs, rp) ∧ Fm FMo J L) := by
  have s0 := sm.t7 (v := 0)
  refine tr_call (t_placeOut s0.1 w (sI_self _ _ _ _ _) h1 hr) ?_
  rintro x L ⟨rfl, K0, rfl, gw, f⟩
  rw [hk 1 _ rfl]
  have s1 := (s0.rdq (f.mono fn_u) gw)
  exact tr_ret ⟨sI_self _ _ _ _ _, s1.1.t7, f7_mo.trans ((f.mono (fun a b c z => by unfold FUN at z; unfold FMo; omega)).trans f7_mo)⟩
theorem og_9 (h : SI I s) (a1 : Int) (h1 : w32 a1 = a1) : OGW (f_L_letterAt a1) (f_M_letterAt a1) I := by
  obtain ⟨g, ps, kp, bs, rp⟩ := s
  have w : WF g := h.2.2.1
  have l4 := gTx_len w
  have l5 : (gT g).length ≤ 400 := w.2.2.2.2.1
  have hT : ll (gL g) (gR g 0) = (gT g).length := w.2.2.1
  have et : f_G_textLength 0 I = some (((gT g).length : Int), I) := by rw [g_textLength h.1.1 (fun i hi => w.sy hi)]; show some (ll (gL g) (gR g 0), I) = _; rw [hT]
  by_cases hr : 0 ≤ a1 ∧ a1 < (gTx g).length
  · obtain ⟨j, rfl, hj⟩ : ∃ j : Nat, a1 = (j : Int) ∧ j < (gTx g).length := ⟨a1.toNat, by omega, by omega⟩
    refine og_W (fp := f_PR_letterAt (j : Int)) (s' := (g, ps, kp, bs, rp)) (u := w32 ((gTx g).getD j (-1))) h h.2.2 ?_ (fun J sm => m_endG ?_)
    · unfold f_PR_letterAt
      rw [h1, if_neg (by omega), et, bnd_some, w32_of (x := ((gT g).length : Int)) (by omega) (by omega), if_pos (by omega), g_letterOfText h.1.1 w hj, bnd_some]
      exact tr_ret ⟨⟨_, rfl, rfl⟩, h.1, Fm.refl _ _⟩
    · have s0 := sm.t7 (v := 0)
      unfold f_M_letterAt
      try dsimp only [ltI]
      refine tr_call (t_placeIn s0.1 w (sI_self _ _ _ _ _) hj) ?_
      rintro x K ⟨rfl, hu, gw, f⟩
      rw [if_pos (by decide), h1, if_pos (by omega), Int.toNat_natCast, (hu j hj).1]
      exact tr_ret ⟨rfl, s0.rdq (f.mono fn_u) gw⟩
  · refine og_X (fp := f_PR_letterAt a1) (E := xIO) (k := 1) h ?_ (if_pos rfl) (by decide) (fun J sm => ?_)
    · unfold f_PR_letterAt
      rw [h1]
      by_cases q : a1 < 0
      · rw [if_pos q]
      · rw [if_neg q, et, bnd_some, w32_of (x := ((gT g).length : Int)) (by omega) (by omega), if_neg (by omega)]
    · unfold f_M_letterAt
      try dsimp only [ltI]
      exact m_placeX (e := none) (fm := fun _ _ => none) sm w h1 hr (fun x L e => by rw [e, if_neg (by decide)])
theorem og_10 (h : SI I s) (a1 : Int) (h1 : w32 a1 = a1) : OGW (f_L_symbolOf a1) (f_M_symbolOf a1) I := by
  obtain ⟨g, ps, kp, bs, rp⟩ := s
  have w : WF g := h.2.2.1
  have l4 := gTx_len w
  have l5 : (gT g).length ≤ 400 := w.2.2.2.2.1
  have hT : ll (gL g) (gR g 0) = (gT g).length := w.2.2.1
  have et : f_G_textLength 0 I = some (((gT g).length : Int), I) := by rw [g_textLength h.1.1 (fun i hi => w.sy hi)]; show some (ll (gL g) (gR g 0), I) = _; rw [hT]
  by_cases hr : 0 ≤ a1 ∧ a1 < (gTx g).length
  · obtain ⟨j, rfl, hj⟩ : ∃ j : Nat, a1 = (j : Int) ∧ j < (gTx g).length := ⟨a1.toNat, by omega, by omega⟩
    refine og_W (fp := f_PR_symbolOf (j : Int)) (s' := (g, ps, kp, bs, rp)) (u := w32 (pO (gL g) (gR g 0) (j : Int))) h h.2.2 ?_ (fun J sm => m_endG ?_)
    · unfold f_PR_symbolOf
      rw [h1, if_neg (by omega), et, bnd_some, w32_of (x := ((gT g).length : Int)) (by omega) (by omega), if_pos (by omega), show 43 * 0 = rix 0 0 from rfl, g_placeOver h.1.1 w (by decide) (by omega), bnd_some]
      exact tr_ret ⟨⟨_, rfl, rfl⟩, h.1, Fm.refl _ _⟩
    · have s0 := sm.t7 (v := 0)
      unfold f_M_symbolOf
      try dsimp only [ltI]
      refine tr_call (t_placeIn s0.1 w (sI_self _ _ _ _ _) hj) ?_
      rintro x K ⟨rfl, hu, gw, f⟩
      obtain ⟨k, hk, hk2, hk3, hk4⟩ := (hu j hj).2
      rw [if_pos (by decide), h1, if_pos (by omega), Int.toNat_natCast, hk, ← pO_uniq w (w.1 0 (by decide)) hk2 hk3 hk4]
      exact tr_ret ⟨rfl, s0.rdq (f.mono fn_u) gw⟩
  · refine og_X (fp := f_PR_symbolOf a1) (E := xIO) (k := 1) h ?_ (if_pos rfl) (by decide) (fun J sm => ?_)
    · unfold f_PR_symbolOf
      rw [h1]
      by_cases q : a1 < 0
      · rw [if_pos q]
      · rw [if_neg q, et, bnd_some, w32_of (x := ((gT g).length : Int)) (by omega) (by omega), if_neg (by omega)]
    · unfold f_M_symbolOf
      try dsimp only [ltI]
      exact m_placeX (e := none) (fm := fun _ _ => none) sm w h1 hr (fun x L e => by rw [e, if_neg (by decide)])
theorem og_13 (h : SI I s) : OGI f_PR_gap f_M_gap I := by
  obtain ⟨g, ps, kp, bs, rp⟩ := s
  have w : WF g := h.2.2.1
  refine og_I (s' := (g, ps, kp, bs, rp)) (u := w32 (gapN (gTx g) (gT g))) h h.2.2 ?_ (fun J sm => ?_)
  · unfold f_PR_gap
    refine tr_call (t_unfold h.1.1 w) ?_
    rintro _ K ⟨tx, f⟩
    rw [s_gap tx (h.1.1.fsv f).2.2.1, bnd_some]
    exact tr_ret ⟨rfl, h.1.sv f⟩
  · refine tr_mono (t_mgap sm.1 w) ?_
    rintro x K ⟨rfl, gw, f, -⟩
    exact ⟨rfl, sm.op (f.mono (fun a b c z => by unfold FUN at z; unfold FMp; omega)) gw, f.mono (fun a b c z => by unfold FUN at z; unfold FMo; omega)⟩
theorem og_17 (h : SI I s) : ∃ (r1 r2 : Int) (J K : Mem) (s' : SS), f_PR_digest I = some (r1, J) ∧ f_M_digest J = some (r2, K) ∧ w64 r1 = w64 r2 ∧ SI K s' ∧ Rm I K := by
  obtain ⟨g, ps, kp, bs, rp⟩ := s
  have w : WF g := h.2.2.1
  have hc : Tr (f_PR_digest I) (fun x K => x = dgN (gTx g) (gTx g).length ∧ SC K (g, ps, kp, bs, rp) ∧ Fm FCl I K) := by
    unfold f_PR_digest
    refine tr_call (t_unfold h.1.1 w) ?_
    rintro _ K ⟨tx, f⟩
    rw [s_number tx, bnd_some]
    exact tr_ret ⟨rfl, h.1.sv f⟩
  obtain ⟨r1, J, e1, u1, c1, f1⟩ := hc
  have sm := h.2.1.cl f1
  obtain ⟨r2, K, e2, u2, gw, f2, -⟩ := t_mdigest sm.1 w
  have f2o : Fm FMo J K := f2.mono (fun a b c z => by unfold FUN at z; unfold FMo; omega)
  exact ⟨r1, r2, J, K, (g, ps, kp, bs, rp), e1, e2, by rw [u1, u2], ⟨c1.mo f2o, sm.op (f2.mono (fun a b c z => by unfold FUN at z; unfold FMp; omega)) gw, h.2.2⟩, rm_2 f1 f2o⟩
theorem cz_w (g : GS) (p : Nat) : w32 (cz g p zE) = cz g p zE := by
  have := cz_rng g p zE
  have := zE_eq
  exact w32_of (by omega) (by omega)
theorem kz_w (g : GS) (p : Nat) : w32 (kz g p 40) = kz g p 40 := by
  have := kz_rng g p 40
  exact w32_of (by omega) (by omega)
theorem og_18 (h : SI I s) (a1 a2 : Int) (h1 : w32 a1 = a1) (h2 : w32 a2 = a2) : OGW (f_L_count a1 a2) (f_M_count a1 a2) I := by
  obtain ⟨g, ps, kp, bs, rp⟩ := s
  have w : WF g := h.2.2.1
  by_cases hr : (0 ≤ a1 ∧ a1 < 66) ∧ 0 ≤ a2 ∧ a2 < 66
  · obtain ⟨p, hp, e1, e2⟩ := nat_pair hr
    refine og_W (fp := f_PR_count a1 a2) (s' := (g, ps, kp, bs, rp)) (u := w32 (cz g p zE)) h h.2.2 ?_ (fun J sm => m_endG ?_)
    · unfold f_PR_count
      rw [sym_in h1 hr.1, bnd_some, if_neg (by decide), sym_in h2 hr.2, bnd_some, if_neg (by decide)]
      refine tr_call (t_readFrom h.1.1 w h.1.2.2.1) ?_
      rintro _ K ⟨pd, pt, gc, f⟩
      rw [p_pairOf hr.1 hr.2, bnd_some, e1, p_countOf pd.1 hp, bnd_some]
      exact tr_ret ⟨⟨_, rfl, rfl⟩, h.1.pa f gc pt⟩
    · have s0 := sm.t7 (v := 0)
      unfold f_M_count
      try dsimp only [ltI]
      rw [m_noPair1 (sI_self _ _ _ _ _) h1 h2 hr, bnd_some, if_pos (by decide)]
      refine tr_call (t_laysPairs s0.1 (fun i hi => w.sy hi)) ?_
      rintro _ K ⟨mp, gw, f⟩
      unfold f_M_pair
      rw [bnd_some, e2, w32_of (x := (p : Int)) (by omega) (by omega), if_pos (by omega), Int.toNat_natCast, (mp p hp).1]
      exact tr_ret ⟨rfl, s0.rdq (f.mono fn_mp) gw⟩
  · refine pair_xG (fp := f_PR_count) (fm := f_M_count) h h1 h2 hr (fun x y ex ey z => ?_) (fun J e => ?_) (if_pos rfl)
    · unfold f_PR_count
      rw [ex, bnd_some]
      rcases z with z | ⟨z1, z2⟩
      · rw [if_pos z]
      · rw [if_neg z1, ey, bnd_some, if_pos z2]
    · unfold f_M_count
      try dsimp only [ltI]
      rw [e, bnd_some, if_neg (by decide)]
theorem og_21 (h : SI I s) (a1 a2 : Int) (h1 : w32 a1 = a1) (h2 : w32 a2 = a2) : OGW (f_L_gain a1 a2) (f_M_gain a1 a2) I := by
  obtain ⟨g, ps, kp, bs, rp⟩ := s
  have w : WF g := h.2.2.1
  by_cases hr : (0 ≤ a1 ∧ a1 < 66) ∧ 0 ≤ a2 ∧ a2 < 66
  · obtain ⟨p, hp, e1, e2⟩ := nat_pair hr
    refine og_W (fp := f_PR_gain a1 a2) (s' := (g, ps, kp, bs, rp)) (u := w32 (if cz g p zE = 0 then 0 else cz g p zE - (if kz g p 40 = -1 then 2 else 0))) h h.2.2 ?_ (fun J sm => m_endG ?_)
    · unfold f_PR_gain
      rw [sym_in h1 hr.1, bnd_some, if_neg (by decide), sym_in h2 hr.2, bnd_some, if_neg (by decide)]
      refine tr_call (t_readFrom h.1.1 w h.1.2.2.1) ?_
      rintro _ K ⟨pd, pt, gc, f⟩
      rw [p_pairOf hr.1 hr.2, bnd_some, e1, p_countOf pd.1 hp, bnd_some, cz_w]
      by_cases q : cz g p zE = 0
      · rw [if_pos q, if_pos q]
        exact tr_ret ⟨⟨_, rfl, by rw [q]⟩, h.1.pa f gc pt⟩
      · rw [if_neg q, if_neg q, p_keptOf pd.1 hp, bnd_some, kz_w]
        by_cases q2 : kz g p 40 = -1
        · rw [if_pos q2, if_pos q2]
          exact tr_ret ⟨⟨_, rfl, rfl⟩, h.1.pa f gc pt⟩
        · rw [if_neg q2, if_neg q2]
          exact tr_ret ⟨⟨_, rfl, by rw [Int.sub_zero]⟩, h.1.pa f gc pt⟩
    · have s0 := sm.t7 (v := 0)
      unfold f_M_gain
      try dsimp only [ltI]
      rw [m_noPair1 (sI_self _ _ _ _ _) h1 h2 hr, bnd_some, if_pos (by decide)]
      refine tr_call (t_laysPairs s0.1 (fun i hi => w.sy hi)) ?_
      rintro _ K ⟨mp, gw, f⟩
      unfold f_M_pair
      rw [bnd_some, e2, w32_of (x := (p : Int)) (by omega) (by omega), if_pos (by omega), Int.toNat_natCast, (mp p hp).1, (mp p hp).2.1]
      show Tr (if w32 (cz g p zE) = 0 then _ else some (cz g p zE - (if w32 (kz g p 40) = -1 then 2 else 0), K)) _
      rw [cz_w, kz_w]
      by_cases q : cz g p zE = 0
      · rw [if_pos q, if_pos q]
        exact tr_ret ⟨rfl, s0.rdq (f.mono fn_mp) gw⟩
      · rw [if_neg q, if_neg q]
        exact tr_ret ⟨rfl, s0.rdq (f.mono fn_mp) gw⟩
  · refine pair_xG (fp := f_PR_gain) (fm := f_M_gain) h h1 h2 hr (fun x y ex ey z => ?_) (fun J e => ?_) (if_pos rfl)
    · unfold f_PR_gain
      rw [ex, bnd_some]
      rcases z with z | ⟨z1, z2⟩
      · rw [if_pos z]
      · rw [if_neg z1, ey, bnd_some, if_pos z2]
    · unfold f_M_gain
      try dsimp only [ltI]
      rw [e, bnd_some, if_neg (by decide)]
theorem og_26 (h : SI I s) : OGI f_PR_inlinable f_M_inlinable I := by
  obtain ⟨g, ps, kp, bs, rp⟩ := s
  have w : WF g := h.2.2.1
  obtain ⟨x1, g1⟩ := h.1.2.1 1 (by decide)
  refine og_I (s' := (g, ps, kp, bs, rp)) (u := w32 ((inlG 40 g).1 : Int)) h h.2.2 ?_ (fun J sm => m_endI ?_)
  · unfold f_PR_inlinable
    refine tr_call (t_gtakeFrom g1 h.1.1 (by decide)) ?_
    rintro _ J1 ⟨gc, f1⟩
    refine tr_call (t_inlineAll gc w) ?_
    rintro x J2 ⟨rfl, gc2, -, f2⟩
    have ff : Fm FOp I J2 := (f1.mono fo_g1).trans (f2.mono fo_u1)
    exact tr_ret ⟨rfl, h.1.op ff ((h.1.1.fm f1 (fun k i s z q => by unfold FG at z q; omega)).fm f2 (fun k i s z q => by unfold FG at z; unfold FGU FG at q; omega)) ⟨_, gc2⟩ ((pt_g h.1.2.2.1 f1).fgu f2), ff.mono fop_cl⟩
  · have s0 := sm.t7 (v := 0)
    unfold f_M_inlinable
    try dsimp only [ltI]
    generalize sI J 26 0 7 0 = J0 at s0
    refine tr_call (P := fun _ K => (∀ s : Nat, s < 16860 → K 27 1 s = J0 27 0 s) ∧ GW K g ∧ Fm FMn J0 K) ?_ ?_
    · unfold f_M_aside
      refine tr_call (t_mlays (k := 0) (b := 0) (k' := 1) (b' := 0) (I := J0) (by decide) (by decide) (by decide) (by decide) (by decide) (by decide) (by decide)) ?_
      rintro _ K ⟨hh, f⟩
      exact tr_ret ⟨fun s hs => by have := hh s hs; rwa [Nat.zero_add] at this, s0.1.fm f (fun s _ z => absurd z.2.1 (by decide)), f.mono (fun a b c z => by unfold FMn; omega)⟩
    rintro _ K1 ⟨hc, gw1, f1⟩
    refine tr_call (t_minlines gw1 w) ?_
    rintro x K2 ⟨rfl, -, f2⟩
    refine tr_call (P := fun x K => x = ((inlG 40 g).1 : Int) ∧ GW K g ∧ Fm FMn K2 K) ?_ ?_
    · unfold f_M_back
      refine tr_call (t_mlays (k := 1) (b := 0) (k' := 0) (b' := 0) (I := K2) (by decide) (by decide) (by decide) (by decide) (by decide) (by decide) (by decide)) ?_
      rintro _ K ⟨hh, f⟩
      refine tr_ret ⟨rfl, GWf.congr s0.1 (fun s hs => ?_), f.mono (fun a b c z => by unfold FMn; omega)⟩
      have h2 := hh s hs
      rw [Nat.zero_add] at h2
      rw [h2, f2.at (by decide) (by unfold FW; omega), hc s hs]
    · rintro x K3 ⟨rfl, gw3, f3⟩
      exact tr_ret ⟨rfl, s0.rdq (f1.trans ((f2.mono fn_w).trans f3)) gw3⟩
theorem og_35 (h : SI I s) (a1 : Int) (h1 : w32 a1 = a1) : OGI (f_PR_reportByte a1) (f_M_reportByte a1) I := by
  obtain ⟨g, ps, kp, bs, rp⟩ := s
  have hl : rp.length < 70000 := h.2.2.2.2.2.2.1
  obtain ⟨r1, r2, r3, r4⟩ := h.1.2.2.2.2.2.2
  have r1 : I 10 0 1 = (rp.length : Int) := r1
  have r2 : (rp.length : Int) ≤ I 10 0 2 := r2
  by_cases hr : 0 ≤ a1 ∧ a1 < rp.length
  · obtain ⟨j, rfl, hj⟩ : ∃ j : Nat, a1 = (j : Int) ∧ j < rp.length := ⟨a1.toNat, by omega, by omega⟩
    refine og_I (s' := (g, ps, kp, bs, rp)) (u := w32 (rp.getD j 0)) h h.2.2 ?_ (fun J sm => m_endI ?_)
    · unfold f_PR_reportByte f_Rep_at
      rw [h1, if_neg (by omega), r1, w32_of (x := (rp.length : Int)) (by omega) (by omega), if_pos (by omega), if_pos (by omega), bnd_some, Int.toNat_natCast, r4 j hj]
      exact tr_ret ⟨rfl, h.1, Fm.refl _ _⟩
    · have s0 := sm.t7 (v := 0)
      have e43 : (sI J 26 0 7 0) 26 0 43 = (rp.length : Int) := s0.2.2.2.2.1
      unfold f_M_reportByte
      try dsimp only [ltI]
      rw [e43, m_in1 (by rw [h1, w0, w32_of (x := (rp.length : Int) - 1) (by omega) (by omega)]; omega), bnd_some, if_neg (by decide), h1, if_pos (by omega), Int.toNat_natCast, s0.2.2.2.2.2 j hj]
      exact tr_ret ⟨rfl, s0, Fm.refl _ _⟩
  · refine og_I (s' := (g, ps, kp, bs, rp)) (u := -1) h h.2.2 ?_ (fun J sm => m_endI ?_)
    · have e : f_Rep_at a1 I = some (-1, I) := by
        unfold f_Rep_at
        rw [h1]
        by_cases q : a1 < 0
        · rw [if_pos q]
        · rw [if_neg q, r1, w32_of (x := (rp.length : Int)) (by omega) (by omega), if_neg (by omega)]
      unfold f_PR_reportByte
      rw [e, bnd_some]
      exact tr_ret ⟨by decide, h.1, Fm.refl _ _⟩
    · have s0 := sm.t7 (v := 0)
      have e43 : (sI J 26 0 7 0) 26 0 43 = (rp.length : Int) := s0.2.2.2.2.1
      unfold f_M_reportByte
      try dsimp only [ltI]
      rw [e43, m_in0 (by rw [h1, w0, w32_of (x := (rp.length : Int) - 1) (by omega) (by omega)]; omega), bnd_some, if_pos (by decide)]
      exact tr_ret ⟨by decide, s0, Fm.refl _ _⟩
/-- calls whose answers nobody compares -/
abbrev OGT (fc fm : Mem → Option (Int × Mem)) (I : Mem) : Prop := ∃ (r1 r2 : Int) (J K : Mem) (s' : SS), fc I = some (r1, J) ∧ fm J = some (r2, K) ∧ SI K s' ∧ Rm I K
theorem og_3 (h : SI I s) : OGT f_PR_errorPosition f_M_errorPosition I :=
  ⟨_, _, I, sI I 26 0 7 0, s, rfl, rfl, ⟨h.1.mo f7_mo, h.2.1.t7, h.2.2⟩, rm_2 (Fm.refl _ _) f7_mo⟩
end READS3
end
section
/-! ===== best, why, and what steps will bring ===== -/
section READS4
variable {I J : Mem} {g g' : GS} {ps : List GS} {kp : Nat → Option GS} {bs rp : List Int} {s : SS}
theorem ahd_total (w : WF g) {p o : Nat} (hp : p < 4356) (ho : o < 4356) (hne : p ≠ o) (h1 : wz g p = true) (h2 : wz g o = true) : ahd g p o ∨ ahd g o p := by
  have hk := ky_ne w hp ho hne (wz_cz w h1) (wz_cz w h2)
  unfold ahd
  omega
theorem ahd_trans {p q r : Nat} (h : ahd g p q) (k : ahd g q r) : ahd g p r := by
  unfold ahd at *
  omega
theorem best_ex (w : WF g) : ∀ n : Nat, n ≤ 4356 → (∃ p : Nat, p < n ∧ wz g p = true) → ∃ b : Nat, b < n ∧ wz g b = true ∧ ∀ q : Nat, q < n → wz g q = true → q ≠ b → ahd g b q := by
  intro n
  induction n with
  | zero => rintro _ ⟨p, hp, _⟩; omega
  | succ n ih =>
    rintro hn ⟨p, hp, hw⟩
    by_cases hex : ∃ p : Nat, p < n ∧ wz g p = true
    · obtain ⟨b, hb, hbw, hba⟩ := ih (by omega) hex
      by_cases hnw : wz g n = true
      · rcases ahd_total w (p := b) (o := n) (by omega) (by omega) (by omega) hbw hnw with z | z
        · refine ⟨b, by omega, hbw, fun q hq hqw hne => ?_⟩
          by_cases e : q = n
          · subst e; exact z
          · exact hba q (by omega) hqw hne
        · refine ⟨n, by omega, hnw, fun q hq hqw hne => ?_⟩
          by_cases e : q = b
          · subst e; exact z
          · exact ahd_trans z (hba q (by omega) hqw e)
      · refine ⟨b, by omega, hbw, fun q hq hqw hne => ?_⟩
        by_cases e : q = n
        · subst e; exact absurd hqw hnw
        · exact hba q (by omega) hqw hne
    · have e : p = n := by
        refine Classical.byContradiction fun z => hex ⟨p, by omega, hw⟩
      subst e
      refine ⟨p, by omega, hw, fun q hq hqw hne => absurd ⟨q, by omega, hqw⟩ hex⟩
theorem best_of (w : WF g) {p : Nat} (hp : p < 4356) (h : wz g p = true) : ∃ b : Nat, isB g b ∧ bestP g = (b : Int) := by
  obtain ⟨b, h1, h2, h3⟩ := best_ex w 4356 (Nat.le_refl _) ⟨p, hp, h⟩
  exact ⟨b, ⟨h1, h2, h3⟩, bestP_of ⟨h1, h2, h3⟩⟩
theorem og_19 (h : SI I s) (a1 : Int) (h1 : w32 a1 = a1) : OGW (f_L_best a1) (f_M_best a1) I := by
  obtain ⟨g, ps, kp, bs, rp⟩ := s
  have w : WF g := h.2.2.1
  by_cases hr : 0 ≤ a1 ∧ a1 < 5
  · have s7 := fun J : Mem => sI_self J 26 0 7 0
    rcases bestP_cases g with hn | ⟨m, hm, hb⟩
    · refine og_W (fp := f_PR_best a1) (s' := (g, ps, kp, bs, rp)) (u := if a1 = 4 then 0 else -1) h h.2.2 ?_ (fun J sm => m_endG ?_)
      · unfold f_PR_best
        rw [h1, if_neg (by omega), if_neg (by omega)]
        refine tr_call (t_readFrom h.1.1 w h.1.2.2.1) ?_
        rintro _ K ⟨pd, pt, gc, f⟩
        have e7 : K 4 0 7 = -1 := pd.2.1.trans hn
        rw [e7, if_pos (by decide)]
        by_cases q : a1 = 4
        · rw [if_pos q, if_pos q]
          exact tr_ret ⟨⟨_, rfl, by decide⟩, h.1.pa f gc pt⟩
        · rw [if_neg q, if_neg q]
          exact tr_ret ⟨⟨_, rfl, by decide⟩, h.1.pa f gc pt⟩
      · have s0 := sm.t7 (v := 0)
        unfold f_M_best
        try dsimp only [ltI]
        rw [chk_in (s7 J) (by rw [h1, w0, w32c 4 (by decide)]; omega)]
        refine tr_call (t_bestPair s0.1 w) ?_
        rintro x K ⟨hx, mp, -, gw, f⟩
        have hx : x = -1 := hx.trans hn
        subst hx
        rw [if_pos (by decide), h1]
        by_cases q : a1 = 4
        · rw [if_pos q, if_pos q]
          exact tr_ret ⟨by decide, s0.rdq (f.mono fn_bp) gw⟩
        · rw [if_neg q, if_neg q]
          exact tr_ret ⟨by decide, s0.rdq (f.mono fn_bp) gw⟩
    · have hm4 : m < 4356 := hm.1
      have hcz := wz_cz w hm.2.1
      have wm : w32 (m : Int) = m := w32_of (by omega) (by omega)
      refine og_W (fp := f_PR_best a1) (s' := (g, ps, kp, bs, rp)) (u := w32 (if a1 = 0 then idv (m : Int) 66 else if a1 = 1 then irm (m : Int) 66 else if a1 = 2 then cz g m zE else if a1 = 3 then kz g m 40 else alikeN g (cz g m zE))) h h.2.2 ?_ (fun J sm => m_endG ?_)
      · unfold f_PR_best
        rw [h1, if_neg (by omega), if_neg (by omega)]
        refine tr_call (t_readFrom h.1.1 w h.1.2.2.1) ?_
        rintro _ K ⟨pd, pt, gc, f⟩
        have e7 : K 4 0 7 = (m : Int) := pd.2.1.trans hb
        have e9 : K 4 0 9 = alikeN g (cz g m zE) := pd.2.2.2.2 m hb
        rw [e7, wm, if_neg (by omega)]
        rcases (show a1 = 0 ∨ a1 = 1 ∨ a1 = 2 ∨ a1 = 3 ∨ a1 = 4 by omega) with rfl | rfl | rfl | rfl | rfl
        · rw [if_pos rfl, if_pos rfl]
          exact tr_ret ⟨⟨_, rfl, rfl⟩, h.1.pa f gc pt⟩
        · rw [if_neg (by decide), if_pos rfl, if_neg (by decide), if_pos rfl]
          exact tr_ret ⟨⟨_, rfl, rfl⟩, h.1.pa f gc pt⟩
        · rw [if_neg (by decide), if_neg (by decide), if_pos rfl, if_neg (by decide), if_neg (by decide), if_pos rfl, p_countOf pd.1 hm4, bnd_some]
          exact tr_ret ⟨⟨_, rfl, rfl⟩, h.1.pa f gc pt⟩
        · rw [if_neg (by decide), if_neg (by decide), if_neg (by decide), if_pos rfl, if_neg (by decide), if_neg (by decide), if_neg (by decide), if_pos rfl, p_keptOf pd.1 hm4, bnd_some]
          exact tr_ret ⟨⟨_, rfl, rfl⟩, h.1.pa f gc pt⟩
        · rw [if_neg (by decide), if_neg (by decide), if_neg (by decide), if_neg (by decide), if_neg (by decide), if_neg (by decide), if_neg (by decide), if_neg (by decide), e9]
          exact tr_ret ⟨⟨_, rfl, rfl⟩, h.1.pa f gc pt⟩
      · have s0 := sm.t7 (v := 0)
        unfold f_M_best
        try dsimp only [ltI]
        rw [chk_in (s7 J) (by rw [h1, w0, w32c 4 (by decide)]; omega)]
        refine tr_call (t_bestPair s0.1 w) ?_
        rintro x K ⟨hx, mp, -, gw, f⟩
        have hx : x = (m : Int) := hx.trans hb
        subst hx
        have mp : MP K g := mp
        have gw : GW K g := gw
        rw [wm, if_neg (by omega), h1]
        rcases (show a1 = 0 ∨ a1 = 1 ∨ a1 = 2 ∨ a1 = 3 ∨ a1 = 4 by omega) with rfl | rfl | rfl | rfl | rfl
        · rw [if_pos rfl, if_pos rfl]
          exact tr_ret ⟨rfl, s0.rdq (f.mono fn_bp) gw⟩
        · rw [if_neg (by decide), if_pos rfl, if_neg (by decide), if_pos rfl]
          exact tr_ret ⟨rfl, s0.rdq (f.mono fn_bp) gw⟩
        · rw [if_neg (by decide), if_neg (by decide), if_pos rfl, if_pos (by omega), if_neg (by decide), if_neg (by decide), if_pos rfl, Int.toNat_natCast, (mp m hm4).1]
          exact tr_ret ⟨rfl, s0.rdq (f.mono fn_bp) gw⟩
        · rw [if_neg (by decide), if_neg (by decide), if_neg (by decide), if_pos rfl, if_pos (by omega), if_neg (by decide), if_neg (by decide), if_neg (by decide), if_pos rfl, Int.toNat_natCast, (mp m hm4).2.1]
          exact tr_ret ⟨rfl, s0.rdq (f.mono fn_bp) gw⟩
        · have cr := cz_rng g m zE
          have ez := zE_eq
          rw [if_neg (by decide), if_neg (by decide), if_neg (by decide), if_neg (by decide), if_pos (by omega), if_neg (by decide), if_neg (by decide), if_neg (by decide), if_neg (by decide), Int.toNat_natCast, (mp m hm4).1, m_worthy gw mp w (by omega), bnd_some, if_neg hcz]
          exact tr_ret ⟨rfl, s0.rdq (f.mono fn_bp) gw⟩
  · refine og_X (fp := f_PR_best a1) (E := xIA) (k := 1) h ?_ (if_pos rfl) (by decide) (fun J sm => ?_)
    · unfold f_PR_best
      rw [h1]
      by_cases q : a1 < 0
      · rw [if_pos q]
      · rw [if_neg q, if_pos (by omega)]
    · unfold f_M_best
      exact t_outG sm (chk_out (sI_self _ _ _ _ _) (Or.inl rfl) (by rw [h1, w0, w32c 4 (by decide)]; omega))
/-- the number of WHY -/
noncomputable def whyN (g : GS) (p : Nat) : Int := if cz g p zE = 0 then 1 else if wz g p = true then (if cz g p zE < cz g (bestP g).toNat zE then 4 else if bestP g = (p : Int) then 0 else 5) else if cz g p zE < gN g 0 then 2 else 3
theorem og_20 (h : SI I s) (a1 a2 : Int) (h1 : w32 a1 = a1) (h2 : w32 a2 = a2) : OGW (f_L_why a1 a2) (f_M_why a1 a2) I := by
  obtain ⟨g, ps, kp, bs, rp⟩ := s
  have w : WF g := h.2.2.1
  have n0 : 2 ≤ gN g 0 ∧ gN g 0 ≤ 9 := w.2.2.2.2.2.1
  have wn0 : w32 (gN g 0) = gN g 0 := w32_of (by omega) (by omega)
  by_cases hr : (0 ≤ a1 ∧ a1 < 66) ∧ 0 ≤ a2 ∧ a2 < 66
  · obtain ⟨p, hp, e1, e2⟩ := nat_pair hr
    have wp : w32 (p : Int) = p := w32_of (by omega) (by omega)
    have cr := cz_rng g p zE
    refine og_W (fp := f_PR_why a1 a2) (s' := (g, ps, kp, bs, rp)) (u := w32 (whyN g p)) h h.2.2 ?_ (fun J sm => m_endG ?_)
    · unfold f_PR_why
      rw [sym_in h1 hr.1, bnd_some, if_neg (by decide), sym_in h2 hr.2, bnd_some, if_neg (by decide)]
      refine tr_call (t_readFrom h.1.1 w h.1.2.2.1) ?_
      rintro _ K ⟨pd, pt, gc, f⟩
      have fin : ∀ v : Int, v = whyN g p → Tr (some (Sum.inl v, K)) (fun (x : Int ⊕ String) L => (∃ v : Int, x = .inl v ∧ w32 v = w32 (whyN g p)) ∧ SC L (g, ps, kp, bs, rp) ∧ Fm FCl I L) := fun v e => tr_ret ⟨⟨_, rfl, by rw [e]⟩, h.1.pa f gc pt⟩
      rw [p_pairOf hr.1 hr.2, bnd_some, e1, p_countOf pd.1 hp, bnd_some, cz_w]
      by_cases q : cz g p zE = 0
      · rw [if_pos q]
        exact fin 1 (by unfold whyN; rw [if_pos q])
      · rw [if_neg q, p_isWorth pd.1 w hp, bnd_some]
        by_cases q2 : wz g p = true
        · obtain ⟨m, hm, hb⟩ := best_of w hp q2
          have e7 : K 4 0 7 = (m : Int) := pd.2.1.trans hb
          rw [bI_pos q2, if_neg (by decide), e7, p_countOf pd.1 hm.1, bnd_some, p_countOf pd.1 hp, bnd_some, cz_w, cz_w, wp, w32_of (x := (m : Int)) (by have := hm.1; omega) (by have := hm.1; omega)]
          by_cases q3 : cz g p zE < cz g m zE
          · rw [if_pos q3]
            exact fin 4 (by unfold whyN; rw [if_neg q, if_pos q2, hb, Int.toNat_natCast, if_pos q3])
          · rw [if_neg q3]
            by_cases q4 : (m : Int) = (p : Int)
            · rw [if_pos q4]
              exact fin 0 (by unfold whyN; rw [if_neg q, if_pos q2, hb, Int.toNat_natCast, if_neg q3, if_pos q4])
            · rw [if_neg q4]
              exact fin 5 (by unfold whyN; rw [if_neg q, if_pos q2, hb, Int.toNat_natCast, if_neg q3, if_neg q4])
        · rw [bI_neg q2, if_pos (by decide), p_countOf pd.1 hp, bnd_some, show (4 : Int) = 4 + ((0 : Nat) : Int) from rfl, g_number gc (by decide), bnd_some, cz_w, wn0]
          by_cases q3 : cz g p zE < gN g 0
          · rw [if_pos q3]
            exact fin 2 (by unfold whyN; rw [if_neg q, if_neg q2, if_pos q3])
          · rw [if_neg q3]
            exact fin 3 (by unfold whyN; rw [if_neg q, if_neg q2, if_neg q3])
    · have s0 := sm.t7 (v := 0)
      unfold f_M_why
      try dsimp only [ltI]
      rw [m_noPair1 (sI_self _ _ _ _ _) h1 h2 hr, bnd_some, if_pos (by decide)]
      refine tr_call (t_bestPair s0.1 w) ?_
      rintro x K ⟨hx, mp, -, gw, f⟩
      have hx : x = bestP g := hx
      have gw' : GW K g := gw
      have fin : ∀ v : Int, v = whyN g p → Tr (some (v, K)) (fun x L => w32 x = w32 (whyN g p) ∧ SM L (g, ps, kp, bs, rp) ∧ Fm FMq (sI J 26 0 7 0) L) := fun v e => tr_ret ⟨by rw [e], s0.rdq (f.mono fn_bp) gw⟩
      have e00 : K 27 0 0 = gN g 0 := gw'.2.2.2.2.2.1
      have mpc : K 27 11 p = cz g p zE := (mp p hp).1
      have mpk : K 27 13 p = kz g p 40 := (mp p hp).2.1
      unfold f_M_pair
      rw [bnd_some, e2, wp, if_pos (by omega), Int.toNat_natCast, mpc, cz_w]
      by_cases q : cz g p zE = 0
      · rw [if_pos q]
        exact fin 1 (by unfold whyN; rw [if_pos q])
      · rw [if_neg q, mpk, kz_w]
        have j90 : wz g p = true → Tr (f_M_why_j90 x (p : Int) K) (fun x L => w32 x = w32 (whyN g p) ∧ SM L (g, ps, kp, bs, rp) ∧ Fm FMq (sI J 26 0 7 0) L) := fun q2 => by
          obtain ⟨m, hm, hb⟩ := best_of w hp q2
          have hm4 := hm.1
          have wm : w32 (m : Int) = m := w32_of (by omega) (by omega)
          unfold f_M_why_j90
          rw [hx, hb, wm, wp]
          by_cases q4 : (m : Int) = (p : Int)
          · rw [if_pos q4]
            refine fin 0 ?_
            have : m = p := Int.ofNat.inj q4
            unfold whyN
            rw [if_neg q, if_pos q2, hb, Int.toNat_natCast, this, if_neg (Int.lt_irrefl _), if_pos rfl]
          · rw [if_neg q4, if_pos ⟨Int.natCast_nonneg m, Int.ofNat_lt.mpr hm4⟩, if_pos ⟨Int.natCast_nonneg p, Int.ofNat_lt.mpr hp⟩, Int.toNat_natCast, Int.toNat_natCast, mpc, (mp m hm4).1]
            show Tr (if w32 (cz g p zE) < w32 (cz g m zE) then _ else _) _
            rw [cz_w, cz_w]
            by_cases q3 : cz g p zE < cz g m zE
            · rw [if_pos q3]
              exact fin 4 (by unfold whyN; rw [if_neg q, if_pos q2, hb, Int.toNat_natCast, if_pos q3])
            · rw [if_neg q3]
              exact fin 5 (by unfold whyN; rw [if_neg q, if_pos q2, hb, Int.toNat_natCast, if_neg q3, if_neg q4])
        have fr := gFree_rng g
        by_cases qk : kz g p 40 = -1
        · rw [if_pos qk, e00, wn0]
          by_cases q3 : cz g p zE < gN g 0
          · rw [if_pos q3]
            refine fin 2 ?_
            have hn : ¬ wz g p = true := fun z => by unfold wz at z; have := of_decide_eq_true z; omega
            unfold whyN
            rw [if_neg q, if_neg hn, if_pos q3]
          · rw [if_neg q3]
            unfold f_M_why_j69
            rw [wp, if_pos (by omega), Int.toNat_natCast, mpk, kz_w, if_pos qk, m_freeRule gw', bnd_some, w32_of (x := gFree g) (by omega) (by omega)]
            by_cases q5 : gFree g = -1
            · rw [if_pos q5]
              refine fin 3 ?_
              have hn : ¬ wz g p = true := fun z => by unfold wz at z; have := of_decide_eq_true z; omega
              unfold whyN
              rw [if_neg q, if_neg hn, if_neg q3]
            · rw [if_neg q5]
              exact j90 (by unfold wz; exact decide_eq_true (Or.inr ⟨qk, q5, by omega⟩))
        · rw [if_neg qk]
          unfold f_M_why_j69
          rw [wp, if_pos (by omega), Int.toNat_natCast, mpk, kz_w, if_neg qk]
          exact j90 (by unfold wz; exact decide_eq_true (Or.inl ⟨qk, by omega⟩))
  · refine pair_xG (fp := f_PR_why) (fm := f_M_why) h h1 h2 hr (fun x y ex ey z => ?_) (fun J e => ?_) (if_pos rfl)
    · unfold f_PR_why
      rw [ex, bnd_some]
      rcases z with z | ⟨z1, z2⟩
      · rw [if_pos z]
      · rw [if_neg z1, ey, bnd_some, if_pos z2]
    · unfold f_M_why
      try dsimp only [ltI]
      rw [e, bnd_some, if_neg (by decide)]
theorem gSize_w (w : WF g) : 0 ≤ gSize g ∧ gSize g ≤ 16400 := by
  have key : ∀ n : Nat, n ≤ 41 → 0 ≤ sT (fun i => ((gR g i).length : Int)) n ∧ sT (fun i => ((gR g i).length : Int)) n ≤ 400 * n := by
    intro n
    induction n with
    | zero => intro _; exact ⟨Int.le_refl 0, Int.le_refl 0⟩
    | succ n ih =>
      intro hn
      have h1 := ih (by omega)
      have h2 := w.len400 n (by omega)
      show 0 ≤ sT (fun i => ((gR g i).length : Int)) n + ((gR g n).length : Int) ∧ sT (fun i => ((gR g i).length : Int)) n + ((gR g n).length : Int) ≤ _
      omega
  exact key 41 (Nat.le_refl _)
theorem nRules_nn (g : GS) : 0 ≤ nRules g := by
  have key : ∀ n : Nat, 0 ≤ sT (fun r => if gR g (r + 1) ≠ [] then 1 else 0) n := by
    intro n
    induction n with
    | zero => exact Int.le_refl 0
    | succ n ih =>
      show 0 ≤ sT (fun r => if gR g (r + 1) ≠ [] then 1 else 0) n + (if gR g (n + 1) ≠ [] then 1 else 0)
      split <;> omega
  exact key 40
theorem mu_le (w : WF g) : mu g ≤ ((1000000 : Nat) : Int) := by
  have h1 := gSize_w w
  have h2 := nRules_nn g
  show 2 * gSize g + 40 - nRules g ≤ (1000000 : Int)
  omega
/-- the class's trial of steps -/
theorem t_trial (h : SC I (g, ps, kp, bs, rp)) (w : WF g) {n : Nat} (hn : n < 100000000) : Tr (bnd (f_G_takeFrom 1 0 I) fun _ J => f_Stp_makeSteps 1 (n : Int) J) (fun x K => x = ((stepsG n g).1 : Int) ∧ GC K 1 (stepsG n g).2 ∧ SC K (g, ps, kp, bs, rp) ∧ Fm FCl I K) := by
  obtain ⟨x1, g1⟩ := h.2.1 1 (by decide)
  refine tr_call (t_gtakeFrom g1 h.1 (by decide)) ?_
  rintro _ J1 ⟨gc, f1⟩
  refine tr_mono (t_makeSteps gc w (pt_g h.2.2.1 f1) hn) ?_
  rintro x J2 ⟨rfl, gc2, -, pt2, f2⟩
  have ff : Fm FOp I J2 := (f1.mono fo_g1).trans (f2.mono fo_s1)
  exact ⟨rfl, gc2, h.op ff ((h.1.fm f1 (fun k i s z q => by unfold FG at z q; omega)).fm f2 (fun k i s z q => by unfold FG at z; unfold FST FG FPA at q; omega)) ⟨_, gc2⟩ pt2, ff.mono fop_cl⟩
/-- the reference's: aside, something, back -/
theorem m_trial {α : Type} {act : Mem → Option (α × Mem)} {R : α → Prop} (s0 : SM J s) (hact : ∀ K : Mem, GW K s.1 → Tr (act K) (fun x L => R x ∧ Fm FMS K L)) {K : α → Mem → Option (Int × Mem)} {ans : α → Int} (hk : ∀ (x : α) (L : Mem), K x L = f_M_back (ans x) L) : Tr (bnd (f_M_aside J) fun _ J9 => bnd (act J9) K) (fun y L => (∃ x : α, R x ∧ y = ans x) ∧ SM L s ∧ Fm FMq J L) := by
  refine tr_call (P := fun _ K => (∀ s : Nat, s < 16860 → K 27 1 s = J 27 0 s) ∧ GW K s.1 ∧ Fm FMn J K) ?_ ?_
  · unfold f_M_aside
    refine tr_call (t_mlays (k := 0) (b := 0) (k' := 1) (b' := 0) (I := J) (by decide) (by decide) (by decide) (by decide) (by decide) (by decide) (by decide)) ?_
    rintro _ K ⟨hh, f⟩
    exact tr_ret ⟨fun s hs => by have := hh s hs; rwa [Nat.zero_add] at this, s0.1.fm f (fun s _ z => absurd z.2.1 (by decide)), f.mono (fun a b c z => by unfold FMn; omega)⟩
  rintro _ K1 ⟨hc, gw1, f1⟩
  refine tr_call (hact K1 gw1) ?_
  rintro x K2 ⟨hR, f2⟩
  rw [hk]
  unfold f_M_back
  refine tr_call (t_mlays (k := 1) (b := 0) (k' := 0) (b' := 0) (I := K2) (by decide) (by decide) (by decide) (by decide) (by decide) (by decide) (by decide)) ?_
  rintro _ L ⟨hh, f⟩
  have gl : GW L s.1 := GWf.congr s0.1 (fun q hq => by
    have h2 := hh q hq
    rw [Nat.zero_add] at h2
    rw [h2, f2.at (by decide) (by unfold FMS FW FBP FMP FL; omega), hc q hq])
  exact tr_ret ⟨⟨x, hR, rfl⟩, s0.rdq (f1.trans ((f2.mono fn_ms).trans (f.mono (fun a b c z => by unfold FMn; omega)))) gl⟩
theorem bb_id {e : Option (Int × Mem)} : (bnd e fun x J => some (x, J)) = e := by
  cases e with
  | none => rfl
  | some p => rfl
theorem og_22 (h : SI I s) : OGI f_PR_stepsLeft f_M_stepsLeft I := by
  obtain ⟨g, ps, kp, bs, rp⟩ := s
  have w : WF g := h.2.2.1
  refine og_I (s' := (g, ps, kp, bs, rp)) (u := w32 ((stepsG 1000000 g).1 : Int)) h h.2.2 ?_ (fun J sm => m_endI ?_)
  · unfold f_PR_stepsLeft
    rw [show (1000000 : Int) = ((1000000 : Nat) : Int) from rfl]
    simp only [bb_id]
    refine tr_mono (t_trial h.1 w (by decide)) ?_
    rintro x K ⟨rfl, -, sc, f⟩
    exact ⟨rfl, sc, f⟩
  · have s0 := sm.t7 (v := 0)
    unfold f_M_stepsLeft
    try dsimp only [ltI]
    refine tr_mono (m_trial (act := whl f_M_stepsLeft_w11 0) (R := fun x => x = ((stepsG 1000000 g).1 : Int)) (ans := fun x => x) s0 (fun K gw => tr_mono (t_mstepsAll gw w (mu_le w)) (fun _ _ z => ⟨z.1, z.2.2⟩)) (fun x L => bb_id)) ?_
    rintro y L ⟨⟨x, rfl, rfl⟩, sm', f⟩
    exact ⟨rfl, sm', f⟩
theorem og_23 (h : SI I s) (a1 : Int) (h1 : w32 a1 = a1) : OGW (f_L_sizeIn a1) (f_M_sizeIn a1) I := by
  obtain ⟨g, ps, kp, bs, rp⟩ := s
  have w : WF g := h.2.2.1
  by_cases hr : 0 ≤ a1 ∧ a1 < 101
  · obtain ⟨n, rfl, hn⟩ : ∃ n : Nat, a1 = (n : Int) ∧ n < 101 := ⟨a1.toNat, by omega, by omega⟩
    refine og_W (fp := f_PR_sizeIn (n : Int)) (s' := (g, ps, kp, bs, rp)) (u := w32 (gSize (stepsG n g).2)) h h.2.2 ?_ (fun J sm => m_endG ?_)
    · unfold f_PR_sizeIn
      rw [h1, if_neg (by omega), if_neg (by omega)]
      have ht := t_trial h.1 w (n := n) (by omega)
      rw [tr_bnd] at ht ⊢
      refine tr_mono ht ?_
      intro _ J1 ht1
      rw [tr_bnd]
      refine tr_mono ht1 ?_
      rintro x K ⟨-, gc, sc, f⟩
      rw [g_totalSize gc, bnd_some]
      exact tr_ret ⟨⟨_, rfl, rfl⟩, sc, f⟩
    · have s0 := sm.t7 (v := 0)
      unfold f_M_sizeIn
      try dsimp only [ltI]
      rw [chk_in (sI_self _ _ _ _ _) (by rw [h1, w0, w32c 100 (by decide)]; omega)]
      have hact : ∀ K : Mem, GW K g → Tr (bnd (f_M_stepsMany (n : Int) K) fun _ L => f_M_sizeNow L) (fun x L => x = gSize (stepsG n g).2 ∧ Fm FMS K L) := fun K gw => by
        refine tr_call (t_mstepsMany gw w (by omega)) ?_
        rintro x L ⟨-, gw2, f⟩
        rw [m_sizeNow gw2]
        exact tr_ret ⟨rfl, f⟩
      have hm := m_trial (act := fun K => bnd (f_M_stepsMany (n : Int) K) fun _ L => f_M_sizeNow L) (R := fun x => x = gSize (stepsG n g).2) (ans := fun x => x) (K := fun x L => f_M_back x L) s0 hact (fun x L => rfl)
      rw [tr_bnd] at hm ⊢
      refine tr_mono hm ?_
      intro _ J9 hm1
      rw [tr_bnd, tr_bnd] at hm1
      rw [tr_bnd]
      refine tr_mono hm1 ?_
      intro _ J12 hm2
      rw [tr_bnd]
      refine tr_mono hm2 ?_
      intro x16 J15 hm3
      rw [bb_id]
      refine tr_mono hm3 ?_
      rintro y L ⟨⟨x, rfl, rfl⟩, sm', f⟩
      exact ⟨rfl, sm', f⟩
  · refine og_X (fp := f_PR_sizeIn a1) (E := xIA) (k := 1) h ?_ (if_pos rfl) (by decide) (fun J sm => ?_)
    · unfold f_PR_sizeIn
      rw [h1]
      by_cases q : a1 < 0
      · rw [if_pos q]
      · rw [if_neg q, if_pos (by omega)]
    · unfold f_M_sizeIn
      exact t_outG sm (chk_out (sI_self _ _ _ _ _) (Or.inl rfl) (by rw [h1, w0, w32c 100 (by decide)]; omega))
end READS4
end
section
/-! ===== numbers that are best; feed ===== -/
section BESTN
variable {I J : Mem} {g g' : GS} {ps : List GS} {kp : Nat → Option GS} {bs rp : List Int} {s : SS}
def am (F : Nat → Int) (lo : Nat) : Nat → Nat × Int
  | 0 => (lo, F lo)
  | n + 1 => if F (lo + n + 1) < (am F lo n).2 then (lo + n + 1, F (lo + n + 1)) else am F lo n
theorem am_s (F : Nat → Int) (lo n : Nat) : am F lo (n + 1) = if F (lo + n + 1) < (am F lo n).2 then (lo + n + 1, F (lo + n + 1)) else am F lo n := rfl
theorem am_rng {F : Nat → Int} {lo : Nat} : ∀ n : Nat, (∀ v : Nat, lo ≤ v → v ≤ lo + n → 0 ≤ F v ∧ F v ≤ 16400) → (0 ≤ (am F lo n).2 ∧ (am F lo n).2 ≤ 16400) ∧ (am F lo n).1 ≤ lo + n
  | 0, h => ⟨h lo (Nat.le_refl _) (Nat.le_refl _), Nat.le_refl _⟩
  | n + 1, h => by
    have ih := am_rng n (fun v a b => h v a (by omega))
    rw [am_s]
    by_cases q : F (lo + n + 1) < (am F lo n).2
    · rw [if_pos q]
      exact ⟨h _ (by omega) (by omega), by show lo + n + 1 ≤ lo + (n + 1); omega⟩
    · rw [if_neg q]
      exact ⟨ih.1, by omega⟩
/-- the size that a number leads to -/
noncomputable def szN (g : GS) (j v : Nat) : Int := gSize (stepsG 1000000 (gsN g j v)).2
theorem szN_rng {j v : Nat} (w : WF (gsN g j v)) : 0 ≤ szN g j v ∧ szN g j v ≤ 16400 := gSize_w (stepsG_wf 1000000 w)
theorem bnG (h : SC I (g, ps, kp, bs, rp)) {j : Nat} (hj : j < 3) {lo hi : Nat} (hlh : lo ≤ hi ∧ hi < 100) (hl : ∀ I : Mem, f_PR_lowest (4 + (j : Int)) I = some ((lo : Int), I)) (hh : ∀ I : Mem, f_PR_highest (4 + (j : Int)) I = some ((hi : Int), I))
    (w : ∀ v : Nat, lo ≤ v → v ≤ hi → WF (gsN g j v)) : Tr (f_PR_bestNumber (4 + (j : Int)) I) (fun x K => x = ((am (szN g j) lo (hi - lo)).1 : Int) ∧ SC K (g, ps, kp, bs, rp) ∧ Fm FCl I K) := by
  unfold f_PR_bestNumber
  rw [hl, bnd_some]
  refine tr_call (P := fun x K => x = ((am (szN g j) lo (hi - lo)).1 : Int) ∧ SC K (g, ps, kp, bs, rp) ∧ Fm FCl I K) (tr_whl (fun n s K => ∃ k : Nat, n = hi + 1 - k ∧ lo ≤ k ∧ k ≤ hi + 1 ∧ (k = lo ∧ s = (-1, 0, (k : Int)) ∨ lo < k ∧ s = (((am (szN g j) lo (k - lo - 1)).1 : Int), (am (szN g j) lo (k - lo - 1)).2, (k : Int))) ∧ SC K (g, ps, kp, bs, rp) ∧ Fm FCl I K) ?_ (hi + 1 - lo) _ _ ⟨lo, rfl, Nat.le_refl _, by omega, Or.inl ⟨rfl, rfl⟩, h, Fm.refl _ _⟩) ?_
  · rintro n s K ⟨k, rfl, hk1, hk2, hs, sc, f⟩
    have e2 : s.2.2 = (k : Int) := by rcases hs with ⟨_, rfl⟩ | ⟨_, rfl⟩ <;> rfl
    unfold f_PR_bestNumber_w10
    rw [hh, bnd_some, e2, w32_of (x := (hi : Int)) (by omega) (by omega), w32_of (x := (k : Int)) (by omega) (by omega)]
    by_cases q : hi < k
    · rw [if_pos (by omega)]
      rcases hs with ⟨z, _⟩ | ⟨_, rfl⟩
      · omega
      · exact tr_ret ⟨by rw [show k - lo - 1 = hi - lo by omega], sc, f⟩
    · rw [if_neg (by omega)]
      have wk := w k hk1 (by omega)
      obtain ⟨x1, g1⟩ := sc.2.1 1 (by decide)
      refine tr_call (t_gtakeFrom g1 sc.1 (by decide)) ?_
      rintro _ K1 ⟨gc, f1⟩
      refine tr_call (t_putNumber gc hj (k : Int)) ?_
      rintro _ K2 ⟨gc, f2⟩
      rw [show (1000000 : Int) = ((1000000 : Nat) : Int) from rfl]
      refine tr_call (t_makeSteps gc wk (pt_g (pt_g sc.2.2.1 f1) f2) (by decide)) ?_
      rintro x K3 ⟨-, gc, -, pt3, f3⟩
      have fo : Fm FOp K K3 := (f1.mono fo_g1).trans ((f2.mono fo_g1).trans (f3.mono fo_s1))
      have g0 : GC K3 0 g := ((sc.1.fm f1 (fun k i s z q => by unfold FG at z q; omega)).fm f2 (fun k i s z q => by unfold FG at z q; omega)).fm f3 (fun k i s z q => by unfold FG at z; unfold FST FG FPA at q; omega)
      have sc3 : SC K3 (g, ps, kp, bs, rp) := sc.op fo g0 ⟨_, gc⟩ pt3
      have f' := f.trans (fo.mono fop_cl)
      rw [g_totalSize gc, bnd_some]
      have sr := szN_rng wk
      have es : gSize (stepsG 1000000 (gsN g j (k : Int))).2 = szN g j k := rfl
      rw [es]
      rcases hs with ⟨rfl, rfl⟩ | ⟨z, rfl⟩
      · rw [if_pos (by show w32 (-1) = -1; decide)]
        exact tr_ret ⟨hi + 1 - (k + 1), by omega, k + 1, rfl, by omega, by omega, Or.inr ⟨by omega, by rw [show k + 1 - k - 1 = 0 by omega, Int.natCast_succ]; rfl⟩, sc3, f'⟩
      · have ar := am_rng (F := szN g j) (lo := lo) (k - lo - 1) (fun v a b => szN_rng (w v a (by omega)))
        have ea : am (szN g j) lo (k + 1 - lo - 1) = if szN g j k < (am (szN g j) lo (k - lo - 1)).2 then (k, szN g j k) else am (szN g j) lo (k - lo - 1) := by
          rw [show k + 1 - lo - 1 = (k - lo - 1) + 1 by omega, am_s, show lo + (k - lo - 1) + 1 = k by omega]
        rw [if_neg (by show ¬ w32 ((am (szN g j) lo (k - lo - 1)).1 : Int) = -1; rw [w32_of (by omega) (by omega)]; omega)]
        show Tr (if w32 (szN g j k) < w32 (am (szN g j) lo (k - lo - 1)).2 then _ else _) _
        rw [w32_of (x := szN g j k) (by omega) (by omega), w32_of (x := (am (szN g j) lo (k - lo - 1)).2) (by omega) (by omega)]
        by_cases q2 : szN g j k < (am (szN g j) lo (k - lo - 1)).2
        · rw [if_pos q2]
          exact tr_ret ⟨hi + 1 - (k + 1), by omega, k + 1, rfl, by omega, by omega, Or.inr ⟨by omega, by rw [ea, if_pos q2, Int.natCast_succ]⟩, sc3, f'⟩
        · rw [if_neg q2]
          exact tr_ret ⟨hi + 1 - (k + 1), by omega, k + 1, rfl, by omega, by omega, Or.inr ⟨by omega, by rw [ea, if_neg q2, Int.natCast_succ]⟩, sc3, f'⟩
  · rintro x K ⟨rfl, sc, f⟩
    exact tr_ret ⟨rfl, sc, f⟩
theorem t_sizeWithG (gw : GW J g) {j : Nat} (hj : j < 3) {v : Nat} (w : WF (gsN g j v)) : Tr (f_M_sizeWith (j : Int) (v : Int) J) (fun x K => x = szN g j v ∧ GW K g ∧ Fm FMn J K) := by
  have wj : w32 (j : Int) = j := w32_of (by omega) (by omega)
  unfold f_M_sizeWith f_M_aside
  refine tr_call (P := fun _ K => (∀ s : Nat, s < 16860 → K 27 1 s = J 27 0 s) ∧ GW K g ∧ Fm FMn J K) ?_ ?_
  · refine tr_call (t_mlays (k := 0) (b := 0) (k' := 1) (b' := 0) (I := J) (by decide) (by decide) (by decide) (by decide) (by decide) (by decide) (by decide)) ?_
    rintro _ K ⟨h, f⟩
    exact tr_ret ⟨fun s hs => by have := h s hs; rwa [Nat.zero_add] at this, gw.fm f (fun s _ z => absurd z.2.1 (by decide)), f.mono (fun a b c z => by unfold FMn; omega)⟩
  rintro _ K1 ⟨hc, g1, f1⟩
  rw [wj, if_pos (by omega), Int.toNat_natCast]
  try dsimp only [ltI]
  have fa : Fm FMA K1 (sI K1 27 0 j v) := Fm.sI (by decide) (by omega) (by omega) (Or.inl ⟨rfl, by decide⟩)
  have fa2 : Fm FMn K1 (sI K1 27 0 j v) := Fm.sI (by decide) (by omega) (by omega) (Or.inl ⟨rfl, by decide, by decide, by decide, by decide, by decide⟩)
  refine tr_call (t_mstepsEnd (g1.num hj) w (m := 1000000) (mu_le w)) ?_
  rintro _ K2 ⟨g2, f2⟩
  rw [m_sizeNow g2, bnd_some]
  have f12 : Fm FMA K1 K2 := fa.trans (f2.mono fA_ms)
  have f12n : Fm FMn K1 K2 := fa2.trans (f2.mono fn_ms)
  unfold f_M_back
  refine tr_call (P := fun x K => x = szN g j v ∧ GW K g ∧ Fm FMn K2 K) ?_ ?_
  · refine tr_call (t_mlays (k := 1) (b := 0) (k' := 0) (b' := 0) (I := K2) (by decide) (by decide) (by decide) (by decide) (by decide) (by decide) (by decide)) ?_
    rintro _ K ⟨h, f⟩
    refine tr_ret ⟨rfl, GWf.congr gw (fun s hs => ?_), f.mono (fun a b c z => by unfold FMn; omega)⟩
    have h2 := h s hs
    rw [Nat.zero_add] at h2
    rw [h2, f12.at (by decide) (by unfold FMA; omega), hc s hs]
  · rintro x K3 ⟨rfl, g3, f3⟩
    exact tr_ret ⟨rfl, g3, f1.trans (f12n.trans f3)⟩
theorem boG (gw : GW J g) {j : Nat} (hj : j < 3) {lo hi : Nat} (hlh : lo ≤ hi ∧ hi < 100) (hl : ∀ I : Mem, f_M_leastOf (j : Int) I = some ((lo : Int), I)) (hh : ∀ I : Mem, f_M_mostOf (j : Int) I = some ((hi : Int), I))
    (w : ∀ v : Nat, lo ≤ v → v ≤ hi → WF (gsN g j v)) : Tr (f_M_bestOf (j : Int) J) (fun x K => x = ((am (szN g j) lo (hi - lo)).1 : Int) ∧ GW K g ∧ Fm FMn J K) := by
  unfold f_M_bestOf
  rw [hl, bnd_some]
  refine tr_call (t_sizeWithG gw hj (w lo (Nat.le_refl _) hlh.1)) ?_
  rintro _ K1 ⟨rfl, g1, f1⟩
  refine tr_call (P := fun x K => x = ((am (szN g j) lo (hi - lo)).1 : Int) ∧ GW K g ∧ Fm FMn J K) (tr_whl (fun n s K => ∃ k : Nat, n = hi + 1 - k ∧ lo < k ∧ k ≤ hi + 1 ∧ s = (((am (szN g j) lo (k - lo - 1)).1 : Int), (am (szN g j) lo (k - lo - 1)).2, (k : Int)) ∧ GW K g ∧ Fm FMn J K) ?_ (hi + 1 - (lo + 1)) _ _ ⟨lo + 1, rfl, by omega, by omega, by rw [show lo + 1 - lo - 1 = 0 by omega, Int.natCast_succ]; rfl, g1, f1⟩) ?_
  · rintro n s K ⟨k, rfl, hk1, hk2, rfl, gk, f⟩
    unfold f_M_bestOf_w17
    rw [hh, bnd_some, w32_of (x := (hi : Int)) (by omega) (by omega)]
    show Tr (if (hi : Int) < w32 (k : Int) then _ else _) _
    rw [w32_of (x := (k : Int)) (by omega) (by omega)]
    by_cases q : hi < k
    · rw [if_pos (by omega)]
      exact tr_ret ⟨by rw [show k - lo - 1 = hi - lo by omega], gk, f⟩
    · rw [if_neg (by omega)]
      have wk := w k (by omega) (by omega)
      refine tr_call (t_sizeWithG gk hj wk) ?_
      rintro _ K2 ⟨rfl, g2, f2⟩
      have sr := szN_rng wk
      have ar := am_rng (F := szN g j) (lo := lo) (k - lo - 1) (fun v a b => szN_rng (w v a (by omega)))
      have ea : am (szN g j) lo (k + 1 - lo - 1) = if szN g j k < (am (szN g j) lo (k - lo - 1)).2 then (k, szN g j k) else am (szN g j) lo (k - lo - 1) := by
        rw [show k + 1 - lo - 1 = (k - lo - 1) + 1 by omega, am_s, show lo + (k - lo - 1) + 1 = k by omega]
      show Tr (if w32 (szN g j k) < w32 (am (szN g j) lo (k - lo - 1)).2 then _ else _) _
      rw [w32_of (x := szN g j k) (by omega) (by omega), w32_of (x := (am (szN g j) lo (k - lo - 1)).2) (by omega) (by omega)]
      by_cases q2 : szN g j k < (am (szN g j) lo (k - lo - 1)).2
      · rw [if_pos q2]
        exact tr_ret ⟨hi + 1 - (k + 1), by omega, k + 1, rfl, by omega, by omega, by rw [ea, if_pos q2, Int.natCast_succ], g2, f.trans f2⟩
      · rw [if_neg q2]
        exact tr_ret ⟨hi + 1 - (k + 1), by omega, k + 1, rfl, by omega, by omega, by rw [ea, if_neg q2, Int.natCast_succ], g2, f.trans f2⟩
  · rintro x K ⟨rfl, gk, f⟩
    exact tr_ret ⟨rfl, gk, f⟩
theorem og_24 (h : SI I s) : OGI f_PR_bestTie f_M_bestTie I := by
  obtain ⟨g, ps, kp, bs, rp⟩ := s
  have wg : WF g := h.2.2.1
  have w : ∀ v : Nat, 0 ≤ v → v ≤ 2 → WF (gsN g 1 v) := fun v _ h => WF_gN wg ⟨fun z => by omega, fun _ => by omega, fun z => by omega⟩
  refine og_I (s' := (g, ps, kp, bs, rp)) (u := w32 ((am (szN g 1) 0 (2 - 0)).1 : Int)) h h.2.2 ?_ (fun J sm => m_endI ?_)
  · unfold f_PR_bestTie
    rw [show (5 : Int) = 4 + ((1 : Nat) : Int) from rfl, bb_id]
    refine tr_mono (bnG h.1 (j := 1) (lo := 0) (hi := 2) (by decide) (by decide) lo_1 hi_1 w) ?_
    rintro x K ⟨rfl, z⟩
    exact ⟨rfl, z⟩
  · have s0 := sm.t7 (v := 0)
    unfold f_M_bestTie
    try dsimp only [ltI]
    rw [show (1 : Int) = ((1 : Nat) : Int) from rfl, bb_id]
    refine tr_mono (boG s0.1 (j := 1) (lo := 0) (hi := 2) (by decide) (by decide) ml_1 mh_1 w) ?_
    rintro x K ⟨rfl, gw, f⟩
    exact ⟨rfl, s0.rdq f gw⟩
theorem og_25 (h : SI I s) : OGI f_PR_bestLeast f_M_bestLeast I := by
  obtain ⟨g, ps, kp, bs, rp⟩ := s
  have wg : WF g := h.2.2.1
  have w : ∀ v : Nat, 2 ≤ v → v ≤ 9 → WF (gsN g 0 v) := fun v _ h => WF_gN wg ⟨fun z => by omega, fun z => by omega, fun z => by omega⟩
  refine og_I (s' := (g, ps, kp, bs, rp)) (u := w32 ((am (szN g 0) 2 (9 - 2)).1 : Int)) h h.2.2 ?_ (fun J sm => m_endI ?_)
  · unfold f_PR_bestLeast
    rw [show (4 : Int) = 4 + ((0 : Nat) : Int) from rfl, bb_id]
    refine tr_mono (bnG h.1 (j := 0) (lo := 2) (hi := 9) (by decide) (by decide) lo_0 hi_0 w) ?_
    rintro x K ⟨rfl, z⟩
    exact ⟨rfl, z⟩
  · have s0 := sm.t7 (v := 0)
    unfold f_M_bestLeast
    try dsimp only [ltI]
    rw [show (0 : Int) = ((0 : Nat) : Int) from rfl, bb_id]
    refine tr_mono (boG s0.1 (j := 0) (lo := 2) (hi := 9) (by decide) (by decide) ml_0 mh_0 w) ?_
    rintro x K ⟨rfl, gw, f⟩
    exact ⟨rfl, s0.rdq f gw⟩
end BESTN
end
section
/-! ===== report ===== -/
def numB (n : Int) : List Int := (if 9 < n then [48 + idv n 10] else []) ++ [48 + irm n 10]
def symB (x : Int) : List Int := if x < 26 then [97 + x] else [40] ++ numB (x - 26) ++ [41]
def rowN (l : List Int) : Nat → List Int
  | 0 => []
  | n + 1 => rowN l n ++ symB (l.getD n (-1))
def rulB (g : GS) (r : Nat) : List Int := if gR g (r + 1) = [] then [] else [32] ++ numB (r : Int) ++ [61] ++ rowN (gR g (r + 1)) (gR g (r + 1)).length
def repN (g : GS) : Nat → List Int
  | 0 => rowN (gR g 0) (gR g 0).length
  | n + 1 => repN g n ++ rulB g n
/-- bytes of a report -/
def B7 (l : List Int) : Prop := ∀ b ∈ l, 0 ≤ b ∧ b < 128
theorem B7.app {l m : List Int} (h : B7 l) (k : B7 m) : B7 (l ++ m) := fun b hb => (List.mem_append.mp hb).elim (h b) (k b)
theorem B7.one {b : Int} (h : 0 ≤ b ∧ b < 128) : B7 [b] := fun x hx => by rw [List.mem_singleton.mp hx]; exact h
theorem B7.nil : B7 [] := fun _ hx => absurd hx List.not_mem_nil
theorem idv10 (p : Nat) (hp : p < 1000000) : idv (p : Int) 10 = ((p / 10 : Nat) : Int) := by
  unfold idv
  rw [w32_of (x := (p : Int)) (by omega) (by omega), w32_of (x := 10) (by decide) (by decide)]
  exact (Int.tdiv_eq_ediv_of_nonneg (by omega)).trans (by omega)
theorem irm10 (p : Nat) (hp : p < 1000000) : irm (p : Int) 10 = ((p % 10 : Nat) : Int) := by
  unfold irm
  rw [idv10 p hp]
  omega
theorem i2b_ok : ∀ v : Nat, v < 128 → i2b (v : Int) = (v : Int) := by decide +kernel
theorem numB_ok {n : Nat} (hn : n < 100) : B7 (numB (n : Int)) ∧ (numB (n : Int)).length ≤ 2 := by
  unfold numB
  rw [idv10 n (by omega), irm10 n (by omega)]
  by_cases q : 9 < (n : Int)
  · rw [if_pos q]
    exact ⟨(B7.one (by omega)).app (B7.one (by omega)), Nat.le_refl 2⟩
  · rw [if_neg q]
    exact ⟨B7.nil.app (B7.one (by omega)), by show 1 ≤ 2; omega⟩
theorem symB_ok {x : Int} (hx : 0 ≤ x ∧ x < 66) : B7 (symB x) ∧ (symB x).length ≤ 4 := by
  unfold symB
  by_cases q : x < 26
  · rw [if_pos q]
    exact ⟨B7.one (by omega), by show 1 ≤ 4; omega⟩
  · rw [if_neg q]
    obtain ⟨n, hn⟩ : ∃ n : Nat, x - 26 = (n : Int) := ⟨(x - 26).toNat, by omega⟩
    have hk := numB_ok (n := n) (by omega)
    rw [hn]
    refine ⟨((B7.one (by decide)).app hk.1).app (B7.one (by decide)), ?_⟩
    rw [List.length_append, List.length_append]
    show 1 + (numB (n : Int)).length + 1 ≤ 4
    omega
theorem rowN_ok {l : List Int} (hs : SY l) : ∀ n : Nat, n ≤ l.length → B7 (rowN l n) ∧ (rowN l n).length ≤ 4 * n
  | 0, _ => ⟨B7.nil, Nat.le_refl 0⟩
  | n + 1, h => by
    have ih := rowN_ok hs n (by omega)
    have hk := symB_ok (hs.at (j := n) (by omega))
    refine ⟨ih.1.app hk.1, ?_⟩
    show (rowN l n ++ symB (l.getD n (-1))).length ≤ _
    rw [List.length_append]
    omega
theorem rulB_ok {g : GS} (w : WF g) {r : Nat} (hr : r < 40) : B7 (rulB g r) ∧ (rulB g r).length ≤ 1604 := by
  unfold rulB
  by_cases q : gR g (r + 1) = []
  · rw [if_pos q]; exact ⟨B7.nil, Nat.zero_le _⟩
  · rw [if_neg q]
    have hk := numB_ok (n := r) (by omega)
    have hl := w.len400 (r + 1) (by omega)
    have hw := rowN_ok (w.sy (i := r + 1) (by omega)) _ (Nat.le_refl _)
    refine ⟨(((B7.one (by decide)).app hk.1).app (B7.one (by decide))).app hw.1, ?_⟩
    rw [List.length_append, List.length_append, List.length_append]
    show 1 + (numB (r : Int)).length + 1 + _ ≤ 1604
    omega
theorem repN_ok {g : GS} (w : WF g) : ∀ n : Nat, n ≤ 40 → B7 (repN g n) ∧ (repN g n).length ≤ 1600 + 1604 * n
  | 0, _ => by
    have hl := w.len400 0 (by decide)
    have hw := rowN_ok (w.sy (i := 0) (by decide)) _ (Nat.le_refl _)
    exact ⟨hw.1, by show (rowN (gR g 0) (gR g 0).length).length ≤ _; omega⟩
  | n + 1, h => by
    have ih := repN_ok w n (by omega)
    have hk := rulB_ok w (r := n) (by omega)
    refine ⟨ih.1.app hk.1, ?_⟩
    show (repN g n ++ rulB g n).length ≤ _
    rw [List.length_append]
    omega
section REP
variable {I J : Mem} {g g' : GS} {ps : List GS} {kp : Nat → Option GS} {bs rp : List Int} {s : SS}
abbrev FRp : FP := fun k i _ => (k = 25 ∧ i = 0) ∨ (k = 10 ∧ i = 0)
theorem Fm.grwP {n many : Int} (h1 : 1 ≤ n - I 10 0 2) (h2 : n ≤ 3 * (n - I 10 0 2)) (hn : 0 ≤ n) : Fm FRp I (grw I 25 10 0 n many) := by
  refine ⟨fun a b c h30 hnF => ?_, ?_⟩
  · unfold grw
    rw [if_neg (fun q => by obtain ⟨rfl, rfl⟩ := q; exact hnF (Or.inl ⟨rfl, rfl⟩)), if_neg (fun q => by obtain ⟨rfl, rfl, rfl⟩ := q; exact hnF (Or.inr ⟨rfl, rfl⟩)), if_neg (fun q => h30 q.1), if_neg (fun q => h30 q.1)]
  · have e0 : grw I 25 10 0 n many 30 0 0 = I 30 0 0 + 1 := by simp [grw]
    have e1 : grw I 25 10 0 n many 30 0 1 = I 30 0 1 + n := by simp [grw]
    have e2 : Cap (grw I 25 10 0 n many) = Cap I + (n - I 10 0 2) := by
      unfold Cap
      rw [show (fun r : Nat => grw I 25 10 0 n many 2 r 2) = fun r => I 2 r 2 from funext (fun r => by simp [grw])]
      simp [grw]
      omega
    unfold Gr
    omega
theorem t_rput0 (h : RpC I rp) (hf : (rp.length : Int) < I 10 0 2) {b : Int} (hb : 0 ≤ b ∧ b < 128) (hl : rp.length < 70000) : Tr (f_Rep_put_j51 b I) (fun _ J => RpC J (rp ++ [b]) ∧ Fm FRp I J) := by
  obtain ⟨h1, h2, h3, h4⟩ := h
  obtain ⟨v, rfl⟩ : ∃ v : Nat, b = (v : Int) := ⟨b.toNat, by omega⟩
  have hc : 0 ≤ I 10 0 2 ∧ I 10 0 2 ≤ 131072 := by unfold capR at h3; omega
  have wl : w32 (rp.length : Int) = rp.length := w32_of (by omega) (by omega)
  unfold f_Rep_put_j51
  rw [if_pos hc.1, h1, wl, w32_of (x := I 10 0 2) (by omega) (by omega), if_pos hf, if_pos ⟨by omega, hf⟩, Int.toNat_natCast, i2b_ok v (by omega)]
  try dsimp only [ltI]
  rw [sI_ne (by omega), h1]
  refine tr_ret ⟨⟨by rw [sI_self, List.length_append]; rfl, ?_, ?_, fun j hj => ?_⟩, (Fm.sI (by decide) (by omega) (by omega) (Or.inl ⟨rfl, rfl⟩)).trans (Fm.sI (by decide) (by omega) (by omega) (Or.inr ⟨rfl, rfl⟩))⟩
  · rw [sI_ne (by omega), sI_ne (by omega), List.length_append]
    show ((rp.length + 1 : Nat) : Int) ≤ _
    omega
  · rw [sI_ne (by omega), sI_ne (by omega)]; exact h3
  · rw [List.length_append] at hj
    have hj : j < rp.length + 1 := hj
    rw [sI_ne (by omega)]
    by_cases q : j = rp.length
    · subst q
      rw [sI_self, gd_r (Nat.le_refl _), Nat.sub_self]
      rfl
    · rw [sI_ne (by omega), gd_l (by omega)]
      exact h4 j (by omega)
theorem t_rput (h : RpC I rp) (h7 : B7 rp) {b : Int} (hb : 0 ≤ b ∧ b < 128) (hl : rp.length < 70000) : Tr (f_Rep_put b I) (fun _ J => RpC J (rp ++ [b]) ∧ Fm FRp I J) := by
  obtain ⟨h1, h2, h3, h4⟩ := id h
  have hc : 64 ≤ I 10 0 2 ∧ I 10 0 2 ≤ 131072 := by unfold capR at h3; omega
  have wl : w32 (rp.length : Int) = rp.length := w32_of (by omega) (by omega)
  unfold f_Rep_put
  rw [if_pos (by omega), h1, wl, w32_of (x := I 10 0 2) (by omega) (by omega)]
  by_cases q : (rp.length : Int) < I 10 0 2
  · rw [if_pos q]
    exact t_rput0 h q hb hl
  · have hc2 : I 10 0 2 ≤ 65536 := by unfold capR at h3; omega
    have hrng : ∀ s : Nat, s < ((rp.length : Int)).toNat → -128 ≤ I 25 0 s ∧ I 25 0 s < 128 := fun s hs => by
      rw [h4 s (by omega)]
      have := h7 _ (gd_mem (d := 0) (show s < rp.length by omega))
      omega
    rw [if_neg q, if_pos (by omega), w32_of (x := 2 * I 10 0 2) (by omega) (by omega), if_pos ⟨by omega, by omega, by omega, by omega, by omega, hrng⟩]
    · try dsimp only [ltI]
      have f := Fm.grwP (I := I) (n := 2 * I 10 0 2) (many := (rp.length : Int)) (by omega) (by omega) (by omega)
      have e1 : grw I 25 10 0 (2 * I 10 0 2) (rp.length : Int) 10 0 1 = (rp.length : Int) := by simp [grw]; exact h1
      have e2 : grw I 25 10 0 (2 * I 10 0 2) (rp.length : Int) 10 0 2 = 2 * I 10 0 2 := by simp [grw]
      have e3 : ∀ j : Nat, j < rp.length → grw I 25 10 0 (2 * I 10 0 2) (rp.length : Int) 25 0 j = rp.getD j 0 := fun j hj => by
        rw [← h4 j hj]
        unfold grw
        rw [if_pos ⟨rfl, rfl⟩, if_pos (by omega)]
      generalize grw I 25 10 0 (2 * I 10 0 2) (rp.length : Int) = J at f e1 e2 e3
      refine tr_mono (t_rput0 (rp := rp) ⟨e1, by rw [e2]; omega, by rw [e2]; unfold capR at h3 ⊢; omega, e3⟩ (by rw [e2]; omega) hb hl) ?_
      rintro _ K ⟨rk, f2⟩
      exact ⟨rk, f.trans f2⟩
theorem t_rnum (h : RpC I rp) (h7 : B7 rp) {n : Nat} (hn : n < 100) (hl : rp.length < 69990) : Tr (f_Rep_putNumber (n : Int) I) (fun _ J => RpC J (rp ++ numB (n : Int)) ∧ Fm FRp I J) := by
  have hi := idv10 n (by omega)
  have hm := irm10 n (by omega)
  have key : ∀ (rp : List Int) (I : Mem), RpC I rp → B7 rp → rp.length < 70000 → Tr (f_Rep_putNumber_j17 (n : Int) I) (fun _ J => RpC J (rp ++ [48 + irm (n : Int) 10]) ∧ Fm FRp I J) := by
    intro rp I h h7 hl
    unfold f_Rep_putNumber_j17
    refine tr_call (t_rput h h7 (b := 48 + irm (n : Int) 10) (by omega) hl) ?_
    rintro _ J z
    exact tr_ret z
  unfold f_Rep_putNumber numB
  rw [w32_of (x := (n : Int)) (by omega) (by omega)]
  by_cases q : 9 < (n : Int)
  · rw [if_pos q, if_pos q]
    refine tr_call (t_rput h h7 (b := 48 + idv (n : Int) 10) (by omega) (by omega)) ?_
    rintro _ J ⟨rk, f⟩
    refine tr_mono (key _ J rk (h7.app (B7.one (by omega))) (by rw [List.length_append]; show rp.length + 1 < 70000; omega)) ?_
    rintro _ K ⟨rk2, f2⟩
    rw [← List.append_assoc]
    exact ⟨rk2, f.trans f2⟩
  · rw [if_neg q, if_neg q]
    exact key rp I h h7 (by omega)
theorem RW.frp {r : Nat} {l : List Int} (h : RW I r l) (f : Fm FRp I J) : RW J r l := h.fm f (fun k s hk z => by unfold FRp at z; omega)
theorem t_rrow (h : RpC I rp) (h7 : B7 rp) {r : Nat} {l : List Int} (hr : RW I r l) (hs : SY l) (hl : rp.length + 1604 < 69990) : Tr (f_Rep_putRow r I) (fun _ J => RpC J (rp ++ rowN l l.length) ∧ Fm FRp I J) := by
  have hll := hr.len
  unfold f_Rep_putRow
  rw [if_pos hr.1]
  refine tr_call (P := fun _ J => RpC J (rp ++ rowN l l.length) ∧ Fm FRp I J) (tr_cnt (fun k => (k : Int)) (fun k J => RpC J (rp ++ rowN l k) ∧ Fm FRp I J) l.length rfl ⟨by rw [show rowN l 0 = [] from rfl, List.append_nil]; exact h, Fm.refl _ _⟩ ?_ ?_) (fun _ _ q => tr_ret q)
  · rintro k J hk ⟨rk, f⟩
    have ro := rowN_ok hs k (by omega)
    have rj := hr.frp f
    have sx := hs.at hk
    have b7 : B7 (rp ++ rowN l k) := h7.app ro.1
    have hlen : (rp ++ rowN l k).length < 69985 := by rw [List.length_append]; omega
    have es : rp ++ rowN l (k + 1) = rp ++ rowN l k ++ symB (l.getD k (-1)) := by rw [List.append_assoc]; rfl
    unfold f_Rep_putRow_w2
    rw [w32_of (x := (k : Int)) (by omega) (by omega), rj.2.1, w32_of (x := (l.length : Int)) (by omega) (by omega), if_pos (by omega), row_at rj (by omega), bnd_some, w32_of (x := l.getD k (-1)) (by omega) (by omega)]
    by_cases q : l.getD k (-1) < 26
    · rw [if_pos q]
      refine tr_call (t_rput rk b7 (b := 97 + l.getD k (-1)) (by omega) (by omega)) ?_
      rintro _ K ⟨rk2, f2⟩
      refine tr_ret ⟨by rw [Int.natCast_succ], ?_, f.trans f2⟩
      rw [es]
      unfold symB
      rw [if_pos q]
      exact rk2
    · rw [if_neg q]
      obtain ⟨n, hn⟩ : ∃ n : Nat, l.getD k (-1) - 26 = (n : Int) := ⟨(l.getD k (-1) - 26).toNat, by omega⟩
      have nb := numB_ok (n := n) (by omega)
      refine tr_call (t_rput rk b7 (b := 40) (by decide) (by omega)) ?_
      rintro _ K1 ⟨rk1, f1⟩
      rw [hn]
      refine tr_call (t_rnum rk1 (b7.app (B7.one (by decide))) (n := n) (by omega) (by rw [List.length_append]; show _ + 1 < 69990; omega)) ?_
      rintro _ K2 ⟨rk2, f2⟩
      refine tr_call (t_rput rk2 ((b7.app (B7.one (by decide))).app nb.1) (b := 41) (by decide) (by rw [List.length_append, List.length_append]; show _ + 1 + _ < 70000; omega)) ?_
      rintro _ K3 ⟨rk3, f3⟩
      refine tr_ret ⟨by rw [Int.natCast_succ], ?_, f.trans (f1.trans (f2.trans f3))⟩
      rw [es]
      unfold symB
      rw [if_neg q, hn]
      rw [← List.append_assoc, ← List.append_assoc]
      exact rk3
  · rintro J ⟨rk, f⟩
    have rj := hr.frp f
    unfold f_Rep_putRow_w2
    rw [rj.2.1, if_neg (Int.lt_irrefl _)]
    exact tr_ret ⟨rk, f⟩
theorem t_writeOf (h : SC I (g, ps, kp, bs, rp)) (w : WF g) : Tr (f_Rep_writeOf 0 I) (fun _ J => SC J (g, ps, kp, bs, repN g 40) ∧ Fm FCl I J) := by
  obtain ⟨a1, a2, a3, a4, a5, a6, r1, r2, r3, r4⟩ := h
  have f0 : Fm FRp I (sI I 10 0 1 0) := Fm.sI (by decide) (by omega) (by omega) (Or.inr ⟨rfl, rfl⟩)
  have hr0 : RpC (sI I 10 0 1 0) [] := ⟨sI_self _ _ _ _ _, by rw [sI_ne (by decide)]; show (0 : Int) ≤ _; unfold capR at r3; omega, by rw [sI_ne (by decide)]; exact r3, fun j hj => absurd hj (Nat.not_lt_zero j)⟩
  have gcf : ∀ J : Mem, Fm FRp I J → GC J 0 g := fun J f => a1.fm f (fun k i s z q => by unfold FG at z; unfold FRp at q; omega)
  have fin : ∀ J : Mem, Fm FRp I J → RpC J (repN g 40) → SC J (g, ps, kp, bs, repN g 40) ∧ Fm FCl I J := fun J f hr => ⟨⟨gcf J f, a2.fm f (fun t _ k i s z q => by unfold FG at z; unfold FRp at q; omega), a3.fm f (fun i s => ⟨fun z => by unfold FRp at z; omega, fun z => by unfold FRp at z; omega⟩), a4.fm f (fun s z => by unfold FRp at z; omega) (fun t _ _ k i s z q => by unfold FG at z; unfold FRp at q; omega), a5.fm f (fun s z => by unfold FRp at z; omega) (fun t _ _ k i s z q => by unfold FG at z; unfold FRp at q; omega), a6.fm f (fun z => by unfold FRp at z; omega) (fun s z => by unfold FRp at z; omega), hr⟩, f.mono (fun a b c z => by unfold FRp at z; unfold FCl; omega)⟩
  unfold f_Rep_writeOf
  rw [if_pos (by decide)]
  try dsimp only [ltI]
  refine tr_call (t_rrow hr0 B7.nil (r := 43 * 0) ((gcf _ f0).2.1 0 (by decide)) (w.sy (by decide)) (by decide)) ?_
  rintro _ J1 ⟨rk1, f1⟩
  refine tr_call (P := fun _ J => RpC J (repN g 40) ∧ Fm FRp I J) (tr_cnt (fun k => (k : Int)) (fun k J => RpC J (repN g k) ∧ Fm FRp I J) 40 rfl ⟨rk1, f0.trans f1⟩ ?_ ?_) ?_
  · rintro k J hk ⟨rk, f⟩
    have gc := gcf J f
    have ro := repN_ok w k (by omega)
    unfold f_Rep_writeOf_w15
    rw [w32_of (x := (k : Int)) (by omega) (by omega), if_pos (by omega), g_hasRule gc hk, bnd_some]
    by_cases q : gR g (k + 1) = []
    · rw [bI_neg (fun z => z q), if_pos (by decide)]
      refine tr_ret ⟨by rw [Int.natCast_succ], ?_, f⟩
      show RpC J (repN g k ++ rulB g k)
      unfold rulB
      rw [if_pos q, List.append_nil]
      exact rk
    · rw [bI_pos q, if_neg (by decide)]
      have nb := numB_ok (n := k) (by omega)
      refine tr_call (t_rput rk ro.1 (b := 32) (by decide) (by omega)) ?_
      rintro _ K1 ⟨rk1, f1⟩
      refine tr_call (t_rnum rk1 (ro.1.app (B7.one (by decide))) (n := k) (by omega) (by rw [List.length_append]; show _ + 1 < 69990; omega)) ?_
      rintro _ K2 ⟨rk2, f2⟩
      refine tr_call (t_rput rk2 ((ro.1.app (B7.one (by decide))).app nb.1) (b := 61) (by decide) (by rw [List.length_append, List.length_append]; show _ + 1 + _ < 70000; omega)) ?_
      rintro _ K3 ⟨rk3, f3⟩
      have f03 := f.trans (f1.trans (f2.trans f3))
      rw [g_body (by decide) hk, bnd_some, if_pos (rix_lt (by decide) (by omega))]
      refine tr_call (t_rrow rk3 (((ro.1.app (B7.one (by decide))).app nb.1).app (B7.one (by decide))) ((gcf K3 f03).2.1 (k + 1) (by omega)) (w.sy (by omega)) (by rw [List.length_append, List.length_append, List.length_append]; show _ + 1 + _ + 1 + 1604 < 69990; omega)) ?_
      rintro _ K4 ⟨rk4, f4⟩
      refine tr_ret ⟨by rw [Int.natCast_succ], ?_, f03.trans f4⟩
      show RpC K4 (repN g k ++ rulB g k)
      unfold rulB
      rw [if_neg q, ← List.append_assoc, ← List.append_assoc, ← List.append_assoc]
      exact rk4
  · rintro J z
    unfold f_Rep_writeOf_w15
    rw [if_neg (by decide)]
    exact tr_ret z
  · rintro _ J ⟨rk, f⟩
    exact tr_ret (fin J f rk)
abbrev FMw : FP := fun k i s => (k = 27 ∧ i = 22) ∨ (k = 26 ∧ s = 43)
theorem t_mput (h : RpM I rp) (b : Int) (hl : rp.length < 70000) : Tr (f_M_writes b I) (fun _ J => RpM J (rp ++ [b]) ∧ Fm FMw I J) := by
  obtain ⟨h1, h4⟩ := h
  unfold f_M_writes
  rw [h1, w32_of (x := (rp.length : Int)) (by omega) (by omega), if_pos (by omega), Int.toNat_natCast]
  try dsimp only [ltI]
  rw [sI_ne (by omega), h1]
  refine tr_ret ⟨⟨by rw [sI_self, List.length_append]; rfl, fun j hj => ?_⟩, (Fm.sI (by decide) (by omega) (by omega) (Or.inl ⟨rfl, rfl⟩)).trans (Fm.sI (by decide) (by omega) (by omega) (Or.inr ⟨rfl, rfl⟩))⟩
  rw [List.length_append] at hj
  have hj : j < rp.length + 1 := hj
  rw [sI_ne (by omega)]
  by_cases q : j = rp.length
  · subst q
    rw [sI_self, gd_r (Nat.le_refl _), Nat.sub_self]
    rfl
  · rw [sI_ne (by omega), gd_l (by omega)]
    exact h4 j (by omega)
theorem t_mnum (h : RpM I rp) {n : Nat} (hn : n < 100) (hl : rp.length < 69990) : Tr (f_M_writesNumber (n : Int) I) (fun _ J => RpM J (rp ++ numB (n : Int)) ∧ Fm FMw I J) := by
  have key : ∀ (rp : List Int) (I : Mem), RpM I rp → rp.length < 70000 → Tr (f_M_writesNumber_j17 (n : Int) I) (fun _ J => RpM J (rp ++ [48 + irm (n : Int) 10]) ∧ Fm FMw I J) := by
    intro rp I h hl
    unfold f_M_writesNumber_j17
    refine tr_call (t_mput h (48 + irm (n : Int) 10) hl) ?_
    rintro _ J z
    exact tr_ret z
  unfold f_M_writesNumber numB
  rw [w32_of (x := (n : Int)) (by omega) (by omega)]
  by_cases q : 9 < (n : Int)
  · rw [if_pos q, if_pos q]
    refine tr_call (t_mput h (48 + idv (n : Int) 10) (by omega)) ?_
    rintro _ J ⟨rk, f⟩
    refine tr_mono (key _ J rk (by rw [List.length_append]; show rp.length + 1 < 70000; omega)) ?_
    rintro _ K ⟨rk2, f2⟩
    rw [← List.append_assoc]
    exact ⟨rk2, f.trans f2⟩
  · rw [if_neg q, if_neg q]
    exact key rp I h (by omega)
theorem t_mrow (h : RpM I rp) (gw : GW I g) (w : WF g) {i : Nat} (hi : i < 41) (hl : rp.length + 1604 < 69990) : Tr (f_M_writesRow (i : Int) I) (fun _ J => RpM J (rp ++ rowN (gR g i) (gR g i).length) ∧ Fm FMw I J) := by
  have hll := w.len400 i hi
  have hs := w.sy hi
  have gwf : ∀ J : Mem, Fm FMw I J → GW J g := fun J f => gw.fm f (fun s _ z => by unfold FMw at z; omega)
  unfold f_M_writesRow
  refine tr_call (P := fun _ J => RpM J (rp ++ rowN (gR g i) (gR g i).length) ∧ Fm FMw I J) (tr_cnt (fun k => (k : Int)) (fun k J => RpM J (rp ++ rowN (gR g i) k) ∧ Fm FMw I J) (gR g i).length rfl ⟨by rw [show rowN (gR g i) 0 = [] from rfl, List.append_nil]; exact h, Fm.refl _ _⟩ ?_ ?_) (fun _ _ q => tr_ret q)
  · rintro k J hk ⟨rk, f⟩
    have ro := rowN_ok hs k (by omega)
    have gj := gwf J f
    have sx := hs.at hk
    have hlen : (rp ++ rowN (gR g i) k).length < 69985 := by rw [List.length_append]; omega
    have es : rp ++ rowN (gR g i) (k + 1) = rp ++ rowN (gR g i) k ++ symB ((gR g i).getD k (-1)) := by rw [List.append_assoc]; rfl
    unfold f_M_writesRow_w2
    rw [m_many gj hi, bnd_some, w32_of (x := (k : Int)) (by omega) (by omega), w32_of (x := ((gR g i).length : Int)) (by omega) (by omega), if_pos (by omega), m_at gj hi hk, bnd_some, w32_of (x := (gR g i).getD k (-1)) (by omega) (by omega)]
    by_cases q : (gR g i).getD k (-1) < 26
    · rw [if_pos q]
      refine tr_call (t_mput rk (97 + (gR g i).getD k (-1)) (by omega)) ?_
      rintro _ K ⟨rk2, f2⟩
      refine tr_ret ⟨by rw [Int.natCast_succ], ?_, f.trans f2⟩
      rw [es]
      unfold symB
      rw [if_pos q]
      exact rk2
    · rw [if_neg q]
      obtain ⟨n, hn⟩ : ∃ n : Nat, (gR g i).getD k (-1) - 26 = (n : Int) := ⟨((gR g i).getD k (-1) - 26).toNat, by omega⟩
      have nb := numB_ok (n := n) (by omega)
      refine tr_call (t_mput rk 40 (by omega)) ?_
      rintro _ K1 ⟨rk1, f1⟩
      rw [hn]
      refine tr_call (t_mnum rk1 (n := n) (by omega) (by rw [List.length_append]; show _ + 1 < 69990; omega)) ?_
      rintro _ K2 ⟨rk2, f2⟩
      refine tr_call (t_mput rk2 41 (by rw [List.length_append, List.length_append]; show _ + 1 + _ < 70000; omega)) ?_
      rintro _ K3 ⟨rk3, f3⟩
      refine tr_ret ⟨by rw [Int.natCast_succ], ?_, f.trans (f1.trans (f2.trans f3))⟩
      rw [es]
      unfold symB
      rw [if_neg q, hn]
      rw [← List.append_assoc, ← List.append_assoc]
      exact rk3
  · rintro J ⟨rk, f⟩
    unfold f_M_writesRow_w2
    rw [m_many (gwf J f) hi, bnd_some, if_neg (Int.lt_irrefl _)]
    exact tr_ret ⟨rk, f⟩
theorem og_34 (h : SI I s) : OGI f_PR_report f_M_report I := by
  obtain ⟨g, ps, kp, bs, rp⟩ := s
  have w : WF g := h.2.2.1
  have rn := repN_ok w 40 (Nat.le_refl _)
  refine og_I (s' := (g, ps, kp, bs, repN g 40)) (u := w32 ((repN g 40).length : Int)) h ⟨w, h.2.2.2.1, h.2.2.2.2.1, h.2.2.2.2.2.1, by show (repN g 40).length < 70000; omega, rn.1⟩ ?_ (fun J sm => m_endI ?_)
  · unfold f_PR_report
    refine tr_call (t_writeOf h.1 w) ?_
    rintro _ K ⟨sc, f⟩
    have e : K 10 0 1 = ((repN g 40).length : Int) := sc.2.2.2.2.2.2.1
    rw [e]
    exact tr_ret ⟨rfl, sc, f⟩
  · have s0 := sm.t7 (v := 0)
    unfold f_M_report
    try dsimp only [ltI]
    generalize sI J 26 0 7 0 = J0 at s0
    have f0 : Fm FMw J0 (sI J0 26 0 43 0) := Fm.sI (by decide) (by omega) (by omega) (Or.inr ⟨rfl, rfl⟩)
    have hr0 : RpM (sI J0 26 0 43 0) [] := ⟨sI_self _ _ _ _ _, fun j hj => absurd hj (Nat.not_lt_zero j)⟩
    have gwf : ∀ K : Mem, Fm FMw J0 K → GW K g := fun K f => s0.1.fm f (fun s _ z => by unfold FMw at z; omega)
    refine tr_call (t_mrow hr0 (gwf _ f0) w (i := 0) (by decide) (by decide)) ?_
    rintro _ J1 ⟨rk1, f1⟩
    refine tr_call (P := fun _ K => RpM K (repN g 40) ∧ Fm FMw J0 K) (tr_cnt (fun k => (k : Int)) (fun k K => RpM K (repN g k) ∧ Fm FMw J0 K) 40 rfl ⟨rk1, f0.trans f1⟩ ?_ ?_) ?_
    · rintro k K hk ⟨rk, f⟩
      have gk := gwf K f
      have ro := repN_ok w k (by omega)
      unfold f_M_report_w17
      rw [w32_of (x := (k : Int)) (by omega) (by omega), if_pos (by omega), m_isHere gk hk, bnd_some]
      by_cases q : gR g (k + 1) = []
      · rw [bI_neg (fun z => z q), if_pos (by decide)]
        refine tr_ret ⟨by rw [Int.natCast_succ], ?_, f⟩
        show RpM K (repN g k ++ rulB g k)
        unfold rulB
        rw [if_pos q, List.append_nil]
        exact rk
      · rw [bI_pos q, if_neg (by decide)]
        have nb := numB_ok (n := k) (by omega)
        refine tr_call (t_mput rk 32 (by omega)) ?_
        rintro _ K1 ⟨rk1, f1⟩
        refine tr_call (t_mnum rk1 (n := k) (by omega) (by rw [List.length_append]; show _ + 1 < 69990; omega)) ?_
        rintro _ K2 ⟨rk2, f2⟩
        refine tr_call (t_mput rk2 61 (by rw [List.length_append, List.length_append]; show _ + 1 + _ < 70000; omega)) ?_
        rintro _ K3 ⟨rk3, f3⟩
        have f03 := f.trans (f1.trans (f2.trans f3))
        rw [show (k : Int) + 1 = ((k + 1 : Nat) : Int) from rfl]
        refine tr_call (t_mrow rk3 (gwf K3 f03) w (i := k + 1) (by omega) (by rw [List.length_append, List.length_append, List.length_append]; show _ + 1 + _ + 1 + 1604 < 69990; omega)) ?_
        rintro _ K4 ⟨rk4, f4⟩
        refine tr_ret ⟨rfl, ?_, f03.trans f4⟩
        show RpM K4 (repN g k ++ rulB g k)
        unfold rulB
        rw [if_neg q, ← List.append_assoc, ← List.append_assoc, ← List.append_assoc]
        exact rk4
    · rintro K z
      unfold f_M_report_w17
      rw [if_neg (by decide)]
      exact tr_ret z
    · rintro _ K ⟨rk, f⟩
      rw [rk.1]
      exact tr_ret ⟨rfl, ⟨gwf K f, s0.2.1.fm f (fun z => by unfold FMw at z; omega) (fun s z => by unfold FMw at z; omega), s0.2.2.1.fm f (fun s z => by unfold FMw at z; omega) (fun s z => by unfold FMw at z; omega), s0.2.2.2.1.fm f (fun z => by unfold FMw at z; omega) (fun s z => by unfold FMw at z; omega), rk⟩, f.mono (fun a b c z => by unfold FMw at z; unfold FMq; omega)⟩
end REP
end
section
/-! ===== feed ===== -/
section FEED
variable {I J : Mem} {g g' : GS} {ps : List GS} {kp : Nat → Option GS} {bs rp : List Int} {s : SS}
theorem by_le (v : Int) : ian v 255 ≤ 255 := by
  unfold ian
  have h : ((Int32.ofInt v).toBitVec &&& 255#32).msb = false := by
    rw [BitVec.msb_and]
    exact Bool.and_false _
  show ((Int32.ofInt v).toBitVec &&& 255#32).toInt ≤ 255
  rw [BitVec.toInt_eq_toNat_of_msb h, BitVec.toNat_and]
  have := Nat.and_le_right (n := (Int32.ofInt v).toBitVec.toNat) (m := (255#32).toNat)
  have e : (255#32).toNat = 255 := rfl
  omega
def fedN (v : Int) : Nat → List Int
  | 0 => []
  | k + 1 => fedN v k ++ (if byK v k = 0 then [] else [byK v k])
theorem fedN_len (v : Int) : ∀ k : Nat, (fedN v k).length = nbk v k
  | 0 => rfl
  | k + 1 => by
    have ih := fedN_len v k
    show (fedN v k ++ (if byK v k = 0 then [] else [byK v k])).length = nbk v k + (if byK v k = 0 then 0 else 1)
    rw [List.length_append, ih]
    by_cases q : byK v k = 0
    · rw [if_pos q, if_pos q]; rfl
    · rw [if_neg q, if_neg q]; rfl
theorem fedN_rng (v : Int) : ∀ k : Nat, ∀ b ∈ fedN v k, 1 ≤ b ∧ b ≤ 255
  | 0, b, hb => absurd hb List.not_mem_nil
  | k + 1, b, hb => by
    have hb : b ∈ fedN v k ++ (if byK v k = 0 then [] else [byK v k]) := hb
    rcases List.mem_append.mp hb with z | z
    · exact fedN_rng v k b z
    · by_cases q : byK v k = 0
      · rw [if_pos q] at z; exact absurd z List.not_mem_nil
      · rw [if_neg q] at z
        rw [List.mem_singleton.mp z]
        have h1 := by_nn (isr v (24 - 8 * (k : Int)))
        have h2 := by_le (isr v (24 - 8 * (k : Int)))
        have q' : ¬ ian (isr v (24 - 8 * (k : Int))) 255 = 0 := q
        show 1 ≤ ian (isr v (24 - 8 * (k : Int))) 255 ∧ ian (isr v (24 - 8 * (k : Int))) 255 ≤ 255
        omega
theorem nbk_mono (v : Int) (a : Nat) : ∀ k : Nat, nbk v a ≤ nbk v (a + k)
  | 0 => Nat.le_refl _
  | k + 1 => by
    have := nbk_mono v a k
    show nbk v a ≤ nbk v (a + k) + (if byK v (a + k) = 0 then 0 else 1)
    split <;> omega
theorem t_takeG (v : Int) (hl : bs.length + nbk v 4 ≤ 600) (h : BfC I bs) : Tr (f_Src_take v I) (fun _ J => BfC J (bs ++ fedN v 4) ∧ Fm FSrc I J) := by
  unfold f_Src_take
  refine tr_call (P := fun _ J => BfC J (bs ++ fedN v 4) ∧ Fm FSrc I J) (tr_cnt (fun k => 24 - 8 * (k : Int)) (fun k J => BfC J (bs ++ fedN v k) ∧ Fm FSrc I J) 4 rfl ⟨by rw [show fedN v 0 = [] from rfl, List.append_nil]; exact h, Fm.refl _ _⟩ ?_ ?_) (fun _ _ q => tr_ret q)
  · rintro k J hk ⟨⟨e, eb⟩, f⟩
    have hm := nbk_mono v (k + 1) (4 - (k + 1))
    rw [show k + 1 + (4 - (k + 1)) = 4 by omega] at hm
    have hs : nbk v (k + 1) = nbk v k + (if byK v k = 0 then 0 else 1) := rfl
    have hlen : (bs ++ fedN v k).length = bs.length + nbk v k := by rw [List.length_append, fedN_len]
    have es : bs ++ fedN v (k + 1) = bs ++ fedN v k ++ (if byK v k = 0 then [] else [byK v k]) := by rw [List.append_assoc]; rfl
    unfold f_Src_take_w3
    rw [w32_of (x := 24 - 8 * (k : Int)) (by omega) (by omega), if_neg (by omega), by_eq v hk, by_w]
    by_cases q : byK v k = 0
    · rw [if_pos q]
      refine tr_ret ⟨by omega, ?_, f⟩
      rw [es, if_pos q, List.append_nil]
      exact ⟨e, eb⟩
    · rw [if_neg q] at hs
      rw [if_neg q, e, w32_of (x := ((bs ++ fedN v k).length : Int)) (by omega) (by omega), if_pos (by omega), if_pos (by omega), Int.toNat_natCast]
      try dsimp only [ltI]
      rw [sI_ne (by omega), e]
      refine tr_ret ⟨by omega, ?_, f.trans ((Fm.sI (by decide) (by omega) (by omega) (Or.inl rfl)).trans (Fm.sI (by decide) (by omega) (by omega) (Or.inr ⟨rfl, rfl⟩)))⟩
      rw [es, if_neg q]
      refine ⟨by rw [sI_self, List.length_append (as := bs ++ fedN v k)]; rfl, fun j hj => ?_⟩
      rw [List.length_append (as := bs ++ fedN v k)] at hj
      have hj : j < (bs ++ fedN v k).length + 1 := hj
      rw [sI_ne (by omega)]
      by_cases z : j = (bs ++ fedN v k).length
      · subst z
        rw [sI_self, gd_r (Nat.le_refl _), Nat.sub_self]
        rfl
      · rw [sI_ne (by omega), gd_l (by omega)]
        exact eb j (by omega)
  · rintro J z
    unfold f_Src_take_w3
    rw [if_pos (by decide)]
    exact tr_ret z
theorem t_feedsG (v : Int) (hl : bs.length + nbk v 4 ≤ 600) (h : BfM I bs) : Tr (f_M_feeds v I) (fun _ J => BfM J (bs ++ fedN v 4) ∧ Fm FMf I J) := by
  unfold f_M_feeds
  refine tr_call (P := fun _ J => BfM J (bs ++ fedN v 4) ∧ Fm FMf I J) (tr_cnt (fun k => 24 - 8 * (k : Int)) (fun k J => BfM J (bs ++ fedN v k) ∧ Fm FMf I J) 4 rfl ⟨by rw [show fedN v 0 = [] from rfl, List.append_nil]; exact h, Fm.refl _ _⟩ ?_ ?_) (fun _ _ q => tr_ret q)
  · rintro k J hk ⟨⟨e, eb⟩, f⟩
    have hm := nbk_mono v (k + 1) (4 - (k + 1))
    rw [show k + 1 + (4 - (k + 1)) = 4 by omega] at hm
    have hs : nbk v (k + 1) = nbk v k + (if byK v k = 0 then 0 else 1) := rfl
    have hlen : (bs ++ fedN v k).length = bs.length + nbk v k := by rw [List.length_append, fedN_len]
    have es : bs ++ fedN v (k + 1) = bs ++ fedN v k ++ (if byK v k = 0 then [] else [byK v k]) := by rw [List.append_assoc]; rfl
    unfold f_M_feeds_w3
    rw [w32_of (x := 24 - 8 * (k : Int)) (by omega) (by omega), if_neg (by omega), by_w]
    by_cases q : byK v k = 0
    · rw [if_pos q]
      refine tr_ret ⟨by omega, ?_, f⟩
      rw [es, if_pos q, List.append_nil]
      exact ⟨e, eb⟩
    · rw [if_neg q] at hs
      rw [if_neg q, e, w32_of (x := ((bs ++ fedN v k).length : Int)) (by omega) (by omega), if_pos (by omega), Int.toNat_natCast]
      try dsimp only [ltI]
      rw [sI_ne (by omega), e]
      refine tr_ret ⟨by omega, ?_, f.trans ((Fm.sI (by decide) (by omega) (by omega) (Or.inl ⟨rfl, rfl⟩)).trans (Fm.sI (by decide) (by omega) (by omega) (Or.inr ⟨rfl, rfl⟩)))⟩
      rw [es, if_neg q]
      refine ⟨by rw [sI_self, List.length_append (as := bs ++ fedN v k)]; rfl, fun j hj => ?_⟩
      rw [List.length_append (as := bs ++ fedN v k)] at hj
      have hj : j < (bs ++ fedN v k).length + 1 := hj
      rw [sI_ne (by omega)]
      by_cases z : j = (bs ++ fedN v k).length
      · subst z
        rw [sI_self, gd_r (Nat.le_refl _), Nat.sub_self]
        rfl
      · rw [sI_ne (by omega), gd_l (by omega)]
        exact eb j (by omega)
  · rintro J z
    unfold f_M_feeds_w3
    rw [if_pos (by decide)]
    exact tr_ret z
theorem og_0 (h : SI I s) (a1 a2 a3 a4 a5 : Int) : OGI (f_PR_feed a1 a2 a3 a4 a5) (f_M_feed a1 a2 a3 a4 a5) I := by
  obtain ⟨g, ps, kp, bs, rp⟩ := s
  have hl : bs.length ≤ 600 := h.2.2.2.2.2.1.1
  have hbr : ∀ b ∈ bs, 1 ≤ b ∧ b ≤ 255 := h.2.2.2.2.2.1.2
  have n1 := nbk_le a1 4
  have n2 := nbk_le a2 4
  have n3 := nbk_le a3 4
  have n4 := nbk_le a4 4
  have n5 := nbk_le a5 4
  have l1 := fedN_len a1 4
  have l2 := fedN_len a2 4
  have l3 := fedN_len a3 4
  have l4 := fedN_len a4 4
  have l5 := fedN_len a5 4
  obtain ⟨a1', b2, b3, b4, b5, b6, b7⟩ := h.1
  have e6 : I 6 0 1 = (bs.length : Int) := b6.1
  by_cases hr : 600 < bs.length + nbk a1 4 + nbk a2 4 + nbk a3 4 + nbk a4 4 + nbk a5 4
  · refine og_I (s' := (g, ps, kp, bs, rp)) (u := w32 (-1)) h h.2.2 ?_ (fun J sm => m_endI ?_)
    · have er : f_Src_hasRoomFor (((((nbk a1 4 : Int) + (nbk a2 4 : Int)) + (nbk a3 4 : Int)) + (nbk a4 4 : Int)) + (nbk a5 4 : Int)) I = some (0, I) := by
        unfold f_Src_hasRoomFor
        rw [e6, w32_of (by omega) (by omega), if_pos (by omega)]
      unfold f_PR_feed
      rw [s_bytesIn, bnd_some, s_bytesIn, bnd_some, s_bytesIn, bnd_some, s_bytesIn, bnd_some, s_bytesIn, bnd_some, er, bnd_some, if_pos (by decide)]
      exact tr_ret ⟨rfl, h.1, Fm.refl _ _⟩
    · have s0 := sm.t7 (v := 0)
      have e20 : (sI J 26 0 7 0) 26 0 20 = (bs.length : Int) := s0.2.2.2.1.1
      unfold f_M_feed
      try dsimp only [ltI]
      rw [m_bytesIn, bnd_some, m_bytesIn, bnd_some, m_bytesIn, bnd_some, m_bytesIn, bnd_some, m_bytesIn, bnd_some, e20, w32_of (by omega) (by omega), if_pos (by omega)]
      exact tr_ret ⟨rfl, s0, Fm.refl _ _⟩
  · have L : ∀ x y : List Int, (x ++ y).length = x.length + y.length := fun x y => List.length_append
    have hw : SW (g, ps, kp, bs ++ fedN a1 4 ++ fedN a2 4 ++ fedN a3 4 ++ fedN a4 4 ++ fedN a5 4, rp) := by
      refine ⟨h.2.2.1, h.2.2.2.1, h.2.2.2.2.1, ⟨?_, fun b hb => ?_⟩, h.2.2.2.2.2.2⟩
      · show (bs ++ fedN a1 4 ++ fedN a2 4 ++ fedN a3 4 ++ fedN a4 4 ++ fedN a5 4).length ≤ 600
        rw [L, L, L, L, L]
        omega
      · have hb : b ∈ bs ++ fedN a1 4 ++ fedN a2 4 ++ fedN a3 4 ++ fedN a4 4 ++ fedN a5 4 := hb
        rcases List.mem_append.mp hb with hb | z
        · rcases List.mem_append.mp hb with hb | z
          · rcases List.mem_append.mp hb with hb | z
            · rcases List.mem_append.mp hb with hb | z
              · rcases List.mem_append.mp hb with hb | z
                · exact hbr b hb
                · exact fedN_rng _ _ b z
              · exact fedN_rng _ _ b z
            · exact fedN_rng _ _ b z
          · exact fedN_rng _ _ b z
        · exact fedN_rng _ _ b z
    refine og_I (s' := (g, ps, kp, bs ++ fedN a1 4 ++ fedN a2 4 ++ fedN a3 4 ++ fedN a4 4 ++ fedN a5 4, rp)) (u := w32 ((bs ++ fedN a1 4 ++ fedN a2 4 ++ fedN a3 4 ++ fedN a4 4 ++ fedN a5 4).length : Int)) h hw ?_ (fun J sm => m_endI ?_)
    · have er : f_Src_hasRoomFor (((((nbk a1 4 : Int) + (nbk a2 4 : Int)) + (nbk a3 4 : Int)) + (nbk a4 4 : Int)) + (nbk a5 4 : Int)) I = some (1, I) := by
        unfold f_Src_hasRoomFor
        rw [e6, w32_of (by omega) (by omega), if_neg (by omega)]
      unfold f_PR_feed
      rw [s_bytesIn, bnd_some, s_bytesIn, bnd_some, s_bytesIn, bnd_some, s_bytesIn, bnd_some, s_bytesIn, bnd_some, er, bnd_some, if_neg (by decide)]
      refine tr_call (t_takeG (bs := bs) a1 (by omega) b6) ?_
      rintro _ J1 ⟨e, f1⟩
      refine tr_call (t_takeG a2 (by rw [L]; show bs.length + _ + _ ≤ 600; omega) e) ?_
      rintro _ J2 ⟨e, f2⟩
      refine tr_call (t_takeG a3 (by rw [L, L]; show bs.length + _ + _ + _ ≤ 600; omega) e) ?_
      rintro _ J3 ⟨e, f3⟩
      refine tr_call (t_takeG a4 (by rw [L, L, L]; show bs.length + _ + _ + _ + _ ≤ 600; omega) e) ?_
      rintro _ J4 ⟨e, f4⟩
      refine tr_call (t_takeG a5 (by rw [L, L, L, L]; show bs.length + _ + _ + _ + _ + _ ≤ 600; omega) e) ?_
      rintro _ J5 ⟨e, f5⟩
      have f := f1.trans (f2.trans (f3.trans (f4.trans f5)))
      rw [e.1]
      exact tr_ret ⟨rfl, ⟨a1'.fm f (fun k i s z q => by unfold FG at z; unfold FSrc at q; omega), b2.fm f (fun t _ k i s z q => by unfold FG at z; unfold FSrc at q; omega), b3.fm f (fun i s => ⟨fun z => by unfold FSrc at z; omega, fun z => by unfold FSrc at z; omega⟩), b4.fm f (fun s z => by unfold FSrc at z; omega) (fun t _ _ k i s z q => by unfold FG at z; unfold FSrc at q; omega), b5.fm f (fun s z => by unfold FSrc at z; omega) (fun t _ _ k i s z q => by unfold FG at z; unfold FSrc at q; omega), e, b7.fm f (fun s z => by unfold FSrc at z; omega) (fun s z => by unfold FSrc at z; omega)⟩, f.mono (fun a b c z => by unfold FSrc at z; unfold FCl; omega)⟩
    · have s0 := sm.t7 (v := 0)
      have e20 : (sI J 26 0 7 0) 26 0 20 = (bs.length : Int) := s0.2.2.2.1.1
      unfold f_M_feed
      try dsimp only [ltI]
      rw [m_bytesIn, bnd_some, m_bytesIn, bnd_some, m_bytesIn, bnd_some, m_bytesIn, bnd_some, m_bytesIn, bnd_some, e20, w32_of (by omega) (by omega), if_neg (by omega)]
      generalize sI J 26 0 7 0 = J0 at s0
      refine tr_call (t_feedsG a1 (by show bs.length + _ ≤ 600; omega) s0.2.2.2.1) ?_
      rintro _ J1 ⟨e, f1⟩
      refine tr_call (t_feedsG a2 (by rw [L]; show bs.length + _ + _ ≤ 600; omega) e) ?_
      rintro _ J2 ⟨e, f2⟩
      refine tr_call (t_feedsG a3 (by rw [L, L]; show bs.length + _ + _ + _ ≤ 600; omega) e) ?_
      rintro _ J3 ⟨e, f3⟩
      refine tr_call (t_feedsG a4 (by rw [L, L, L]; show bs.length + _ + _ + _ + _ ≤ 600; omega) e) ?_
      rintro _ J4 ⟨e, f4⟩
      refine tr_call (t_feedsG a5 (by rw [L, L, L, L]; show bs.length + _ + _ + _ + _ + _ ≤ 600; omega) e) ?_
      rintro _ J5 ⟨e, f5⟩
      have f := f1.trans (f2.trans (f3.trans (f4.trans f5)))
      rw [e.1]
      exact tr_ret ⟨rfl, ⟨s0.1.fm f (fun s _ z => by unfold FMf at z; omega), s0.2.1.fm f (fun z => by unfold FMf at z; omega) (fun s z => by unfold FMf at z; omega), s0.2.2.1.fm f (fun s z => by unfold FMf at z; omega) (fun s z => by unfold FMf at z; omega), e, s0.2.2.2.2.fm f (fun z => by unfold FMf at z; omega) (fun s z => by unfold FMf at z; omega)⟩, f.mono (fun a b c z => by unfold FMf at z; unfold FMq; omega)⟩
end FEED
end
