/-! ===== the state of a run: what class and reference hold; history ===== -/
theorem gd_l {α : Type} {l m : List α} {j : Nat} {d : α} (h : j < l.length) : (l ++ m).getD j d = l.getD j d := by
  simp [List.getD_eq_getElem?_getD, List.getElem?_append, h]
theorem gd_r {α : Type} {l m : List α} {j : Nat} {d : α} (h : l.length ≤ j) : (l ++ m).getD j d = m.getD (j - l.length) d := by
  simp [List.getD_eq_getElem?_getD, List.getElem?_append, Nat.not_lt.mpr h]
theorem gd_take {α : Type} {l : List α} {i j : Nat} {d : α} (h : j < i) : (l.take i).getD j d = l.getD j d := by
  simp [List.getD_eq_getElem?_getD, List.getElem?_take, h]
theorem gd_drop {α : Type} {l : List α} {i j : Nat} {d : α} : (l.drop i).getD j d = l.getD (i + j) d := by
  simp [List.getD_eq_getElem?_getD]
theorem gd_mem {α : Type} {l : List α} {j : Nat} {d : α} (h : j < l.length) : l.getD j d ∈ l := by
  simp [List.getD_eq_getElem?_getD, h]
/-- the past with one more -/
def pushP (ps : List GS) (g : GS) : List GS := if ps.length < 8 then ps ++ [g] else ps.drop 1 ++ [g]
theorem pushP_len {ps : List GS} {g : GS} (h : ps.length ≤ 8) : (pushP ps g).length = (if ps.length < 8 then ps.length + 1 else 8) ∧ (pushP ps g).length ≤ 8 := by
  unfold pushP
  by_cases q : ps.length < 8
  · rw [if_pos q, if_pos q, List.length_append]
    exact ⟨rfl, by show ps.length + 1 ≤ 8; omega⟩
  · rw [if_neg q, if_neg q, List.length_append, List.length_drop]
    show ps.length - 1 + 1 = 8 ∧ ps.length - 1 + 1 ≤ 8
    omega
theorem pushP_wf {ps : List GS} {g : GS} (h : ∀ x ∈ ps, WF x) (w : WF g) : ∀ x ∈ pushP ps g, WF x := by
  intro x hx
  unfold pushP at hx
  split at hx
  · rcases List.mem_append.mp hx with z | z
    · exact h x z
    · rw [List.mem_singleton.mp z]; exact w
  · rcases List.mem_append.mp hx with z | z
    · exact h x (List.mem_of_mem_drop z)
    · rw [List.mem_singleton.mp z]; exact w
/-- the class's ring of eight -/
def HC (I : Mem) (ps : List GS) : Prop := ps.length ≤ 8 ∧ I 9 0 4 = (ps.length : Int) ∧ ∃ nx : Nat, nx < 8 ∧ I 9 0 3 = (nx : Int) ∧ ∀ k : Nat, k < ps.length → GC I (2 + (nx + 8 - ps.length + k) % 8) (ps.getD k g0)
/-- the reference's row of eight -/
def HM (I : Mem) (ps : List GS) : Prop := ps.length ≤ 8 ∧ I 26 0 6 = (ps.length : Int) ∧ ∀ k : Nat, k < ps.length → GB I 3 (16860 * k) (ps.getD k g0)
def KpC (I : Mem) (kp : Nat → Option GS) : Prop := ∀ j : Nat, j < 2 → match kp j with
  | none => I 24 0 j = 0
  | some g => I 24 0 j = 1 ∧ GC I (10 + j) g
def KpM (I : Mem) (kp : Nat → Option GS) : Prop := ∀ j : Nat, j < 2 → match kp j with
  | none => I 28 0 j = 0
  | some g => I 28 0 j = 1 ∧ GB I 4 (16860 * j) g
theorem GB.fm {F : FP} {I J : Mem} {k b : Nat} {g : GS} (h : GB I k b g) (f : Fm F I J) (hn : ∀ s : Nat, b ≤ s → s < b + 16860 → ¬ F 27 k s) : GB J k b g := GWf.congr h (fun s hs => f.at (by decide) (hn (b + s) (by omega) (by omega)))
section SIM
variable {I J : Mem} {ps : List GS} {kp : Nat → Option GS} {g : GS} {F : FP}
theorem HC.fm (h : HC I ps) (f : Fm F I J) (h1 : ∀ s : Nat, ¬ F 9 0 s) (h2 : ∀ t : Nat, 2 ≤ t → t < 10 → ∀ k i s : Nat, FG t k i s → ¬ F k i s) : HC J ps := by
  obtain ⟨a, b, nx, c, d, e⟩ := h
  exact ⟨a, by rw [f.at (by decide) (h1 4)]; exact b, nx, c, by rw [f.at (by decide) (h1 3)]; exact d, fun k hk => (e k hk).fm f (h2 _ (by omega) (by omega))⟩
theorem HM.fm (h : HM I ps) (f : Fm F I J) (h1 : ¬ F 26 0 6) (h2 : ∀ s : Nat, ¬ F 27 3 s) : HM J ps := by
  obtain ⟨a, b, c⟩ := h
  exact ⟨a, by rw [f.at (by decide) h1]; exact b, fun k hk => (c k hk).fm f (fun s _ _ => h2 s)⟩
theorem KpC.fm (h : KpC I kp) (f : Fm F I J) (h1 : ∀ s : Nat, ¬ F 24 0 s) (h2 : ∀ t : Nat, 10 ≤ t → t < 12 → ∀ k i s : Nat, FG t k i s → ¬ F k i s) : KpC J kp := by
  intro j hj
  have hh := h j hj
  cases e : kp j with
  | none => rw [e] at hh; show J 24 0 j = 0; rw [f.at (by decide) (h1 j)]; exact hh
  | some g =>
    rw [e] at hh
    exact ⟨by rw [f.at (by decide) (h1 j)]; exact hh.1, hh.2.fm f (h2 _ (by omega) (by omega))⟩
theorem KpM.fm (h : KpM I kp) (f : Fm F I J) (h1 : ∀ s : Nat, ¬ F 28 0 s) (h2 : ∀ s : Nat, ¬ F 27 4 s) : KpM J kp := by
  intro j hj
  have hh := h j hj
  cases e : kp j with
  | none => rw [e] at hh; show J 28 0 j = 0; rw [f.at (by decide) (h1 j)]; exact hh
  | some g =>
    rw [e] at hh
    exact ⟨by rw [f.at (by decide) (h1 j)]; exact hh.1, hh.2.fm f (fun s _ _ => h2 s)⟩
abbrev FHis : FP := fun k i s => (∃ t : Nat, 2 ≤ t ∧ t < 10 ∧ FG t k i s) ∨ k = 9
theorem t_hrem (gc : GC I 0 g) (hA : AllG I) (h : HC I ps) : Tr (f_His_remember 0 I) (fun _ J => HC J (pushP ps g) ∧ AllG J ∧ Fm FHis I J) := by
  obtain ⟨hn, h4, nx, hx, h3, hg⟩ := h
  have hl := pushP_len (g := g) hn
  obtain ⟨g2, gt⟩ := hA (2 + nx) (by omega)
  have w3 : w32 (nx : Int) = nx := w32_of (by omega) (by omega)
  unfold f_His_remember
  rw [if_pos (by decide), h3, w3, if_pos (by omega), Int.toNat_natCast]
  refine tr_call (t_gtakeFrom gt gc (by omega)) ?_
  rintro _ J ⟨gt, f⟩
  have e3 : J 9 0 3 = (nx : Int) := (f.at (by decide) (by unfold FG; omega)).trans h3
  have e4 : J 9 0 4 = (ps.length : Int) := (f.at (by decide) (by unfold FG; omega)).trans h4
  have hA2 : AllG J := hA.go f (fun t => t = 2 + nx) (fun t _ z => by subst z; exact ⟨_, gt⟩) (fun t _ z k i s q q2 => by unfold FG at q q2; omega)
  have key : ∀ nx' : Nat, nx' = (nx + 1) % 8 → Tr (f_His_remember_j35 (nx' : Int) J) (fun _ K => HC K (pushP ps g) ∧ AllG K ∧ Fm FHis I K) := by
    intro nx' hx'
    unfold f_His_remember_j35
    try dsimp only [ltI]
    rw [sI_ne (by decide), e4]
    have f9 : ∀ v w : Int, Fm (fun k _ _ => k = 9) J (sI (sI J 9 0 3 v) 9 0 4 w) := fun v w => (Fm.sI (by decide) (by omega) (by omega) rfl).trans (Fm.sI (by decide) (by omega) (by omega) rfl)
    have fg : ∀ (v w : Int) (t : Nat) (x : GS), GC J t x → GC (sI (sI J 9 0 3 v) 9 0 4 w) t x := fun v w t x hx => hx.fm (f9 v w) (fun k i s z q => by unfold FG at z; omega)
    have em : imn ((ps.length : Int) + 1) 8 = ((pushP ps g).length : Int) := by
      rw [hl.1]
      unfold imn
      rw [w32_of (x := (ps.length : Int) + 1) (by omega) (by omega), w32_of (x := 8) (by decide) (by decide)]
      split <;> split <;> omega
    refine tr_ret ⟨⟨hl.2, by rw [sI_self]; exact em, nx', by omega, by rw [sI_ne (by decide), sI_self], fun k hk => fg _ _ _ _ ?_⟩, fun t ht => ?_, (f.mono (fun a b c z => Or.inl ⟨2 + nx, by omega, by omega, z⟩)).trans ((f9 _ _).mono (fun a b c z => Or.inr z))⟩
    · have old : ∀ k : Nat, k < ps.length → (nx + 8 - ps.length + k) % 8 ≠ nx → GC J (2 + (nx + 8 - ps.length + k) % 8) (ps.getD k g0) := fun k hk hne => (hg k hk).fm f (fun a b c z q => by unfold FG at z q; omega)
      rw [hl.1] at hk ⊢
      unfold pushP
      by_cases q : ps.length < 8
      · rw [if_pos q] at hk ⊢
        rw [if_pos q]
        by_cases q2 : k < ps.length
        · rw [gd_l q2, show (nx' + 8 - (ps.length + 1) + k) % 8 = (nx + 8 - ps.length + k) % 8 by omega]
          exact old k q2 (by omega)
        · rw [gd_r (by omega), show k - ps.length = 0 by omega, show (nx' + 8 - (ps.length + 1) + k) % 8 = nx by omega]
          exact gt
      · rw [if_neg q] at hk ⊢
        rw [if_neg q]
        have hd : (ps.drop 1).length = 7 := by rw [List.length_drop]; omega
        by_cases q2 : k < 7
        · rw [gd_l (by omega), gd_drop, show (nx' + 8 - 8 + k) % 8 = (nx + 8 - ps.length + (1 + k)) % 8 by omega]
          exact old (1 + k) (by omega) (by omega)
        · rw [gd_r (by omega), hd, show k - 7 = 0 by omega, show (nx' + 8 - 8 + k) % 8 = nx by omega]
          exact gt
    · obtain ⟨x, hx⟩ := hA2 t ht
      exact ⟨x, fg _ _ t x hx⟩
  rw [e3, show (nx : Int) + 1 = ((nx + 1 : Nat) : Int) from rfl, w32_of (x := ((nx + 1 : Nat) : Int)) (by omega) (by omega)]
  by_cases q : nx + 1 < 8
  · rw [if_pos (by omega)]
    exact key (nx + 1) (by omega)
  · rw [if_neg (by omega)]
    exact key 0 (by omega)
/-- one step back, the past not empty -/
theorem t_hback (h0 : ∃ x : GS, GC I 0 x) (h : HC I ps) (hne : ps ≠ []) : Tr (f_His_goBack 0 I) (fun _ J => GC J 0 (ps.getD (ps.length - 1) g0) ∧ HC J (ps.take (ps.length - 1)) ∧ Fm (fun k i s => FG 0 k i s ∨ k = 9) I J) := by
  obtain ⟨hn, h4, nx, hx, h3, hg⟩ := h
  have hpos : 0 < ps.length := List.length_pos_iff.mpr hne
  obtain ⟨x0, gc0⟩ := h0
  have key : ∀ nx' : Nat, nx' < 8 → nx' = (nx + 7) % 8 → Tr (f_His_goBack_j26 0 (nx' : Int) I) (fun _ J => GC J 0 (ps.getD (ps.length - 1) g0) ∧ HC J (ps.take (ps.length - 1)) ∧ Fm (fun k i s => FG 0 k i s ∨ k = 9) I J) := by
    intro nx' hx8 hx'
    have f9 : ∀ v w : Int, Fm (fun k _ _ => k = 9) I (sI (sI I 9 0 3 v) 9 0 4 w) := fun v w => (Fm.sI (by decide) (by omega) (by omega) rfl).trans (Fm.sI (by decide) (by omega) (by omega) rfl)
    unfold f_His_goBack_j26
    try dsimp only [ltI]
    rw [show (sI I 9 0 3 (nx' : Int)) 9 0 4 = (ps.length : Int) by rw [sI_ne (by decide), h4], show (sI (sI I 9 0 3 (nx' : Int)) 9 0 4 ((ps.length : Int) - 1)) 9 0 3 = (nx' : Int) by rw [sI_ne (by decide), sI_self], w32_of (x := (nx' : Int)) (by omega) (by omega), if_pos (by omega), Int.toNat_natCast]
    have f1 := f9 (nx' : Int) ((ps.length : Int) - 1)
    have e3 : (sI (sI I 9 0 3 (nx' : Int)) 9 0 4 ((ps.length : Int) - 1)) 9 0 3 = (nx' : Int) := by rw [sI_ne (by decide), sI_self]
    have e4 : (sI (sI I 9 0 3 (nx' : Int)) 9 0 4 ((ps.length : Int) - 1)) 9 0 4 = (ps.length : Int) - 1 := sI_self _ _ _ _ _
    generalize sI (sI I 9 0 3 (nx' : Int)) 9 0 4 ((ps.length : Int) - 1) = J1 at f1 e3 e4
    have gl := hg (ps.length - 1) (by omega)
    rw [show (nx + 8 - ps.length + (ps.length - 1)) % 8 = nx' by omega] at gl
    refine tr_call (t_gtakeFrom (gc0.fm f1 (fun k i s z q => by unfold FG at z; omega)) (gl.fm f1 (fun k i s z q => by unfold FG at z; omega)) (by omega)) ?_
    rintro _ J ⟨gc, f2⟩
    have hlen : (ps.take (ps.length - 1)).length = ps.length - 1 := by rw [List.length_take]; omega
    refine tr_ret ⟨gc, ⟨by omega, ?_, nx', hx8, ?_, fun k hk => ?_⟩, (f1.mono (fun a b c z => Or.inr z)).trans (f2.mono (fun a b c z => Or.inl z))⟩
    · rw [f2.at (by decide) (by unfold FG; omega), e4, hlen]; omega
    · rw [f2.at (by decide) (by unfold FG; omega), e3]
    · rw [hlen] at hk ⊢
      rw [gd_take hk, show (nx' + 8 - (ps.length - 1) + k) % 8 = (nx + 8 - ps.length + k) % 8 by omega]
      exact ((hg k (by omega)).fm f1 (fun k i s z q => by unfold FG at z; omega)).fm f2 (fun k i s z q => by unfold FG at z q; omega)
  unfold f_His_goBack
  rw [if_pos (by decide), h4, w32_of (x := (ps.length : Int)) (by omega) (by omega), if_pos (by omega), h3, w32_of (x := (nx : Int)) (by omega) (by omega)]
  by_cases q : 0 < nx
  · rw [if_pos (by omega), show (nx : Int) - 1 = ((nx - 1 : Nat) : Int) by omega]
    exact key (nx - 1) (by omega) (by omega)
  · rw [if_neg (by omega)]
    exact key 7 (by omega) (by omega)
abbrev FRb3 : FP := fun k i s => (k = 27 ∧ i = 3) ∨ (k = 26 ∧ s = 6)
theorem t_mrem {q : Nat} (hq : q = 0 ∨ q = 2) (gw : GB I q 0 g) (h : HM I ps) : Tr (f_M_remembers q I) (fun _ J => HM J (pushP ps g) ∧ Fm FRb3 I J) := by
  obtain ⟨hn, h6, hg⟩ := h
  have hl := pushP_len (g := g) hn
  have key : ∀ (m : Nat) (J : Mem), m < 8 → J 26 0 6 = (m : Int) → m + 1 = (pushP ps g).length → (∀ k : Nat, k < m → GB J 3 (16860 * k) ((pushP ps g).getD k g0)) → (pushP ps g).getD m g0 = g → GB J q 0 g → Fm FRb3 I J → Tr (f_M_remembers_j50 q J) (fun _ K => HM K (pushP ps g) ∧ Fm FRb3 I K) := by
    intro m J hm e6 em hk eg gq f
    unfold f_M_remembers_j50
    rw [e6, show (16860 : Int) * (m : Int) = ((16860 * m : Nat) : Int) by omega]
    have hb : 0 + 16860 ≤ mLen q ∧ mLen q ≤ 1000000 := by rcases hq with rfl | rfl <;> decide
    refine tr_call (t_mlays (k := q) (b := 0) (k' := 3) (b' := 16860 * m) (I := J) (by omega) (by decide) hb.1 (by show 16860 * m + 16860 ≤ 134880; omega) hb.2 (by decide) (by omega)) ?_
    rintro _ K ⟨hc, f2⟩
    try dsimp only [ltI]
    have f3 : ∀ v : Int, Fm (fun k _ s => k = 26 ∧ s = 6) K (sI K 26 0 6 v) := fun v => Fm.sI (by decide) (by omega) (by omega) ⟨rfl, rfl⟩
    have e6' : K 26 0 6 = (m : Int) := (f2.at (by decide) (by omega)).trans e6
    rw [e6']
    refine tr_ret ⟨⟨hl.2, by rw [sI_self]; omega, fun k hk' => ?_⟩, f.trans ((f2.mono (fun a b c z => Or.inl ⟨z.1, z.2.1⟩)).trans ((f3 _).mono (fun a b c z => Or.inr z)))⟩
    refine GB.fm ?_ (f3 _) (fun s _ _ z => absurd z.1 (by decide))
    by_cases z : k < m
    · exact (hk k z).fm f2 (fun s h1 h2 z => by omega)
    · obtain rfl : k = m := by omega
      rw [eg]
      refine GWf.congr gq (fun s hs => ?_)
      rw [hc s hs]
  unfold f_M_remembers
  rw [if_pos (by omega), h6, w32_of (x := (ps.length : Int)) (by omega) (by omega)]
  by_cases q8 : ps.length = 8
  · rw [if_pos (by omega)]
    refine tr_call (P := fun _ J => (∀ s : Nat, s < 118020 → J 27 3 s = I 27 3 (s + 16860)) ∧ Fm (fun k i s => k = 27 ∧ i = 3 ∧ s < 118020) I J) (tr_cnt (fun k => (k : Int)) (fun n J => (∀ s : Nat, s < n → J 27 3 s = I 27 3 (s + 16860)) ∧ Fm (fun k i s => k = 27 ∧ i = 3 ∧ s < n) I J) 118020 rfl ⟨fun s hs => absurd hs (Nat.not_lt_zero s), Fm.refl _ _⟩ ?_ ?_) ?_
    · rintro n J hn ⟨hc, f⟩
      unfold f_M_remembers_w11
      rw [w32_of (x := (n : Int)) (by omega) (by omega), if_pos (by omega), show (n : Int) + 16860 = ((n + 16860 : Nat) : Int) by omega, w32_of (x := ((n + 16860 : Nat) : Int)) (by omega) (by omega), if_pos (by omega), if_pos (by omega), Int.toNat_natCast, Int.toNat_natCast]
      try dsimp only [ltI]
      refine tr_ret ⟨by omega, fun s hs => ?_, (f.mono (fun a b c z => ⟨z.1, z.2.1, by omega⟩)).trans (Fm.sI (by decide) (by omega) (by omega) ⟨rfl, rfl, by omega⟩)⟩
      by_cases z : s = n
      · subst z
        rw [sI_self, f.at (by decide) (by omega)]
      · rw [sI_ne (by omega)]
        exact hc s (by omega)
    · rintro J z
      unfold f_M_remembers_w11
      rw [w32_of (x := ((118020 : Nat) : Int)) (by decide) (by decide), if_neg (by decide)]
      exact tr_ret z
    · rintro _ J ⟨hc, f⟩
      try dsimp only [ltI]
      have f3 : ∀ v : Int, Fm (fun k _ s => k = 26 ∧ s = 6) J (sI J 26 0 6 v) := fun v => Fm.sI (by decide) (by omega) (by omega) ⟨rfl, rfl⟩
      have e6 : J 26 0 6 = (ps.length : Int) := (f.at (by decide) (by omega)).trans h6
      have hd : (ps.drop 1).length = 7 := by rw [List.length_drop]; omega
      have ep : pushP ps g = ps.drop 1 ++ [g] := by unfold pushP; rw [if_neg (by omega)]
      refine key 7 _ (by decide) (by rw [sI_self, e6, q8]; rfl) (by rw [hl.1, if_neg (by omega)]) (fun k hk => ?_) ?_ ?_ ((f.mono (fun a b c z => Or.inl ⟨z.1, z.2.1⟩)).trans ((f3 _).mono (fun a b c z => Or.inr z)))
      · refine GB.fm ?_ (f3 _) (fun s _ _ z => absurd z.1 (by decide))
        rw [ep, gd_l (by omega), gd_drop]
        refine GWf.congr (hg (1 + k) (by omega)) (fun s hs => ?_)
        rw [hc _ (by omega), show 16860 * k + s + 16860 = 16860 * (1 + k) + s by omega]
      · rw [ep, gd_r (by omega), hd]
        rfl
      · refine GB.fm (gw.fm f (fun s _ _ z => by omega)) (f3 _) (fun s _ _ z => absurd z.1 (by decide))
  · rw [if_neg (by omega)]
    have ep : pushP ps g = ps ++ [g] := by unfold pushP; rw [if_pos (by omega)]
    refine key ps.length I (by omega) h6 (by rw [hl.1, if_pos (by omega)]) (fun k hk => by rw [ep, gd_l hk]; exact hg k hk) (by rw [ep, gd_r (Nat.le_refl _), Nat.sub_self]; rfl) gw (Fm.refl _ _)
end SIM
