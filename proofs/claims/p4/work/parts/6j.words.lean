/-! ===== words, numbers, signs of both sides ===== -/
def tkL (bs : List Int) (p : Nat) : List Int := (bs.drop (tF bs p)).take (tE bs p - tF bs p)
def wfF (t : List Int) : Nat → Nat → Nat
  | 0, _ => 14
  | n + 1, k => if t = wText.getD k [] then k else wfF t n (k + 1)
/-- the word at a place: which one -/
def wd (bs : List Int) (p : Nat) : Nat := if tK bs p = 1 then wfF (tkL bs p) 15 0 else 14
/-- a number at a place: its error, 0 if it is good -/
def nbE (bs : List Int) (p : Nat) (lo hi : Int) : Int := if tK bs p ≠ 2 then 1 else if lo ≤ nV bs p ∧ nV bs p ≤ hi then 0 else 2
theorem tkL_len {bs : List Int} {p : Nat} (hp : p ≤ bs.length) : (tkL bs p).length = tE bs p - tF bs p := by
  have := tE_le hp
  unfold tkL
  rw [List.length_take, List.length_drop]
  omega
theorem tkL_at {bs : List Int} {p j : Nat} (h : j < tE bs p - tF bs p) : (tkL bs p).getD j 0 = bs.getD (tF bs p + j) 0 := by
  unfold tkL
  rw [gd_take h, gd_drop]
theorem wf_of (t : List Int) : ∀ (n k : Nat), wfF t n k = 14 ∨ (t = wText.getD (wfF t n k) [] ∧ k ≤ wfF t n k ∧ wfF t n k < k + n)
  | 0, k => Or.inl rfl
  | n + 1, k => by
    show (if t = wText.getD k [] then k else wfF t n (k + 1)) = 14 ∨ (t = wText.getD (if t = wText.getD k [] then k else wfF t n (k + 1)) [] ∧ k ≤ (if t = wText.getD k [] then k else wfF t n (k + 1)) ∧ (if t = wText.getD k [] then k else wfF t n (k + 1)) < k + (n + 1))
    by_cases q : t = wText.getD k []
    · rw [if_pos q]
      exact Or.inr ⟨q, Nat.le_refl _, by omega⟩
    · rw [if_neg q]
      rcases wf_of t n (k + 1) with h | ⟨h1, h2, h3⟩
      · exact Or.inl h
      · exact Or.inr ⟨h1, by omega, by omega⟩
theorem wf_own : ∀ i : Nat, i < 14 → wfF (wText.getD i []) 15 0 = i := by decide
theorem wd_iff {bs : List Int} {p i : Nat} (hi : i < 14) : wd bs p = i ↔ tK bs p = 1 ∧ tkL bs p = wText.getD i [] := by
  unfold wd
  by_cases q : tK bs p = 1
  · rw [if_pos q]
    constructor
    · intro h
      rcases wf_of (tkL bs p) 15 0 with z | ⟨z, -, -⟩
      · omega
      · rw [h] at z; exact ⟨q, z⟩
    · rintro ⟨-, h⟩
      rw [h]
      exact wf_own i hi
  · rw [if_neg q]
    exact ⟨fun h => by omega, fun h => absurd h.1 q⟩
theorem wd_lt (bs : List Int) (p : Nat) : wd bs p < 15 := by
  unfold wd
  split
  · rcases wf_of (tkL bs p) 15 0 with z | ⟨-, -, z⟩ <;> omega
  · omega
theorem wd_word {bs : List Int} {p i : Nat} (h : wd bs p = i) (hi : i < 14) : tK bs p = 1 := ((wd_iff hi).mp h).1
theorem wLen_rng : ∀ i : Nat, i < 15 → 0 ≤ wLen i ∧ wLen i ≤ 7 := by decide
theorem wAt_rng : ∀ i : Nat, i < 15 → ∀ k : Nat, k < 8 → 0 ≤ wAt i k ∧ wAt i k ≤ 255 := by decide
theorem ext_getD {a b : List Int} (h1 : a.length = b.length) (h2 : ∀ j : Nat, j < a.length → a.getD j 0 = b.getD j 0) : a = b := by
  refine List.ext_getElem h1 (fun j ha hb => ?_)
  have := h2 j ha
  simpa [List.getD_eq_getElem?_getD, ha, hb] using this
/-- a loop that asks whether all places hold -/
theorem whl_all {step : Int → Mem → Option ((Int ⊕ Int) × Mem)} {I : Mem} (q : Nat → Prop) [∀ k : Nat, Decidable (q k)] (n : Nat) (hs : ∀ k : Nat, k < n → step (k : Int) I = some (if q k then .inl ((k : Int) + 1) else .inr 0, I)) (he : step (n : Int) I = some (.inr 1, I)) (p : Prop) [Decidable p] (hp : p ↔ ∀ k : Nat, k < n → q k) : whl step 0 I = some (bI p, I) := by
  have key : ∀ m k : Nat, k + m = n → (∀ j : Nat, j < k → q j) → whl step (k : Int) I = some (bI p, I) := by
    intro m
    induction m with
    | zero =>
      intro k hk hj
      have hk : k = n := by omega
      subst hk
      rw [whl_eq, he, bI_pos (hp.mpr hj)]
    | succ m ih =>
      intro k hk hj
      rw [whl_eq, hs k (by omega)]
      by_cases z : q k
      · rw [if_pos z]
        refine ih (k + 1) (by omega) (fun j h => ?_)
        by_cases e : j = k
        · rw [e]; exact z
        · exact hj j (by omega)
      · rw [if_neg z, bI_neg (fun y => z (hp.mp y k (by omega)))]
  exact key n 0 (by omega) (fun j h => by omega)
section WRD
variable {I J : Mem} {bs : List Int} {p : Nat}
theorem c_byteAt (hB : BfC I bs) (hl : bs.length ≤ 600) {q : Nat} (hq : q < bs.length) : f_Src_byteAt (q : Int) I = some (bs.getD q 0, I) := by
  unfold f_Src_byteAt
  rw [w32_of (x := (q : Int)) (by omega) (by omega), if_neg (by omega), if_pos (by omega), if_pos (by omega), Int.toNat_natCast, hB.2 q hq]
theorem c_spells (hB : BfC I bs) (hl : bs.length ≤ 600) (hr : ∀ b ∈ bs, 1 ≤ b ∧ b ≤ 255) (hp : p ≤ bs.length) (ht : TC I bs p) {i : Nat} (hi : i < 15) : f_Src_spells i I = some (bI (tkL bs p = wText.getD i []), I) := by
  have hE := tE_le hp
  have hw := wLen_rng i hi
  have hn : wLen i = (((wText.getD i []).length : Nat) : Int) := rfl
  have hk := tkL_len hp
  unfold f_Src_spells
  rw [if_pos hi, ht.2.1, ht.2.2, w32_of (x := wLen i) (by omega) (by omega), w32_of (x := ((tE bs p : Nat) : Int) - ((tF bs p : Nat) : Int)) (by omega) (by omega)]
  by_cases q : wLen i = ((tE bs p : Nat) : Int) - ((tF bs p : Nat) : Int)
  · rw [if_pos q]
    refine whl_all (fun k => bs.getD (tF bs p + k) 0 = wAt i k) (wText.getD i []).length (fun k hkl => ?_) ?_ _ ?_
    · have hb := gd_rng hr (p := tF bs p + k) (by omega)
      have ha := wAt_rng i hi k (by omega)
      unfold f_Src_spells_w20
      rw [w32_of (x := (k : Int)) (by omega) (by omega), w32_of (x := wLen i) (by omega) (by omega), if_pos (by omega), ht.2.1, show ((tF bs p : Nat) : Int) + (k : Int) = ((tF bs p + k : Nat) : Int) from by omega, c_byteAt hB hl (by omega), bnd_some, if_pos (by omega), Int.toNat_natCast, w32_of (x := bs.getD (tF bs p + k) 0) (by omega) (by omega), w32_of (x := wAt i k) (by omega) (by omega)]
      by_cases z : bs.getD (tF bs p + k) 0 = wAt i k
      · rw [if_pos z, if_pos z]
      · rw [if_neg z, if_neg z]
    · unfold f_Src_spells_w20
      rw [w32_of (x := (((wText.getD i []).length : Nat) : Int)) (by omega) (by omega), w32_of (x := wLen i) (by omega) (by omega), if_neg (by omega)]
    · constructor
      · intro h k hkl
        have h2 := tkL_at (bs := bs) (p := p) (j := k) (by omega)
        rw [← h2, h]
        rfl
      · intro h
        refine ext_getD (by omega) (fun j hj => ?_)
        rw [tkL_at (by omega)]
        exact h j (by omega)
  · rw [if_neg q, bI_neg (fun z => q (by rw [hn, ← z, hk]; omega))]
theorem whl_word {step : Int → Mem → Option ((Int ⊕ Nat) × Mem)} {I : Mem} {t : List Int} (N : Nat) (hs : ∀ k : Nat, k < N → step (k : Int) I = some (if t = wText.getD k [] then .inr k else .inl ((k : Int) + 1), I)) (he : step (N : Int) I = some (.inr 14, I)) : ∀ m k : Nat, k + m = N → whl step (k : Int) I = some (wfF t m k, I) := by
  intro m
  induction m with
  | zero =>
    intro k hk
    have hk : k = N := by omega
    subst hk
    rw [whl_eq, he]
    rfl
  | succ m ih =>
    intro k hk
    rw [whl_eq, hs k (by omega)]
    show _ = some ((if t = wText.getD k [] then k else wfF t m (k + 1)), I)
    by_cases z : t = wText.getD k []
    · rw [if_pos z, if_pos z]
    · rw [if_neg z, if_neg z]
      exact ih (k + 1) (by omega)
theorem c_word (hB : BfC I bs) (hl : bs.length ≤ 600) (hr : ∀ b ∈ bs, 1 ≤ b ∧ b ≤ 255) (hp : p ≤ bs.length) (ht : TC I bs p) : f_Src_word I = some (wd bs p, I) := by
  have hkr := tK_rng bs p
  unfold f_Src_word wd
  rw [ht.1, w32_of (x := tK bs p) (by omega) (by omega)]
  by_cases q : tK bs p = 1
  · rw [if_pos q, if_pos q]
    refine whl_word (t := tkL bs p) 15 (fun k hk => ?_) ?_ 15 0 (Nat.zero_add 15)
    · unfold f_Src_word_w10
      rw [w32_of (x := (k : Int)) (by omega) (by omega), if_pos (by omega), if_pos (by omega), Int.toNat_natCast, c_spells hB hl hr hp ht (by omega), bnd_some]
      by_cases z : tkL bs p = wText.getD k []
      · rw [if_neg (wb_pos z), if_pos (by omega), if_pos z]
      · rw [if_pos (wb_neg z), if_neg z]
    · unfold f_Src_word_w10
      rw [if_neg (by decide)]
  · rw [if_neg q, if_neg q]
theorem c_is (ht : TC I bs p) {a : Int} (ha : 0 ≤ a ∧ a < 100) : f_Src_is a I = some (bI (tK bs p = a), I) := by
  have hkr := tK_rng bs p
  unfold f_Src_is
  rw [ht.1, w32_of (x := tK bs p) (by omega) (by omega), w32_of (x := a) (by omega) (by omega)]
  by_cases q : tK bs p = a
  · rw [if_pos q, bI_pos q]
  · rw [if_neg q, bI_neg q]
/-- an error of the class's source -/
abbrev FEc : FP := fun k _ s => k = 6 ∧ (s = 6 ∨ s = 7)
theorem t_failAt (a b : Int) : Tr (f_Src_failAt a b I) (fun x K => x = 0 ∧ K 6 0 6 = a ∧ Fm FEc I K) := by
  unfold f_Src_failAt
  try dsimp only [ltI]
  exact tr_ret ⟨rfl, by rw [sI_ne (by omega), sI_self], (Fm.sI (by decide) (by omega) (by omega) ⟨rfl, Or.inl rfl⟩).trans (Fm.sI (by decide) (by omega) (by omega) ⟨rfl, Or.inr rfl⟩)⟩
theorem t_fail (a : Int) : Tr (f_Src_fail a I) (fun x K => x = 0 ∧ K 6 0 6 = a ∧ Fm FEc I K) := by
  unfold f_Src_fail
  refine tr_call (t_failAt a _) ?_
  rintro x K ⟨rfl, h1, h2⟩
  rw [if_pos (Or.inl rfl)]
  exact tr_ret ⟨rfl, h1, h2⟩
/-- all of the source but how many bytes it has -/
abbrev FSx : FP := fun k _ s => k = 6 ∧ 2 ≤ s ∧ s ≤ 7
theorem fec_sx : ∀ k i s : Nat, FEc k i s → FSx k i s := fun k i s z => by unfold FEc at z; unfold FSx; omega
theorem fad_sx : ∀ k i s : Nat, FAd k i s → FSx k i s := fun k i s z => by unfold FAd at z; unfold FSx; omega
theorem BfC.sx (h : BfC I bs) (f : Fm FSx I J) : BfC J bs := h.fm f (by unfold FSx; omega) (fun s => by unfold FSx; omega)
theorem TC.ec (h : TC I bs p) (f : Fm FEc I J) : TC J bs p := ⟨by rw [f.at (by decide) (by unfold FEc; omega)]; exact h.1, by rw [f.at (by decide) (by unfold FEc; omega)]; exact h.2.1, by rw [f.at (by decide) (by unfold FEc; omega)]; exact h.2.2⟩
theorem t_advS (hB : BfC I bs) (hl : bs.length ≤ 600) (hr : ∀ b ∈ bs, 1 ≤ b ∧ b ≤ 255) (hp : p ≤ bs.length) (ht : TC I bs p) : Tr (f_Src_advance I) (fun _ K => TC K bs (tE bs p) ∧ Fm FSx I K) := by
  refine tr_mono (t_adv hB hl hr (tE_le hp).2.1 ht.2.2) ?_
  rintro _ K ⟨a, b⟩
  exact ⟨a, b.mono fad_sx⟩
theorem t_pass (hB : BfC I bs) (hl : bs.length ≤ 600) (hr : ∀ b ∈ bs, 1 ≤ b ∧ b ≤ 255) (hp : p ≤ bs.length) (ht : TC I bs p) {a : Int} (ha : 0 ≤ a ∧ a < 100) : Tr (f_Src_pass a I) (fun x K => x = bI (tK bs p = a) ∧ (tK bs p = a → TC K bs (tE bs p)) ∧ (tK bs p ≠ a → K 6 0 6 = 1) ∧ Fm FSx I K) := by
  have hkr := tK_rng bs p
  unfold f_Src_pass
  rw [ht.1, w32_of (x := tK bs p) (by omega) (by omega), w32_of (x := a) (by omega) (by omega)]
  by_cases q : tK bs p = a
  · rw [if_pos q]
    refine tr_call (t_advS hB hl hr hp ht) ?_
    rintro _ K ⟨h1, h2⟩
    exact tr_ret ⟨(bI_pos q).symm, fun _ => h1, fun z => absurd q z, h2⟩
  · rw [if_neg q]
    refine tr_call (t_fail 1) ?_
    rintro x K ⟨rfl, h1, h2⟩
    rw [if_pos (Or.inl rfl)]
    exact tr_ret ⟨(bI_neg q).symm, fun z => absurd z q, fun _ => h1, h2.mono fec_sx⟩
theorem t_readNumber (hB : BfC I bs) (hl : bs.length ≤ 600) (hr : ∀ b ∈ bs, 1 ≤ b ∧ b ≤ 255) (hp : p ≤ bs.length) (ht : TC I bs p) {lo hi : Int} (h0 : 0 ≤ lo ∧ lo ≤ 1000) (h1 : 0 ≤ hi ∧ hi ≤ 1000) : Tr (f_Src_readNumber lo hi I) (fun x K => x = bI (nbE bs p lo hi = 0) ∧ (nbE bs p lo hi = 0 → K 6 0 5 = nV bs p) ∧ (nbE bs p lo hi ≠ 0 → K 6 0 6 = nbE bs p lo hi) ∧ TC K bs p ∧ Fm FSx I K) := by
  have hkr := tK_rng bs p
  have hE := tE_le hp
  unfold f_Src_readNumber
  rw [ht.1, w32_of (x := tK bs p) (by omega) (by omega)]
  by_cases q : tK bs p = 2
  · have hnr := nV_rng q
    rw [if_pos q, ht.2.1, ht.2.2, w32_of (x := ((tE bs p : Nat) : Int) - ((tF bs p : Nat) : Int)) (by omega) (by omega)]
    by_cases q6 : tE bs p - tF bs p ≤ 6
    · rw [if_neg (by omega)]
      try dsimp only [ltI]
      -- the loop over the digits
      have lp : ∀ J : Mem, BfC J bs → TC J bs p → J 6 0 5 = 0 → Tr (whl (f_Src_readNumber_w44 lo hi) (J 6 0 3) J) (fun _ K => K 6 0 5 = dg bs (tF bs p) (tE bs p - tF bs p) ∧ Fm (fun k _ s => k = 6 ∧ s = 5) J K) := by
        intro J hBJ tJ e5
        rw [tJ.2.1]
        refine tr_cnt (fun k => (((tF bs p + k : Nat)) : Int)) (fun k K => K 6 0 5 = dg bs (tF bs p) k ∧ Fm (fun k _ s => k = 6 ∧ s = 5) J K) (tE bs p - tF bs p) rfl ⟨e5, Fm.refl _ _⟩ ?_ ?_
        · rintro k K hk ⟨e, f⟩
          have hBK : BfC K bs := hBJ.fm f (by omega) (fun s => by omega)
          have e4 : K 6 0 4 = ((tE bs p : Nat) : Int) := by rw [f.at (by decide) (by omega)]; exact tJ.2.2
          unfold f_Src_readNumber_w44
          rw [e4, w32_of (x := ((tF bs p + k : Nat) : Int)) (by omega) (by omega), w32_of (x := ((tE bs p : Nat) : Int)) (by omega) (by omega), if_pos (by omega), c_byteAt hBK hl (by omega), bnd_some]
          try dsimp only [ltI]
          refine tr_ret ⟨rfl, ?_, f.trans (Fm.sI (by decide) (by omega) (by omega) ⟨rfl, rfl⟩)⟩
          rw [sI_self, e]
          show dg bs (tF bs p) k * 10 + bs.getD (tF bs p + k) 0 - 48 = 10 * dg bs (tF bs p) k + bs.getD (tF bs p + k) 0 - 48
          omega
        · rintro K ⟨e, f⟩
          have e4 : K 6 0 4 = ((tE bs p : Nat) : Int) := by rw [f.at (by decide) (by omega)]; exact tJ.2.2
          unfold f_Src_readNumber_w44
          rw [e4, w32_of (x := ((tF bs p + (tE bs p - tF bs p) : Nat) : Int)) (by omega) (by omega), w32_of (x := ((tE bs p : Nat) : Int)) (by omega) (by omega), if_neg (by omega)]
          exact tr_ret ⟨e, f⟩
      have f5 : Fm FSx I (sI I 6 0 5 0) := Fm.sI (by decide) (by omega) (by omega) ⟨rfl, by omega, by omega⟩
      have t5 : TC (sI I 6 0 5 0) bs p := ⟨by rw [sI_ne (by omega)]; exact ht.1, by rw [sI_ne (by omega)]; exact ht.2.1, by rw [sI_ne (by omega)]; exact ht.2.2⟩
      refine tr_call (lp _ (hB.sx f5) t5 (sI_self _ _ _ _ _)) ?_
      rintro _ K ⟨e, f⟩
      have f' : Fm FSx I K := f5.trans (f.mono (fun a b c z => ⟨z.1, by omega, by omega⟩))
      have tK' : TC K bs p := ⟨by rw [f.at (by decide) (by omega)]; exact t5.1, by rw [f.at (by decide) (by omega)]; exact t5.2.1, by rw [f.at (by decide) (by omega)]; exact t5.2.2⟩
      have en : K 6 0 5 = nV bs p := by
        rw [e]
        unfold nV nvF
        rw [if_pos q6]
      have j94 : nbE bs p lo hi = 2 → Tr (f_Src_readNumber_j94 K) (fun x K => x = bI (nbE bs p lo hi = 0) ∧ (nbE bs p lo hi = 0 → K 6 0 5 = nV bs p) ∧ (nbE bs p lo hi ≠ 0 → K 6 0 6 = nbE bs p lo hi) ∧ TC K bs p ∧ Fm FSx I K) := fun h2 => by
        unfold f_Src_readNumber_j94
        refine tr_call (t_fail 2) ?_
        rintro x L ⟨rfl, g1, g2⟩
        rw [if_pos (by decide)]
        exact tr_ret ⟨by rw [h2]; rfl, fun z => absurd (h2.symm.trans z) (by decide), fun _ => by rw [g1, h2], tK'.ec g2, f'.trans (g2.mono fec_sx)⟩
      rw [en, w32_of (x := nV bs p) (by omega) (by omega), w32_of (x := lo) (by omega) (by omega), w32_of (x := hi) (by omega) (by omega)]
      by_cases c1 : nV bs p < lo
      · rw [if_pos c1]
        refine j94 ?_
        unfold nbE
        rw [if_neg (by omega), if_neg (by omega)]
      · rw [if_neg c1]
        by_cases c2 : hi < nV bs p
        · rw [if_pos c2]
          refine j94 ?_
          unfold nbE
          rw [if_neg (by omega), if_neg (by omega)]
        · rw [if_neg c2]
          have h0 : nbE bs p lo hi = 0 := by
            unfold nbE
            rw [if_neg (by omega), if_pos (by omega)]
          exact tr_ret ⟨by rw [h0]; rfl, fun _ => en, fun z => absurd h0 z, tK', f'⟩
    · rw [if_pos (by omega)]
      have hv : nV bs p = 1000000 := by
        unfold nV nvF
        rw [if_neg q6]
      have h2 : nbE bs p lo hi = 2 := by
        unfold nbE
        rw [if_neg (by omega), if_neg (by omega)]
      refine tr_call (t_fail 2) ?_
      rintro x L ⟨rfl, g1, g2⟩
      rw [if_pos (Or.inl rfl)]
      exact tr_ret ⟨by rw [h2]; rfl, fun z => absurd (h2.symm.trans z) (by decide), fun _ => by rw [g1, h2], ht.ec g2, g2.mono fec_sx⟩
  · rw [if_neg q]
    have h2 : nbE bs p lo hi = 1 := by
      unfold nbE
      rw [if_pos q]
    refine tr_call (t_fail 1) ?_
    rintro x L ⟨rfl, g1, g2⟩
    rw [if_pos (Or.inl rfl)]
    exact tr_ret ⟨by rw [h2]; rfl, fun z => absurd (h2.symm.trans z) (by decide), fun _ => by rw [g1, h2], ht.ec g2, g2.mono fec_sx⟩
-- the reference
theorem mf_0 {a c : Int} (he : I 26 0 25 = 0) (ha : w32 a = 0) : f_M_faulty a c I = some (0, I) := by
  unfold f_M_faulty f_M_faulty_j24
  rw [he, if_pos (by decide), if_pos ha, if_pos (by decide)]
theorem mf_E {a c : Int} (he : w32 (I 26 0 25) ≠ 0) : f_M_faulty a c I = some (1, I) := by
  unfold f_M_faulty f_M_faulty_j24
  rw [if_neg he, if_neg he]
abbrev FEm : FP := fun k i s => k = 26 ∧ i = 0 ∧ (s = 25 ∨ s = 26)
theorem mf_1 {a c : Int} (he : I 26 0 25 = 0) (ha : ¬ w32 a = 0) (hc : w32 c ≠ 0) : Tr (f_M_faulty a c I) (fun x K => x = 1 ∧ K 26 0 25 = c ∧ Fm FEm I K) := by
  unfold f_M_faulty
  rw [he, if_pos (by decide), if_neg ha]
  try dsimp only [ltI]
  unfold f_M_faulty_j24
  have e : (sI (sI I 26 0 25 c) 26 0 26 ((sI I 26 0 25 c) 26 0 21)) 26 0 25 = c := by rw [sI_ne (by omega), sI_self]
  rw [e, if_neg hc]
  exact tr_ret ⟨rfl, e, (Fm.sI (by decide) (by omega) (by omega) ⟨rfl, rfl, Or.inl rfl⟩).trans (Fm.sI (by decide) (by omega) (by omega) ⟨rfl, rfl, Or.inr rfl⟩)⟩
theorem m_isKey (hB : BfM I bs) (hl : bs.length ≤ 600) (hr : ∀ b ∈ bs, 1 ≤ b ∧ b ≤ 255) (hp : p ≤ bs.length) (ht : TM I bs p) (he : I 26 0 25 = 0) {i : Nat} (hi : i < 14) : f_M_isKey i I = some (bI (wd bs p = i), I) := by
  have hE := tE_le hp
  have hkr := tK_rng bs p
  have hw := wLen_rng i (by omega)
  have hn : wLen i = (((wText.getD i []).length : Nat) : Int) := rfl
  have hk := tkL_len hp
  have km : w32 (kmT (tK bs p)) = 1 ↔ tK bs p = 1 := by
    rcases (show tK bs p = 0 ∨ tK bs p = 1 ∨ tK bs p = 2 ∨ tK bs p = 3 ∨ tK bs p = 4 ∨ tK bs p = 5 ∨ tK bs p = 6 by omega) with z | z | z | z | z | z | z <;> rw [z] <;> decide
  unfold f_M_isKey
  rw [if_pos (by omega), he, if_pos (by decide), ht.1, ht.2.1, ht.2.2.1, w32_of (x := wLen i) (by omega) (by omega), w32_of (x := ((tE bs p : Nat) : Int) - ((tF bs p : Nat) : Int)) (by omega) (by omega)]
  by_cases q1 : tK bs p = 1
  · rw [if_pos (km.mpr q1)]
    by_cases q : ((tE bs p : Nat) : Int) - ((tF bs p : Nat) : Int) = wLen i
    · rw [if_pos q]
      refine whl_all (fun k => bs.getD (tF bs p + k) 0 = wAt i k) (wText.getD i []).length (fun k hkl => ?_) ?_ _ ?_
      · have hb := gd_rng hr (p := tF bs p + k) (by omega)
        have ha := wAt_rng i (by omega) k (by omega)
        unfold f_M_isKey_w30
        rw [ht.2.1, ht.2.2.1, w32_of (x := (k : Int)) (by omega) (by omega), w32_of (x := ((tE bs p : Nat) : Int) - ((tF bs p : Nat) : Int)) (by omega) (by omega), if_pos (by omega), show ((tF bs p : Nat) : Int) + (k : Int) = ((tF bs p + k : Nat) : Int) from by omega, w32_of (x := ((tF bs p + k : Nat) : Int)) (by omega) (by omega), if_pos (by omega), if_pos (by omega), Int.toNat_natCast, Int.toNat_natCast, hB.2 _ (by omega), w32_of (x := bs.getD (tF bs p + k) 0) (by omega) (by omega), w32_of (x := wAt i k) (by omega) (by omega)]
        by_cases z : bs.getD (tF bs p + k) 0 = wAt i k
        · rw [if_pos z, if_pos z]
        · rw [if_neg z, if_neg z]
      · unfold f_M_isKey_w30
        rw [ht.2.1, ht.2.2.1, w32_of (x := (((wText.getD i []).length : Nat) : Int)) (by omega) (by omega), w32_of (x := ((tE bs p : Nat) : Int) - ((tF bs p : Nat) : Int)) (by omega) (by omega), if_neg (by omega)]
      · rw [wd_iff hi]
        constructor
        · intro h k hkl
          have h2 := tkL_at (bs := bs) (p := p) (j := k) (by omega)
          rw [← h2, h.2]
          rfl
        · intro h
          refine ⟨q1, ext_getD (by omega) (fun j hj => ?_)⟩
          rw [tkL_at (by omega)]
          exact h j (by omega)
    · rw [if_neg q, bI_neg (fun z => q (by rw [hn, ← ((wd_iff hi).mp z).2, hk]; omega))]
  · rw [if_neg (fun z => q1 (km.mp z)), bI_neg (fun z => q1 (wd_word z hi))]
theorem m_isKeyE (he : w32 (I 26 0 25) ≠ 0) {i : Nat} (hi : i < 15) : f_M_isKey i I = some (0, I) := by
  unfold f_M_isKey
  rw [if_pos hi, if_neg he]
theorem m_isSign (hB : BfM I bs) (hl : bs.length ≤ 600) (hr : ∀ b ∈ bs, 1 ≤ b ∧ b ≤ 255) (hp : p ≤ bs.length) (ht : TM I bs p) (he : I 26 0 25 = 0) {c k : Int} (hc : (c = 59 ∧ k = 3) ∨ (c = 40 ∧ k = 4) ∨ (c = 41 ∧ k = 5)) : f_M_isSign c I = some (bI (tK bs p = k), I) := by
  have hE := tE_le hp
  have hkr := tK_rng bs p
  have km : w32 (kmT (tK bs p)) = 3 ↔ tK bs p = 3 ∨ tK bs p = 4 ∨ tK bs p = 5 := by
    rcases (show tK bs p = 0 ∨ tK bs p = 1 ∨ tK bs p = 2 ∨ tK bs p = 3 ∨ tK bs p = 4 ∨ tK bs p = 5 ∨ tK bs p = 6 by omega) with z | z | z | z | z | z | z <;> rw [z] <;> decide
  have wc : w32 c = c := w32_of (by omega) (by omega)
  unfold f_M_isSign
  rw [he, if_pos (by decide), ht.1, wc]
  by_cases q : tK bs p = 3 ∨ tK bs p = 4 ∨ tK bs p = 5
  · have h0 : tK bs p ≠ 0 := by omega
    have hlt := tF_lt h0
    have hb := gd_rng hr hlt
    have ek := tK_kd h0
    rw [if_pos (km.mpr q), ht.2.1, w32_of (x := ((tF bs p : Nat) : Int)) (by omega) (by omega), if_pos (by omega), Int.toNat_natCast, hB.2 _ hlt, w32_of (x := bs.getD (tF bs p) 0) (by omega) (by omega)]
    have hiff : bs.getD (tF bs p) 0 = c ↔ tK bs p = k := by
      rw [← ek]
      constructor
      · intro z
        rw [z]
        rcases hc with ⟨rfl, rfl⟩ | ⟨rfl, rfl⟩ | ⟨rfl, rfl⟩ <;> rfl
      · intro z
        have z2 : kd (bs.getD (tF bs p) 0) = k := z
        unfold kd at z2
        split at z2 <;> first | omega | (split at z2 <;> first | omega | (split at z2 <;> first | omega | (split at z2 <;> first | omega | (split at z2 <;> omega))))
    by_cases z : bs.getD (tF bs p) 0 = c
    · rw [if_pos z, bI_pos (hiff.mp z)]
    · rw [if_neg z, bI_neg (fun y => z (hiff.mpr y))]
  · rw [if_neg (fun z => q (km.mp z)), bI_neg (by omega)]
theorem m_isSignE (he : w32 (I 26 0 25) ≠ 0) (c : Int) : f_M_isSign c I = some (0, I) := by
  unfold f_M_isSign
  rw [if_neg he]
abbrev FMx : FP := fun k i s => k = 26 ∧ i = 0 ∧ 21 ≤ s ∧ s ≤ 26
theorem fem_mx : ∀ k i s : Nat, FEm k i s → FMx k i s := fun k i s z => by unfold FEm at z; unfold FMx; omega
theorem fam_mx : ∀ k i s : Nat, FAm k i s → FMx k i s := fun k i s z => by unfold FAm at z; unfold FMx; omega
theorem BfM.mx (h : BfM I bs) (f : Fm FMx I J) : BfM J bs := h.fm f (by unfold FMx; omega) (fun s => by unfold FMx; omega)
theorem tm_advS (hB : BfM I bs) (hl : bs.length ≤ 600) (hr : ∀ b ∈ bs, 1 ≤ b ∧ b ≤ 255) (hp : p ≤ bs.length) (ht : TM I bs p) : Tr (f_M_advance I) (fun _ K => TM K bs (tE bs p) ∧ K 26 0 25 = I 26 0 25 ∧ Fm FMx I K) := by
  refine tr_mono (tm_adv hB hl hr (tE_le hp).2.1 ht.2.2.1) ?_
  rintro _ K ⟨a, b⟩
  exact ⟨a, b.at (by decide) (by unfold FAm; omega), b.mono fam_mx⟩
theorem t_takesSign (hB : BfM I bs) (hl : bs.length ≤ 600) (hr : ∀ b ∈ bs, 1 ≤ b ∧ b ≤ 255) (hp : p ≤ bs.length) (ht : TM I bs p) (he : I 26 0 25 = 0) {c k : Int} (hc : (c = 59 ∧ k = 3) ∨ (c = 40 ∧ k = 4) ∨ (c = 41 ∧ k = 5)) : Tr (f_M_takesSign c I) (fun _ K => (tK bs p = k → TM K bs (tE bs p) ∧ K 26 0 25 = 0) ∧ (tK bs p ≠ k → K 26 0 25 = 1) ∧ Fm FMx I K) := by
  unfold f_M_takesSign
  rw [m_isSign hB hl hr hp ht he hc, bnd_some]
  by_cases q : tK bs p = k
  · rw [if_neg (wb_pos q), mf_0 he (by decide), bnd_some, if_pos (by decide)]
    refine tr_call (tm_advS hB hl hr hp ht) ?_
    rintro _ K ⟨a, b, f⟩
    exact tr_ret ⟨fun _ => ⟨a, b.trans he⟩, fun z => absurd q z, f⟩
  · rw [if_pos (wb_neg q)]
    refine tr_call (mf_1 he (by decide) (by decide)) ?_
    rintro x K ⟨rfl, b, f⟩
    rw [if_neg (by decide)]
    exact tr_ret ⟨fun z => absurd z q, fun _ => b, f.mono fem_mx⟩
theorem t_mnumber (hB : BfM I bs) (hl : bs.length ≤ 600) (hr : ∀ b ∈ bs, 1 ≤ b ∧ b ≤ 255) (hp : p ≤ bs.length) (ht : TM I bs p) (he : I 26 0 25 = 0) {lo hi : Int} (h0 : 0 ≤ lo ∧ lo ≤ 1000) (h1 : 0 ≤ hi ∧ hi ≤ 1000) : Tr (f_M_number lo hi I) (fun x K => (nbE bs p lo hi = 0 → x = nV bs p ∧ TM K bs (tE bs p) ∧ K 26 0 25 = 0) ∧ (nbE bs p lo hi ≠ 0 → K 26 0 25 = nbE bs p lo hi) ∧ Fm FMx I K) := by
  have hkr := tK_rng bs p
  have km : w32 (kmT (tK bs p)) = 2 ↔ tK bs p = 2 := by
    rcases (show tK bs p = 0 ∨ tK bs p = 1 ∨ tK bs p = 2 ∨ tK bs p = 3 ∨ tK bs p = 4 ∨ tK bs p = 5 ∨ tK bs p = 6 by omega) with z | z | z | z | z | z | z <;> rw [z] <;> decide
  unfold f_M_number
  rw [ht.1]
  by_cases q : tK bs p = 2
  · have hnr := nV_rng q
    rw [if_pos (km.mpr q), mf_0 he (by decide), bnd_some, if_pos (by decide), ht.2.2.2 q, m_in (by omega) (by omega) (by omega), bnd_some]
    by_cases c : lo ≤ nV bs p ∧ nV bs p ≤ hi
    · have e0 : nbE bs p lo hi = 0 := by
        unfold nbE
        rw [if_neg (by omega), if_pos c]
      rw [if_neg (wb_pos c), mf_0 he (by decide), bnd_some, if_pos (by decide)]
      refine tr_call (tm_advS hB hl hr hp ht) ?_
      rintro _ K ⟨a, b, f⟩
      exact tr_ret ⟨fun _ => ⟨ht.2.2.2 q, a, b.trans he⟩, fun z => absurd e0 z, f⟩
    · have e0 : nbE bs p lo hi = 2 := by
        unfold nbE
        rw [if_neg (by omega), if_neg c]
      rw [if_pos (wb_neg c)]
      refine tr_call (mf_1 he (by decide) (by decide)) ?_
      rintro x K ⟨rfl, b, f⟩
      rw [if_neg (by decide)]
      exact tr_ret ⟨fun z => absurd (e0.symm.trans z) (by decide), fun _ => by rw [b, e0], f.mono fem_mx⟩
  · have e0 : nbE bs p lo hi = 1 := by
      unfold nbE
      rw [if_pos q]
    rw [if_neg (fun z => q (km.mp z))]
    refine tr_call (mf_1 he (by decide) (by decide)) ?_
    rintro x K ⟨rfl, b, f⟩
    rw [if_neg (by decide)]
    exact tr_ret ⟨fun z => absurd (e0.symm.trans z) (by decide), fun _ => by rw [b, e0], f.mono fem_mx⟩
end WRD
