/-! ===== the reference's tokens; numbers ===== -/
def dg (bs : List Int) (f : Nat) : Nat → Int
  | 0 => 0
  | n + 1 => 10 * dg bs f n + bs.getD (f + n) 0 - 48
def nvF (bs : List Int) (f n : Nat) : Int := if n ≤ 6 then dg bs f n else 1000000
def nV (bs : List Int) (p : Nat) : Int := nvF bs (tF bs p) (tE bs p - tF bs p)
theorem dg_rng {bs : List Int} {f : Nat} : ∀ n : Nat, (∀ j : Nat, j < n → 48 ≤ bs.getD (f + j) 0 ∧ bs.getD (f + j) 0 ≤ 57) → 0 ≤ dg bs f n ∧ dg bs f n < (10 : Int) ^ n
  | 0, _ => ⟨Int.le_refl _, by show (0 : Int) < 1; decide⟩
  | n + 1, h => by
    have ih := dg_rng n (fun j hj => h j (by omega))
    have hn := h n (by omega)
    show 0 ≤ 10 * dg bs f n + bs.getD (f + n) 0 - 48 ∧ 10 * dg bs f n + bs.getD (f + n) 0 - 48 < (10 : Int) ^ (n + 1)
    rw [Int.pow_succ]
    omega
theorem nvF_rng {bs : List Int} {f n : Nat} (h : ∀ j : Nat, j < n → 48 ≤ bs.getD (f + j) 0 ∧ bs.getD (f + j) 0 ≤ 57) : 0 ≤ nvF bs f n ∧ nvF bs f n ≤ 1000000 := by
  unfold nvF
  by_cases q : n ≤ 6
  · rw [if_pos q]
    have h1 := dg_rng n h
    have h2 : (10 : Int) ^ n ≤ 1000000 := by
      rcases (show n = 0 ∨ n = 1 ∨ n = 2 ∨ n = 3 ∨ n = 4 ∨ n = 5 ∨ n = 6 by omega) with rfl | rfl | rfl | rfl | rfl | rfl | rfl <;> decide
    omega
  · rw [if_neg q]; omega
theorem exT_all (bs : List Int) (k : Int) : ∀ (n p j : Nat), p ≤ j → j < exT bs k n p → kd (bs.getD j 0) = k
  | 0, p, j, h1, h2 => by
    have h2 : j < p := h2
    omega
  | n + 1, p, j, h1, h2 => by
    have h2 : j < (if p < bs.length ∧ kd (bs.getD p 0) = k then exT bs k n (p + 1) else p) := h2
    by_cases q : p < bs.length ∧ kd (bs.getD p 0) = k
    · rw [if_pos q] at h2
      by_cases e : j = p
      · rw [e]; exact q.2
      · exact exT_all bs k n (p + 1) j (by omega) h2
    · rw [if_neg q] at h2; omega
theorem kd_1 {b : Int} (h : kd b = 1) : 97 ≤ b ∧ b ≤ 122 := by
  refine Classical.byContradiction fun q => ?_
  unfold kd at h
  rw [if_neg q] at h
  split at h <;> first | omega | (split at h <;> first | omega | (split at h <;> first | omega | (split at h <;> omega)))
theorem kd_2 {b : Int} (h : kd b = 2) : 48 ≤ b ∧ b ≤ 57 := by
  refine Classical.byContradiction fun q => ?_
  unfold kd at h
  split at h
  · omega
  · split at h <;> first | omega | (split at h <;> first | omega | (split at h <;> omega))
theorem kd_is1 {b : Int} : kd b = 1 ↔ 97 ≤ b ∧ b ≤ 122 := ⟨kd_1, fun h => by unfold kd; rw [if_pos h]⟩
theorem kd_is2 {b : Int} : kd b = 2 ↔ 48 ≤ b ∧ b ≤ 57 := ⟨kd_2, fun h => by unfold kd; rw [if_neg (by omega), if_pos h]⟩
theorem tF_lt {bs : List Int} {p : Nat} (h : tK bs p ≠ 0) : tF bs p < bs.length := by
  refine Classical.byContradiction fun q => h ?_
  unfold tK
  rw [if_neg q]
theorem tK_kd {bs : List Int} {p : Nat} (h : tK bs p ≠ 0) : kd (bs.getD (tF bs p) 0) = tK bs p := by
  have := tF_lt h
  unfold tK
  rw [if_pos this]
theorem tK_all {bs : List Int} {p : Nat} (h : tK bs p = 1 ∨ tK bs p = 2) {j : Nat} (h1 : tF bs p ≤ j) (h2 : j < tE bs p) : kd (bs.getD j 0) = tK bs p := by
  unfold tE at h2
  rw [if_pos h] at h2
  by_cases e : j = tF bs p
  · rw [e]; exact tK_kd (by omega)
  · exact exT_all bs _ _ _ j (by omega) h2
theorem tE_gt {bs : List Int} {p : Nat} (h : tK bs p ≠ 0) (hp : p ≤ bs.length) : tF bs p < tE bs p := by
  have h1 := tF_lt h
  unfold tE
  by_cases q : tK bs p = 1 ∨ tK bs p = 2
  · rw [if_pos q]
    have := (exT_le bs (tK bs p) 600 (tF bs p + 1) (by omega)).1
    omega
  · rw [if_neg q, if_neg h]; omega
theorem nV_rng {bs : List Int} {p : Nat} (h : tK bs p = 2) : 0 ≤ nV bs p ∧ nV bs p ≤ 1000000 := nvF_rng (fun j hj => kd_2 (by rw [tK_all (Or.inr h) (by omega) (by omega)]; exact h))
def kmT (k : Int) : Int := if k = 0 then 0 else if k = 1 then 1 else if k = 2 then 2 else if k = 6 then 4 else 3
abbrev FAm : FP := fun k i s => k = 26 ∧ i = 0 ∧ (s = 21 ∨ s = 22 ∨ s = 23 ∨ s = 24)
/-- the reference stands at the token behind p -/
def TM (J : Mem) (bs : List Int) (p : Nat) : Prop := J 26 0 23 = kmT (tK bs p) ∧ J 26 0 21 = ((tF bs p : Nat) : Int) ∧ J 26 0 22 = ((tE bs p : Nat) : Int) ∧ (tK bs p = 2 → J 26 0 24 = nV bs p)
section MTOK
variable {I J : Mem} {bs : List Int}
theorem m_byteAt (hB : BfM I bs) (hl : bs.length ≤ 600) {p : Nat} (hp : p ≤ 1000) : f_M_byteAt (p : Int) I = some (if p < bs.length then bs.getD p 0 else -1, I) := by
  unfold f_M_byteAt
  rw [hB.1, w32_of (x := (p : Int)) (by omega) (by omega), w32_of (x := (bs.length : Int)) (by omega) (by omega)]
  by_cases q : p < bs.length
  · rw [if_pos (by omega), if_pos (by omega), if_pos q, Int.toNat_natCast, hB.2 p q]
  · rw [if_neg (by omega), if_neg q]
theorem gd_rng {bs : List Int} (hr : ∀ b ∈ bs, 1 ≤ b ∧ b ≤ 255) {p : Nat} (h : p < bs.length) : 1 ≤ bs.getD p 0 ∧ bs.getD p 0 ≤ 255 := hr _ (gd_mem h)
theorem m_isLet (hB : BfM I bs) (hl : bs.length ≤ 600) (hr : ∀ b ∈ bs, 1 ≤ b ∧ b ≤ 255) {p : Nat} (hp : p ≤ 1000) : f_M_isLetterAt (p : Int) I = some (bI (p < bs.length ∧ kd (bs.getD p 0) = 1), I) := by
  have h2 : ∀ q : p < bs.length, 1 ≤ bs.getD p 0 ∧ bs.getD p 0 ≤ 255 := fun q => gd_rng hr q
  unfold f_M_isLetterAt
  rw [m_byteAt hB hl hp, bnd_some]
  by_cases q : p < bs.length
  · rw [if_pos q, m_in (by have := h2 q; omega) (by omega) (by omega), bnd_some, if_pos (bI_01 _), bI_congr (q := p < bs.length ∧ kd (bs.getD p 0) = 1) ⟨fun z => ⟨q, kd_is1.mpr z⟩, fun z => kd_is1.mp z.2⟩]
  · rw [if_neg q, m_in (by omega) (by omega) (by omega), bnd_some, if_pos (bI_01 _), bI_congr (q := p < bs.length ∧ kd (bs.getD p 0) = 1) ⟨fun z => by omega, fun z => absurd z.1 q⟩]
theorem m_isDig (hB : BfM I bs) (hl : bs.length ≤ 600) (hr : ∀ b ∈ bs, 1 ≤ b ∧ b ≤ 255) {p : Nat} (hp : p ≤ 1000) : f_M_isDigitAt (p : Int) I = some (bI (p < bs.length ∧ kd (bs.getD p 0) = 2), I) := by
  have h2 : ∀ q : p < bs.length, 1 ≤ bs.getD p 0 ∧ bs.getD p 0 ≤ 255 := fun q => gd_rng hr q
  unfold f_M_isDigitAt
  rw [m_byteAt hB hl hp, bnd_some]
  by_cases q : p < bs.length
  · rw [if_pos q, m_in (by have := h2 q; omega) (by omega) (by omega), bnd_some, if_pos (bI_01 _), bI_congr (q := p < bs.length ∧ kd (bs.getD p 0) = 2) ⟨fun z => ⟨q, kd_is2.mpr z⟩, fun z => kd_is2.mp z.2⟩]
  · rw [if_neg q, m_in (by omega) (by omega) (by omega), bnd_some, if_pos (bI_01 _), bI_congr (q := p < bs.length ∧ kd (bs.getD p 0) = 2) ⟨fun z => by omega, fun z => absurd z.1 q⟩]
abbrev FM22 : FP := fun k i s => k = 26 ∧ i = 0 ∧ s = 22
theorem BfM.m22 (h : BfM I bs) {s : Nat} {v : Int} (hs : s ≠ 20) : BfM (sI I 26 0 s v) bs := ⟨by rw [sI_ne (by omega)]; exact h.1, fun j hj => by rw [sI_ne (by omega)]; exact h.2 j hj⟩
theorem tm_skp (hl : bs.length ≤ 600) (hr : ∀ b ∈ bs, 1 ≤ b ∧ b ≤ 255) : ∀ (n p : Nat) (I : Mem), BfM I bs → p ≤ bs.length → bs.length - p ≤ n → I 26 0 22 = (p : Int) → Tr (whl f_M_advance_w0 () I) (fun _ J => J 26 0 22 = ((skp bs n p : Nat) : Int) ∧ Fm FM22 I J) := by
  have step : ∀ (p : Nat) (I : Mem), BfM I bs → p ≤ bs.length → I 26 0 22 = (p : Int) → f_M_advance_w0 () I = if p < bs.length ∧ (bs.getD p 0 = 32 ∨ bs.getD p 0 = 10) then some (.inl (), sI I 26 0 22 ((p : Int) + 1)) else some (.inr (), I) := by
    intro p I hB hp h22
    have key : f_M_advance_j26 I = some (.inl (), sI I 26 0 22 ((p : Int) + 1)) := by
      unfold f_M_advance_j26
      try dsimp only [ltI]
      rw [h22]
    unfold f_M_advance_w0
    rw [h22, m_byteAt hB hl (by omega), bnd_some]
    try rw [h22]
    rw [m_byteAt hB hl (by omega), bnd_some, key]
    by_cases q : p < bs.length
    · have hb := gd_rng hr q
      rw [if_pos q, w32_of (x := bs.getD p 0) (by omega) (by omega)]
      by_cases q1 : bs.getD p 0 = 32
      · rw [if_pos q1, if_pos ⟨q, Or.inl q1⟩]
      · rw [if_neg q1]
        by_cases q2 : bs.getD p 0 = 10
        · rw [if_pos q2, if_pos ⟨q, Or.inr q2⟩]
        · rw [if_neg q2, if_neg (fun z => z.2.elim q1 q2)]
    · rw [if_neg q, if_neg (by decide), if_neg (by decide), if_neg (fun z => q z.1)]
  intro n
  induction n with
  | zero =>
    intro p I hB hp hn h22
    rw [whl_eq, step p I hB hp h22, if_neg (fun z => by omega)]
    exact tr_ret ⟨h22, Fm.refl _ _⟩
  | succ n ih =>
    intro p I hB hp hn h22
    rw [whl_eq, step p I hB hp h22]
    show Tr _ (fun _ J => J 26 0 22 = (((if p < bs.length ∧ (bs.getD p 0 = 32 ∨ bs.getD p 0 = 10) then skp bs n (p + 1) else p) : Nat) : Int) ∧ Fm FM22 I J)
    by_cases q : p < bs.length ∧ (bs.getD p 0 = 32 ∨ bs.getD p 0 = 10)
    · rw [if_pos q, if_pos q]
      refine tr_mono (ih (p + 1) (sI I 26 0 22 ((p : Int) + 1)) (hB.m22 (by decide)) (by omega) (by omega) (by rw [sI_self]; rfl)) ?_
      rintro _ J ⟨e, f⟩
      exact ⟨e, (Fm.sI (by decide) (by omega) (by omega) ⟨rfl, rfl, rfl⟩).trans f⟩
    · rw [if_neg q, if_neg q]
      exact tr_ret ⟨h22, Fm.refl _ _⟩
theorem tm_let (hl : bs.length ≤ 600) (hr : ∀ b ∈ bs, 1 ≤ b ∧ b ≤ 255) : ∀ (n p : Nat) (I : Mem), BfM I bs → p ≤ bs.length → bs.length - p ≤ n → I 26 0 22 = (p : Int) → Tr (whl f_M_advance_w87 () I) (fun _ J => J 26 0 22 = ((exT bs 1 n p : Nat) : Int) ∧ Fm FM22 I J) := by
  have step : ∀ (p : Nat) (I : Mem), BfM I bs → p ≤ bs.length → I 26 0 22 = (p : Int) → f_M_advance_w87 () I = if p < bs.length ∧ kd (bs.getD p 0) = 1 then some (.inl (), sI I 26 0 22 ((p : Int) + 1)) else some (.inr (), I) := by
    intro p I hB hp h22
    unfold f_M_advance_w87
    rw [h22, m_isLet hB hl hr (by omega), bnd_some]
    try dsimp only [ltI]
    rw [h22]
    by_cases q : p < bs.length ∧ kd (bs.getD p 0) = 1
    · rw [if_neg (wb_pos q), if_pos q]
    · rw [if_pos (wb_neg q), if_neg q]
  intro n
  induction n with
  | zero =>
    intro p I hB hp hn h22
    rw [whl_eq, step p I hB hp h22, if_neg (fun z => by omega)]
    exact tr_ret ⟨h22, Fm.refl _ _⟩
  | succ n ih =>
    intro p I hB hp hn h22
    rw [whl_eq, step p I hB hp h22]
    show Tr _ (fun _ J => J 26 0 22 = (((if p < bs.length ∧ kd (bs.getD p 0) = 1 then exT bs 1 n (p + 1) else p) : Nat) : Int) ∧ Fm FM22 I J)
    by_cases q : p < bs.length ∧ kd (bs.getD p 0) = 1
    · rw [if_pos q, if_pos q]
      refine tr_mono (ih (p + 1) (sI I 26 0 22 ((p : Int) + 1)) (hB.m22 (by decide)) (by omega) (by omega) (by rw [sI_self]; rfl)) ?_
      rintro _ J ⟨e, f⟩
      exact ⟨e, (Fm.sI (by decide) (by omega) (by omega) ⟨rfl, rfl, rfl⟩).trans f⟩
    · rw [if_neg q, if_neg q]
      exact tr_ret ⟨h22, Fm.refl _ _⟩
abbrev FM24 : FP := fun k i s => k = 26 ∧ i = 0 ∧ (s = 22 ∨ s = 24)
theorem tm_dig (hl : bs.length ≤ 600) (hr : ∀ b ∈ bs, 1 ≤ b ∧ b ≤ 255) {f : Nat} : ∀ (n p : Nat) (I : Mem), BfM I bs → f ≤ p → p ≤ bs.length → bs.length - p ≤ n → I 26 0 21 = (f : Int) → I 26 0 22 = (p : Int) → I 26 0 24 = nvF bs f (p - f) → Tr (whl f_M_advance_w127 () I) (fun _ J => J 26 0 22 = ((exT bs 2 n p : Nat) : Int) ∧ J 26 0 24 = nvF bs f (exT bs 2 n p - f) ∧ Fm FM24 I J) := by
  have step : ∀ (p : Nat) (I : Mem), BfM I bs → f ≤ p → p ≤ bs.length → I 26 0 21 = (f : Int) → I 26 0 22 = (p : Int) → I 26 0 24 = nvF bs f (p - f) → f_M_advance_w127 () I = if p < bs.length ∧ kd (bs.getD p 0) = 2 then some (.inl (), sI (sI I 26 0 24 (nvF bs f (p + 1 - f))) 26 0 22 ((p : Int) + 1)) else some (.inr (), I) := by
    intro p I hB hfp hp h21 h22 h24
    unfold f_M_advance_w127
    rw [h22, m_isDig hB hl hr (by omega), bnd_some]
    by_cases q : p < bs.length ∧ kd (bs.getD p 0) = 2
    · have j178 : ∀ v : Int, f_M_advance_j178 v I = some (.inl (), sI (sI I 26 0 24 v) 26 0 22 ((p : Int) + 1)) := fun v => by
        unfold f_M_advance_j178
        try dsimp only [ltI]
        rw [sI_ne (by omega), h22]
      rw [if_neg (wb_pos q), if_pos q, h21, h22, w32_of (x := (p : Int) - (f : Int)) (by omega) (by omega), w32_of (x := (p : Int)) (by omega) (by omega)]
      by_cases q6 : p - f < 6
      · rw [if_pos (by omega), if_pos (by omega), Int.toNat_natCast, hB.2 p q.1, h24, j178]
        have e : (10 * nvF bs f (p - f) + bs.getD p 0) - 48 = nvF bs f (p + 1 - f) := by
          have e1 : p + 1 - f = (p - f) + 1 := by omega
          unfold nvF
          rw [if_pos (by omega), if_pos (by omega), e1]
          show _ = 10 * dg bs f (p - f) + bs.getD (f + (p - f)) 0 - 48
          rw [show f + (p - f) = p by omega]
        rw [e]
      · rw [if_neg (by omega), j178]
        have e : nvF bs f (p + 1 - f) = 1000000 := by
          unfold nvF
          rw [if_neg (by omega)]
        rw [e]
    · rw [if_pos (wb_neg q), if_neg q]
  intro n
  induction n with
  | zero =>
    intro p I hB hfp hp hn h21 h22 h24
    rw [whl_eq, step p I hB hfp hp h21 h22 h24, if_neg (fun z => by omega)]
    exact tr_ret ⟨h22, h24, Fm.refl _ _⟩
  | succ n ih =>
    intro p I hB hfp hp hn h21 h22 h24
    rw [whl_eq, step p I hB hfp hp h21 h22 h24]
    show Tr _ (fun _ J => J 26 0 22 = (((if p < bs.length ∧ kd (bs.getD p 0) = 2 then exT bs 2 n (p + 1) else p) : Nat) : Int) ∧ J 26 0 24 = nvF bs f ((if p < bs.length ∧ kd (bs.getD p 0) = 2 then exT bs 2 n (p + 1) else p) - f) ∧ Fm FM24 I J)
    by_cases q : p < bs.length ∧ kd (bs.getD p 0) = 2
    · rw [if_pos q, if_pos q]
      refine tr_mono (ih (p + 1) (sI (sI I 26 0 24 (nvF bs f (p + 1 - f))) 26 0 22 ((p : Int) + 1)) ((hB.m22 (by decide)).m22 (by decide)) (by omega) (by omega) (by omega) (by rw [sI_ne (by omega), sI_ne (by omega)]; exact h21) (by rw [sI_self]; rfl) (by rw [sI_ne (by omega), sI_self])) ?_
      rintro _ J ⟨e, e2, f⟩
      exact ⟨e, e2, ((Fm.sI (by decide) (by omega) (by omega) ⟨rfl, rfl, Or.inr rfl⟩).trans (Fm.sI (by decide) (by omega) (by omega) ⟨rfl, rfl, Or.inl rfl⟩)).trans f⟩
    · rw [if_neg q, if_neg q]
      exact tr_ret ⟨h22, h24, Fm.refl _ _⟩
theorem tm_adv (hB : BfM I bs) (hl : bs.length ≤ 600) (hr : ∀ b ∈ bs, 1 ≤ b ∧ b ≤ 255) {p : Nat} (hp : p ≤ bs.length) (h22 : I 26 0 22 = (p : Int)) : Tr (f_M_advance I) (fun _ K => TM K bs p ∧ Fm FAm I K) := by
  have hE := tE_le hp
  unfold f_M_advance
  refine tr_call (tm_skp hl hr 600 p I hB hp (by omega) h22) ?_
  rintro _ J0 ⟨e0, f0⟩
  try dsimp only [ltI]
  have e0 : J0 26 0 22 = ((tF bs p : Nat) : Int) := e0
  have f0' : Fm FAm I J0 := f0.mono (fun a b c z => ⟨z.1, z.2.1, Or.inr (Or.inl z.2.2)⟩)
  rw [e0]
  have f1 : Fm FAm I (sI (sI J0 26 0 21 ((tF bs p : Nat) : Int)) 26 0 24 0) := f0'.trans ((Fm.sI (by decide) (by omega) (by omega) ⟨rfl, rfl, Or.inl rfl⟩).trans (Fm.sI (by decide) (by omega) (by omega) ⟨rfl, rfl, Or.inr (Or.inr (Or.inr rfl))⟩))
  have a21 : (sI (sI J0 26 0 21 ((tF bs p : Nat) : Int)) 26 0 24 0) 26 0 21 = ((tF bs p : Nat) : Int) := by rw [sI_ne (by omega), sI_self]
  have a22 : (sI (sI J0 26 0 21 ((tF bs p : Nat) : Int)) 26 0 24 0) 26 0 22 = ((tF bs p : Nat) : Int) := by rw [sI_ne (by omega), sI_ne (by omega), e0]
  have a24 : (sI (sI J0 26 0 21 ((tF bs p : Nat) : Int)) 26 0 24 0) 26 0 24 = 0 := sI_self _ _ _ _ _
  have hB1 : BfM (sI (sI J0 26 0 21 ((tF bs p : Nat) : Int)) 26 0 24 0) bs := hB.fm f1 (by unfold FAm; omega) (fun s => by unfold FAm; omega)
  generalize sI (sI J0 26 0 21 ((tF bs p : Nat) : Int)) 26 0 24 0 = J at f1 a21 a22 a24 hB1
  rw [a21, hB1.1, w32_of (x := ((tF bs p : Nat) : Int)) (by omega) (by omega), w32_of (x := (bs.length : Int)) (by omega) (by omega)]
  by_cases q : tF bs p = bs.length
  · have ek : tK bs p = 0 := by unfold tK; rw [if_neg (by omega)]
    rw [if_pos (by omega)]
    refine tr_ret ⟨⟨by rw [sI_self, ek]; rfl, by rw [sI_ne (by omega), a21], ?_, fun z => absurd (ek.symm.trans z) (by decide)⟩, f1.trans (Fm.sI (by decide) (by omega) (by omega) ⟨rfl, rfl, Or.inr (Or.inr (Or.inl rfl))⟩)⟩
    rw [sI_ne (by omega), a22]
    unfold tE
    rw [if_neg (by omega), if_pos ek]
  · have hlt : tF bs p < bs.length := by omega
    have hb := gd_rng hr hlt
    have ek : tK bs p = kd (bs.getD (tF bs p) 0) := by unfold tK; rw [if_pos hlt]
    have hkr := kd_rng (bs.getD (tF bs p) 0)
    rw [if_neg (by omega), m_isLet hB1 hl hr (by omega), bnd_some]
    have ex : ∀ k : Int, kd (bs.getD (tF bs p) 0) = k → exT bs k 601 (tF bs p) = exT bs k 600 (tF bs p + 1) := fun k hk => by
      show (if tF bs p < bs.length ∧ kd (bs.getD (tF bs p) 0) = k then exT bs k 600 (tF bs p + 1) else tF bs p) = _
      rw [if_pos ⟨hlt, hk⟩]
    by_cases q1 : kd (bs.getD (tF bs p) 0) = 1
    · rw [if_neg (wb_pos ⟨hlt, q1⟩)]
      have k1 : tK bs p = 1 := ek.trans q1
      refine tr_call (tm_let hl hr 601 (tF bs p) _ (hB1.m22 (by decide)) (by omega) (by omega) (by rw [sI_ne (by omega)]; exact a22)) ?_
      rintro _ K ⟨b1, g1⟩
      have g1' := (Fm.sI (I := J) (F := FAm) (k := 26) (i := 0) (s := 23) (v := 1) (by decide) (by omega) (by omega) ⟨rfl, rfl, Or.inr (Or.inr (Or.inl rfl))⟩).trans (g1.mono (fun a b c z => ⟨z.1, z.2.1, Or.inr (Or.inl z.2.2)⟩))
      refine tr_ret ⟨⟨?_, ?_, ?_, fun z => absurd (k1.symm.trans z) (by decide)⟩, f1.trans g1'⟩
      · rw [g1.at (by decide) (by unfold FM22; omega), sI_self, k1]; rfl
      · rw [g1.at (by decide) (by unfold FM22; omega), sI_ne (by omega), a21]
      · rw [b1, ex 1 q1]
        unfold tE
        rw [if_pos (Or.inl k1), k1]
    · rw [if_pos (wb_neg (fun z => q1 z.2)), a21, m_isDig hB1 hl hr (by omega), bnd_some]
      by_cases q2 : kd (bs.getD (tF bs p) 0) = 2
      · rw [if_neg (wb_pos ⟨hlt, q2⟩)]
        have k2 : tK bs p = 2 := ek.trans q2
        refine tr_call (tm_dig hl hr (f := tF bs p) 601 (tF bs p) _ (hB1.m22 (by decide)) (Nat.le_refl _) (by omega) (by omega) (by rw [sI_ne (by omega)]; exact a21) (by rw [sI_ne (by omega)]; exact a22) (by rw [sI_ne (by omega), a24, Nat.sub_self]; rfl)) ?_
        rintro _ K ⟨b1, b2, g1⟩
        have g1' := (Fm.sI (I := J) (F := FAm) (k := 26) (i := 0) (s := 23) (v := 2) (by decide) (by omega) (by omega) ⟨rfl, rfl, Or.inr (Or.inr (Or.inl rfl))⟩).trans (g1.mono (fun a b c z => ⟨z.1, z.2.1, z.2.2.elim (fun y => Or.inr (Or.inl y)) (fun y => Or.inr (Or.inr (Or.inr y)))⟩))
        have eE : exT bs 2 601 (tF bs p) = tE bs p := by
          rw [ex 2 q2]
          unfold tE
          rw [if_pos (Or.inr k2), k2]
        refine tr_ret ⟨⟨?_, ?_, ?_, fun _ => ?_⟩, f1.trans g1'⟩
        · rw [g1.at (by decide) (by unfold FM24; omega), sI_self, k2]; rfl
        · rw [g1.at (by decide) (by unfold FM24; omega), sI_ne (by omega), a21]
        · rw [b1, eE]
        · rw [b2, eE]; rfl
      · rw [if_pos (wb_neg (fun z => q2 z.2)), a21, w32_of (x := ((tF bs p : Nat) : Int)) (by omega) (by omega), if_pos (by omega), Int.toNat_natCast, hB1.2 _ hlt, w32_of (x := bs.getD (tF bs p) 0) (by omega) (by omega)]
        have hE' : tE bs p = tF bs p + 1 := by
          unfold tE
          rw [if_neg (by omega), if_neg (by omega)]
        have j228 : ∀ v : Int, v = kmT (tK bs p) → Tr (f_M_advance_j228 v J) (fun _ K => TM K bs p ∧ Fm FAm I K) := fun v hv => by
          unfold f_M_advance_j228
          try dsimp only [ltI]
          rw [sI_ne (by omega), a22]
          refine tr_ret ⟨⟨by rw [sI_ne (by omega), sI_self, hv], by rw [sI_ne (by omega), sI_ne (by omega), a21], by rw [sI_self, hE']; rfl, fun z => absurd (ek.symm.trans z) q2⟩, f1.trans ((Fm.sI (by decide) (by omega) (by omega) ⟨rfl, rfl, Or.inr (Or.inr (Or.inl rfl))⟩).trans (Fm.sI (by decide) (by omega) (by omega) ⟨rfl, rfl, Or.inr (Or.inl rfl)⟩))⟩
        have n1 : ¬ (97 ≤ bs.getD (tF bs p) 0 ∧ bs.getD (tF bs p) 0 ≤ 122) := fun z => q1 (kd_is1.mpr z)
        have n2 : ¬ (48 ≤ bs.getD (tF bs p) 0 ∧ bs.getD (tF bs p) 0 ≤ 57) := fun z => q2 (kd_is2.mpr z)
        by_cases c1 : bs.getD (tF bs p) 0 = 59
        · rw [if_pos c1]
          exact j228 3 (by rw [ek, c1]; rfl)
        · rw [if_neg c1]
          by_cases c2 : bs.getD (tF bs p) 0 = 40
          · rw [if_pos c2]
            exact j228 3 (by rw [ek, c2]; rfl)
          · rw [if_neg c2]
            by_cases c3 : bs.getD (tF bs p) 0 = 41
            · rw [if_pos c3]
              exact j228 3 (by rw [ek, c3]; rfl)
            · rw [if_neg c3]
              refine j228 4 ?_
              have e6 : kd (bs.getD (tF bs p) 0) = 6 := by
                unfold kd
                rw [if_neg n1, if_neg n2, if_neg c2, if_neg c3, if_neg c1]
              rw [ek, e6]
              rfl
end MTOK
