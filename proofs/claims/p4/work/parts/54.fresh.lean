/-! ===== the fresh object: where all lies, what is in it ===== -/
theorem uE_eq {E : Nat → va_E} {j q : Nat} {e : va_E} (h : q = j) : uE E j e q = e := if_pos h
def gp (g : Nat) : Nat := if g < 2 then 1 + 90 * g else 210 + 90 * (g - 2)
def rp (r : Nat) : Nat := if r < 3 then (if r = 0 then 1 else if r = 1 then 3 else 6) else 10 + 2 * (r - 3)
def pos (k i : Nat) : Nat := match k with
  | 1 => gp i | 2 => gp (i / 43) + rp (i % 43) | 12 => gp (i / 43) + rp (i % 43) + 1 | 13 => gp i + 5 | 14 => gp i + 8 | 15 => gp i + 9
  | 3 => 181 | 4 => 182 | 16 => 183 + i | 17 => 187 | 5 => 188 | 18 => 189 + i | 6 => 195 | 19 => 196 | 7 => 197 | 8 => 198 | 20 => 199 | 21 => 200 + i | 9 => 206 | 22 => 207 | 23 => 208 | 24 => 209 | 10 => 1110 | 25 => 1111 | _ => 0
def ginv (g r : Nat) : Nat × Nat := if r = 0 then (1, g) else if r = 1 then (2, 43 * g) else if r = 2 then (12, 43 * g) else if r = 3 then (2, 43 * g + 1) else if r = 4 then (12, 43 * g + 1) else if r = 5 then (13, g) else if r = 6 then (2, 43 * g + 2) else if r = 7 then (12, 43 * g + 2) else if r = 8 then (14, g) else if r = 9 then (15, g) else if r % 2 = 0 then (2, 43 * g + 3 + (r - 10) / 2) else (12, 43 * g + 3 + (r - 10) / 2)
def inv (p : Nat) : Nat × Nat := if p = 0 then (0, 0) else if p < 181 then ginv ((p - 1) / 90) ((p - 1) % 90) else if p < 210 then ([(3, 0), (4, 0), (16, 0), (16, 1), (16, 2), (16, 3), (17, 0), (5, 0), (18, 0), (18, 1), (18, 2), (18, 3), (18, 4), (18, 5), (6, 0), (19, 0), (7, 0), (8, 0), (20, 0), (21, 0), (21, 1), (21, 2), (21, 3), (21, 4), (21, 5), (9, 0), (22, 0), (23, 0), (24, 0)] : List (Nat × Nat)).getD (p - 181) (0, 0) else if p < 1110 then ginv (2 + (p - 210) / 90) ((p - 210) % 90) else if p = 1110 then (10, 0) else (25, 0)
set_option maxRecDepth 100000 in
theorem inv_pos : ∀ k, k < 26 → ∀ i, i < ksz_a k → inv (pos k i) = (k, i) ∧ pos k i < 1112 := by decide +kernel
theorem ka_lt {k i : Nat} (h : i < ksz_a k) : k < 26 := by
  rcases Nat.lt_or_ge k 26 with q | q
  · exact q
  · exfalso
    unfold ksz_a at h
    split at h <;> first | omega | (rw [if_neg (by omega)] at h; omega)
def FR0 : Mem := fun k i s => match k with
  | 0 => if s = 9 then -1 else 0
  | 1 => if s = 6 then 2 else if s = 8 then 1 else 0
  | 4 => if s = 5 then -1 else if s = 7 then -1 else 0
  | 10 => if s = 2 then 64 else 0
  | 16 => if i = 2 then (if s < 4356 then -1 else 0) else 0
  | 20 => 14
  | 26 => if s = 27 then -1 else 0
  | _ => 0
def AtF (Z : ZT) : Prop := ∀ k i : Nat, i < ksz_a k → k ≠ 12 → k ≠ 25 → zA Z k i = zB Z + pos k i
def gr0 (Z : ZT) (i : Nat) : Nat := if i = 516 then zB Z + 1111 else zB Z + pos 12 i
theorem AtF.ad {Z : ZT} (h : AtF Z) {k i : Nat} (hi : i < ksz_a k) : adG Z (gr0 Z) k i = zB Z + pos k i := by
  unfold adG
  by_cases h12 : k = 12
  · subst h12
    have hi : i < 516 := hi
    rw [if_pos rfl, gr0, if_neg (by omega)]
  · rw [if_neg h12]
    by_cases h25 : k = 25
    · subst h25
      rw [if_pos rfl, gr0, if_pos rfl]
      rfl
    · rw [if_neg h25]; exact h k i hi h12 h25
section FRESH
variable {Z : ZT} {B n j : Nat} {E : Nat → va_E}
theorem RX1_at0 (hj : j < n) : E_RX1 Z B n j E (n + 0) = .inr (2, [.ref (B + (n + 0 + 1)), vi 0]) := by
  refine (L0_RX1_old (by omega) 40 (by omega)).trans ?_
  unfold P_RX1 E_RX5
  repeat (first | rw [uE_ne (by omega)] | rw [uE_eq (by omega)])
theorem RX1_at1 (hj : j < n) : E_RX1 Z B n j E (n + 1) = arI (zC Z 0) 0 (fun _ => 0) := by
  refine (L0_RX1_old (by omega) 40 (by omega)).trans ?_
  unfold P_RX1 E_RX5
  repeat (first | rw [uE_ne (by omega)] | rw [uE_eq (by omega)])
theorem RX1_at2 (hj : j < n) : E_RX1 Z B n j E (n + 2) = .inr (2, [.ref (B + (n + 2 + 1)), vi 0]) := by
  refine (L0_RX1_old (by omega) 40 (by omega)).trans ?_
  unfold P_RX1 E_RX5
  repeat (first | rw [uE_ne (by omega)] | rw [uE_eq (by omega)])
theorem RX1_at3 (hj : j < n) : E_RX1 Z B n j E (n + 3) = arI (zC Z 0) 0 (fun _ => 0) := by
  refine (L0_RX1_old (by omega) 40 (by omega)).trans ?_
  unfold P_RX1 E_RX5
  repeat (first | rw [uE_ne (by omega)] | rw [uE_eq (by omega)])
theorem RX1_at5 (hj : j < n) : E_RX1 Z B n j E (n + 5) = .inr (2, [.ref (B + (n + 5 + 1)), vi 0]) := by
  refine (L0_RX1_old (by omega) 40 (by omega)).trans ?_
  unfold P_RX1 E_RX5
  repeat (first | rw [uE_ne (by omega)] | rw [uE_eq (by omega)])
theorem RX1_at6 (hj : j < n) : E_RX1 Z B n j E (n + 6) = arI (zC Z 0) 0 (fun _ => 0) := by
  refine (L0_RX1_old (by omega) 40 (by omega)).trans ?_
  unfold P_RX1 E_RX5
  repeat (first | rw [uE_ne (by omega)] | rw [uE_eq (by omega)])
theorem RX1_at7 (hj : j < n) : E_RX1 Z B n j E (n + 7) = arI (zC Z 0) 40 (fun _ => 0) := by
  refine (L0_RX1_old (by omega) 40 (by omega)).trans ?_
  unfold P_RX1 E_RX5
  repeat (first | rw [uE_ne (by omega)] | rw [uE_eq (by omega)])
theorem RX1_at8 (hj : j < n) : E_RX1 Z B n j E (n + 8) = arI (zC Z 0) 9 (fun _ => 0) := by
  refine (L0_RX1_old (by omega) 40 (by omega)).trans ?_
  unfold P_RX1 E_RX5
  repeat (first | rw [uE_ne (by omega)] | rw [uE_eq (by omega)])
theorem L0_RX1_arr (hj : j < n) : ∀ i : Nat, L0_RX1 Z B n j E i (n + 4) = .inl (zC Z 4, 40, .inr (.inr (.inr (.inr (G_f B n i)))))
  | 0 => by
    show P_RX1 Z B n j E (n + 4) = _
    unfold P_RX1 E_RX5
    repeat (first | rw [uE_ne (by omega)] | rw [uE_eq (by omega)])
    rfl
  | i + 1 => uE_self _ _ _
theorem L0_RX1_row (hj : j < n) (k : Nat) : ∀ i : Nat, k < i → L0_RX1 Z B n j E i (n + 9 + 2 * k) = .inr (2, [.ref (B + (n + 9 + 2 * k + 1)), vi 0]) ∧ L0_RX1 Z B n j E i (n + 9 + 2 * k + 1) = arI (zC Z 0) 0 (fun _ => 0)
  | 0, h => absurd h (Nat.not_lt_zero _)
  | i + 1, h => by
    by_cases hk : k = i
    · subst hk
      refine ⟨(uE_ne (by omega)).trans E_RX5_self, (uE_ne (by omega)).trans ?_⟩
      unfold E_RX5
      rw [uE_ne (by omega), uE_eq (by omega)]
    · have h1 := L0_RX1_row hj k i (by omega)
      exact ⟨(uE_ne (by omega)).trans ((E_RX5_old (by omega) (by omega)).trans ((uE_ne (by omega)).trans h1.1)), (uE_ne (by omega)).trans ((E_RX5_old (by omega) (by omega)).trans ((uE_ne (by omega)).trans h1.2))⟩
theorem G_f_at (q : Nat) : ∀ i : Nat, q < i → G_f B n i q = some (B + (n + 9 + 2 * q))
  | 0, h => absurd h (Nat.not_lt_zero _)
  | i + 1, h => by
    show va_up (G_f B n i) i (some (B + (n + 9 + 2 * i))) q = _
    unfold va_up
    by_cases hk : q = i
    · rw [if_pos hk, hk]
    · rw [if_neg hk]; exact G_f_at q i (by omega)
theorem H_f_at (q : Nat) : ∀ i : Nat, q < i → H_f B n i q = some (B + (n + 90 * q))
  | 0, h => absurd h (Nat.not_lt_zero _)
  | i + 1, h => by
    show va_up (H_f B n i) i (some (B + (n + 90 * i))) q = _
    unfold va_up
    by_cases hk : q = i
    · rw [if_pos hk, hk]
    · rw [if_neg hk]; exact H_f_at q i (by omega)
theorem S_f_at (q : Nat) : ∀ i : Nat, q < i → S_f Z i q = some (zA Z 11 14)
  | 0, h => absurd h (Nat.not_lt_zero _)
  | i + 1, h => by
    show va_up (S_f Z i) i (some (zA Z 11 14)) q = _
    unfold va_up
    by_cases hk : q = i
    · rw [if_pos hk]
    · rw [if_neg hk]; exact S_f_at q i (by omega)
theorem T_f_at (q : Nat) : ∀ i : Nat, T_f i q = if q < i then (-1) else 0
  | 0 => by rw [if_neg (Nat.not_lt_zero _)]; rfl
  | i + 1 => by
    show (if q = i then (-1) else T_f i q) = _
    by_cases hk : q = i
    · rw [if_pos hk, if_pos (by omega)]
    · rw [if_neg hk, T_f_at q i]
      by_cases h : q < i
      · rw [if_pos h, if_pos (by omega)]
      · rw [if_neg h, if_neg (by omega)]
def gC (Z : ZT) (B n r : Nat) : va_E := if r = 4 then .inl (zC Z 4, 40, .inr (.inr (.inr (.inr (G_f B n 40))))) else if r = 7 then arI (zC Z 0) 40 (fun _ => 0) else if r = 8 then arI (zC Z 0) 9 (fun _ => 0) else if r = 0 ∨ r = 2 ∨ r = 5 ∨ (9 ≤ r ∧ r % 2 = 1) then .inr (2, [.ref (B + (n + r + 1)), vi 0]) else arI (zC Z 0) 0 (fun _ => 0)
theorem RX1_at (hj : j < n) (r : Nat) (hr : r < 89) : E_RX1 Z B n j E (n + r) = gC Z B n r := by
  unfold gC
  rcases (show r = 0 ∨ r = 1 ∨ r = 2 ∨ r = 3 ∨ r = 4 ∨ r = 5 ∨ r = 6 ∨ r = 7 ∨ r = 8 ∨ 9 ≤ r by omega) with rfl | rfl | rfl | rfl | rfl | rfl | rfl | rfl | rfl | h9
  · exact RX1_at0 hj
  · exact RX1_at1 hj
  · exact RX1_at2 hj
  · exact RX1_at3 hj
  · exact L0_RX1_arr hj 40
  · exact RX1_at5 hj
  · exact RX1_at6 hj
  · exact RX1_at7 hj
  · exact RX1_at8 hj
  · rw [if_neg (by omega), if_neg (by omega), if_neg (by omega)]
    obtain ⟨k, hk⟩ : ∃ k, r = 9 + 2 * k ∨ r = 9 + 2 * k + 1 := ⟨(r - 9) / 2, by omega⟩
    rcases hk with rfl | rfl
    · rw [if_pos (by omega), show n + (9 + 2 * k) = n + 9 + 2 * k by omega]
      exact (L0_RX1_row hj k 40 (by omega)).1
    · rw [if_neg (by omega), show n + (9 + 2 * k + 1) = n + 9 + 2 * k + 1 by omega]
      exact (L0_RX1_row hj k 40 (by omega)).2
/-- a grammar whole: the object and what it made -/
def gW (Z : ZT) (B g r : Nat) : va_E := if r = 0 then gObj Z B (g + 1) else gC Z B (g + 1) (r - 1)
theorem RX1_gW {g : Nat} (r : Nat) (hr : r < 90) : E_RX1 Z B (g + 1) g E (g + r) = gW Z B g r := by
  unfold gW
  by_cases h : r = 0
  · subst h; rw [if_pos rfl]; exact E_RX1_self (by omega)
  · rw [if_neg h, ← RX1_at (j := g) (E := E) (by omega) (r - 1) (by omega), show g + 1 + (r - 1) = g + r by omega]
theorem L0_RX2_at (a r : Nat) (hr : r < 90) : ∀ i : Nat, a < i → L0_RX2 Z B n j E i (n + 3 + 90 * a + r) = gW Z B (n + 3 + 90 * a) r
  | 0, h => absurd h (Nat.not_lt_zero _)
  | i + 1, h => by
    by_cases hk : a = i
    · subst hk
      exact (uE_ne (by omega)).trans (RX1_gW r hr)
    · exact (uE_ne (by omega)).trans ((E_RX1_old (by omega) (by omega)).trans ((uE_ne (by omega)).trans (L0_RX2_at a r hr i (by omega))))
theorem L1_RX2_at (a r : Nat) (hr : r < 90) : ∀ i : Nat, a < i → L1_RX2 Z B n j E i (n + 723 + 90 * a + r) = gW Z B (n + 723 + 90 * a) r
  | 0, h => absurd h (Nat.not_lt_zero _)
  | i + 1, h => by
    by_cases hk : a = i
    · subst hk
      exact (uE_ne (by omega)).trans (RX1_gW r hr)
    · exact (uE_ne (by omega)).trans ((E_RX1_old (by omega) (by omega)).trans ((uE_ne (by omega)).trans (L1_RX2_at a r hr i (by omega))))
theorem RX2_at1 (a r : Nat) (ha : a < 8) (hr : r < 90) : E_RX2 Z B n j E (n + 3 + 90 * a + r) = gW Z B (n + 3 + 90 * a) r := (L1_RX2_old (by omega) (by omega) 2 (by omega)).trans (L0_RX2_at a r hr 8 ha)
theorem RX2_at2 (a r : Nat) (ha : a < 2) (hr : r < 90) : E_RX2 Z B n j E (n + 723 + 90 * a + r) = gW Z B (n + 723 + 90 * a) r := L1_RX2_at a r hr 2 ha
theorem L0_RX2_arr (hj : j < n) : ∀ i : Nat, L0_RX2 Z B n j E i n = .inl (zC Z 5, 8, .inr (.inr (.inr (.inr (H_f B (n + 3) i)))))
  | 0 => by
    show P_RX2 Z B n j E n = _
    unfold P_RX2
    repeat (first | rw [uE_ne (by omega)] | rw [uE_eq (by omega)])
    rfl
  | i + 1 => uE_self _ _ _
theorem L1_RX2_arr (hj : j < n) : ∀ i : Nat, L1_RX2 Z B n j E i (n + 1) = .inl (zC Z 5, 2, .inr (.inr (.inr (.inr (H_f B (n + 723) i)))))
  | 0 => by
    refine (L0_RX2_old (by omega) (by omega) 8 (by omega)).trans ?_
    unfold P_RX2
    repeat (first | rw [uE_ne (by omega)] | rw [uE_eq (by omega)])
    rfl
  | i + 1 => uE_self _ _ _
theorem E12_g (g r : Nat) (hg : g < 12) (hr : r < 90) : E_RX12 Z B E (gp g + r) = gW Z B (gp g) r := by
  unfold E_RX12 gp
  rcases (show g = 0 ∨ g = 1 ∨ (2 ≤ g ∧ g < 10) ∨ (10 ≤ g ∧ g < 12) by omega) with rfl | rfl | h2 | h3
  · rw [if_pos (by omega), show 1 + 90 * 0 = 1 by rfl]
    repeat (first | rw [uE_ne (by omega)] | rw [uE_eq (by omega)] | rw [E_RX4_old (by omega) (by omega)] | rw [E_RX2_old (by omega) (by omega)] | rw [E_RX6_old (by omega) (by omega)] | rw [E_RX7_old (by omega) (by omega)] | rw [E_RX8_old (by omega) (by omega)] | rw [E_RX10_old (by omega) (by omega)] | rw [E_RX9_old (by omega) (by omega)] | rw [E_RX1_old (by omega) (by omega)])
    exact RX1_gW (g := 1) r hr
  · rw [if_pos (by omega), show 1 + 90 * 1 = 91 by rfl]
    repeat (first | rw [uE_ne (by omega)] | rw [uE_eq (by omega)] | rw [E_RX4_old (by omega) (by omega)] | rw [E_RX2_old (by omega) (by omega)] | rw [E_RX6_old (by omega) (by omega)] | rw [E_RX7_old (by omega) (by omega)] | rw [E_RX8_old (by omega) (by omega)] | rw [E_RX10_old (by omega) (by omega)] | rw [E_RX9_old (by omega) (by omega)] | rw [E_RX1_old (by omega) (by omega)])
    exact RX1_gW (g := 91) r hr
  · rw [if_neg (by omega)]
    repeat (first | rw [uE_ne (by omega)] | rw [uE_eq (by omega)] | rw [E_RX4_old (by omega) (by omega)])
    exact RX2_at1 (n := 207) (g - 2) r (by omega) hr
  · rw [if_neg (by omega), show 210 + 90 * (g - 2) = 207 + 723 + 90 * (g - 10) by omega]
    repeat (first | rw [uE_ne (by omega)] | rw [uE_eq (by omega)] | rw [E_RX4_old (by omega) (by omega)])
    exact RX2_at2 (n := 207) (g - 10) r (by omega) hr
theorem E12_0 : E_RX12 Z B E 0 = .inr (0, [.ref (B + 1), .ref (B + 91), .ref (B + 181), .ref (B + 188), .ref (B + 195), .ref (B + 197), .ref (B + 198), .ref (B + 206), .ref (B + 1110), vi (-1)]) := by
  unfold E_RX12
  repeat (first | rw [uE_ne (by omega)] | rw [uE_eq (by omega)])
theorem E12_181 : E_RX12 Z B E 181 = .inr (3, [.ref (B + 182), .ref (B + 187)]) := by
  unfold E_RX12
  repeat (first | rw [uE_ne (by omega)] | rw [uE_eq (by omega)] | rw [E_RX4_old (by omega) (by omega)] | rw [E_RX2_old (by omega) (by omega)] | rw [E_RX6_old (by omega) (by omega)] | rw [E_RX7_old (by omega) (by omega)] | rw [E_RX8_old (by omega) (by omega)] | rw [E_RX10_old (by omega) (by omega)] | rw [E_RX1_old (by omega) (by omega)])
  unfold E_RX9
  repeat (first | rw [uE_ne (by omega)] | rw [uE_eq (by omega)] | rw [E_RX3_old (by omega) (by omega)])
theorem L0_RX3_arr (hj : j < n) : ∀ i : Nat, L0_RX3 Z B n j E i (n + 2) = arI (zC Z 0) 4356 (T_f i)
  | 0 => by
    show P_RX3 Z B n j E (n + 2) = _
    unfold P_RX3
    repeat (first | rw [uE_ne (by omega)] | rw [uE_eq (by omega)])
    rfl
  | i + 1 => uE_self _ _ _
theorem E12_182 : E_RX12 Z B E 182 = .inr (4, [.ref (B + 183), .ref (B + 184), .ref (B + 185), .ref (B + 186), vi 0, .null, vi 0, vi (-1), vi 0, vi 0]) := by
  unfold E_RX12
  repeat (first | rw [uE_ne (by omega)] | rw [uE_eq (by omega)] | rw [E_RX4_old (by omega) (by omega)] | rw [E_RX2_old (by omega) (by omega)] | rw [E_RX6_old (by omega) (by omega)] | rw [E_RX7_old (by omega) (by omega)] | rw [E_RX8_old (by omega) (by omega)] | rw [E_RX10_old (by omega) (by omega)] | rw [E_RX1_old (by omega) (by omega)])
  unfold E_RX9
  repeat (first | rw [uE_ne (by omega)] | rw [uE_eq (by omega)])
  refine (L0_RX3_old (by omega) 4356).trans ?_
  unfold P_RX3
  repeat (first | rw [uE_ne (by omega)] | rw [uE_eq (by omega)])
theorem E12_183 : E_RX12 Z B E 183 = arI (zC Z 0) 4356 (fun _ => 0) := by
  unfold E_RX12
  repeat (first | rw [uE_ne (by omega)] | rw [uE_eq (by omega)] | rw [E_RX4_old (by omega) (by omega)] | rw [E_RX2_old (by omega) (by omega)] | rw [E_RX6_old (by omega) (by omega)] | rw [E_RX7_old (by omega) (by omega)] | rw [E_RX8_old (by omega) (by omega)] | rw [E_RX10_old (by omega) (by omega)] | rw [E_RX1_old (by omega) (by omega)])
  unfold E_RX9
  repeat (first | rw [uE_ne (by omega)] | rw [uE_eq (by omega)])
  refine (L0_RX3_old (by omega) 4356).trans ?_
  unfold P_RX3
  repeat (first | rw [uE_ne (by omega)] | rw [uE_eq (by omega)])
theorem E12_184 : E_RX12 Z B E 184 = arI (zC Z 0) 4356 (fun _ => 0) := by
  unfold E_RX12
  repeat (first | rw [uE_ne (by omega)] | rw [uE_eq (by omega)] | rw [E_RX4_old (by omega) (by omega)] | rw [E_RX2_old (by omega) (by omega)] | rw [E_RX6_old (by omega) (by omega)] | rw [E_RX7_old (by omega) (by omega)] | rw [E_RX8_old (by omega) (by omega)] | rw [E_RX10_old (by omega) (by omega)] | rw [E_RX1_old (by omega) (by omega)])
  unfold E_RX9
  repeat (first | rw [uE_ne (by omega)] | rw [uE_eq (by omega)])
  refine (L0_RX3_old (by omega) 4356).trans ?_
  unfold P_RX3
  repeat (first | rw [uE_ne (by omega)] | rw [uE_eq (by omega)])
theorem E12_185 : E_RX12 Z B E 185 = arI (zC Z 0) 4356 (T_f 4356) := by
  unfold E_RX12
  repeat (first | rw [uE_ne (by omega)] | rw [uE_eq (by omega)] | rw [E_RX4_old (by omega) (by omega)] | rw [E_RX2_old (by omega) (by omega)] | rw [E_RX6_old (by omega) (by omega)] | rw [E_RX7_old (by omega) (by omega)] | rw [E_RX8_old (by omega) (by omega)] | rw [E_RX10_old (by omega) (by omega)] | rw [E_RX1_old (by omega) (by omega)])
  unfold E_RX9
  repeat (first | rw [uE_ne (by omega)] | rw [uE_eq (by omega)])
  exact L0_RX3_arr (n := 183) (by omega) 4356
theorem E12_186 : E_RX12 Z B E 186 = arI (zC Z 0) 4356 (fun _ => 0) := by
  unfold E_RX12
  repeat (first | rw [uE_ne (by omega)] | rw [uE_eq (by omega)] | rw [E_RX4_old (by omega) (by omega)] | rw [E_RX2_old (by omega) (by omega)] | rw [E_RX6_old (by omega) (by omega)] | rw [E_RX7_old (by omega) (by omega)] | rw [E_RX8_old (by omega) (by omega)] | rw [E_RX10_old (by omega) (by omega)] | rw [E_RX1_old (by omega) (by omega)])
  unfold E_RX9
  repeat (first | rw [uE_ne (by omega)] | rw [uE_eq (by omega)])
  refine (L0_RX3_old (by omega) 4356).trans ?_
  unfold P_RX3
  repeat (first | rw [uE_ne (by omega)] | rw [uE_eq (by omega)])
theorem E12_187 : E_RX12 Z B E 187 = arI (zC Z 0) 40 (fun _ => 0) := by
  unfold E_RX12
  repeat (first | rw [uE_ne (by omega)] | rw [uE_eq (by omega)] | rw [E_RX4_old (by omega) (by omega)] | rw [E_RX2_old (by omega) (by omega)] | rw [E_RX6_old (by omega) (by omega)] | rw [E_RX7_old (by omega) (by omega)] | rw [E_RX8_old (by omega) (by omega)] | rw [E_RX10_old (by omega) (by omega)] | rw [E_RX1_old (by omega) (by omega)])
  unfold E_RX9
  repeat (first | rw [uE_ne (by omega)] | rw [uE_eq (by omega)] | rw [E_RX3_old (by omega) (by omega)])

theorem E12_188 : E_RX12 Z B E 188 = .inr (5, [.ref (B + 189), .ref (B + 190), .ref (B + 191), .ref (B + 192), .ref (B + 193), .ref (B + 194), vi 0, vi 0]) := by
  unfold E_RX12
  repeat (first | rw [uE_ne (by omega)] | rw [uE_eq (by omega)] | rw [E_RX4_old (by omega) (by omega)] | rw [E_RX2_old (by omega) (by omega)] | rw [E_RX6_old (by omega) (by omega)] | rw [E_RX7_old (by omega) (by omega)] | rw [E_RX8_old (by omega) (by omega)])
  unfold E_RX10
  repeat (first | rw [uE_ne (by omega)] | rw [uE_eq (by omega)])
theorem E12_189 : E_RX12 Z B E 189 = arI (zC Z 0) 40 (fun _ => 0) := by
  unfold E_RX12
  repeat (first | rw [uE_ne (by omega)] | rw [uE_eq (by omega)] | rw [E_RX4_old (by omega) (by omega)] | rw [E_RX2_old (by omega) (by omega)] | rw [E_RX6_old (by omega) (by omega)] | rw [E_RX7_old (by omega) (by omega)] | rw [E_RX8_old (by omega) (by omega)])
  unfold E_RX10
  repeat (first | rw [uE_ne (by omega)] | rw [uE_eq (by omega)])
theorem E12_190 : E_RX12 Z B E 190 = arI (zC Z 0) 40 (fun _ => 0) := by
  unfold E_RX12
  repeat (first | rw [uE_ne (by omega)] | rw [uE_eq (by omega)] | rw [E_RX4_old (by omega) (by omega)] | rw [E_RX2_old (by omega) (by omega)] | rw [E_RX6_old (by omega) (by omega)] | rw [E_RX7_old (by omega) (by omega)] | rw [E_RX8_old (by omega) (by omega)])
  unfold E_RX10
  repeat (first | rw [uE_ne (by omega)] | rw [uE_eq (by omega)])
theorem E12_191 : E_RX12 Z B E 191 = arI (zC Z 0) 40 (fun _ => 0) := by
  unfold E_RX12
  repeat (first | rw [uE_ne (by omega)] | rw [uE_eq (by omega)] | rw [E_RX4_old (by omega) (by omega)] | rw [E_RX2_old (by omega) (by omega)] | rw [E_RX6_old (by omega) (by omega)] | rw [E_RX7_old (by omega) (by omega)] | rw [E_RX8_old (by omega) (by omega)])
  unfold E_RX10
  repeat (first | rw [uE_ne (by omega)] | rw [uE_eq (by omega)])
theorem E12_192 : E_RX12 Z B E 192 = arI (zC Z 0) 400 (fun _ => 0) := by
  unfold E_RX12
  repeat (first | rw [uE_ne (by omega)] | rw [uE_eq (by omega)] | rw [E_RX4_old (by omega) (by omega)] | rw [E_RX2_old (by omega) (by omega)] | rw [E_RX6_old (by omega) (by omega)] | rw [E_RX7_old (by omega) (by omega)] | rw [E_RX8_old (by omega) (by omega)])
  unfold E_RX10
  repeat (first | rw [uE_ne (by omega)] | rw [uE_eq (by omega)])
theorem E12_193 : E_RX12 Z B E 193 = arI (zC Z 0) 41 (fun _ => 0) := by
  unfold E_RX12
  repeat (first | rw [uE_ne (by omega)] | rw [uE_eq (by omega)] | rw [E_RX4_old (by omega) (by omega)] | rw [E_RX2_old (by omega) (by omega)] | rw [E_RX6_old (by omega) (by omega)] | rw [E_RX7_old (by omega) (by omega)] | rw [E_RX8_old (by omega) (by omega)])
  unfold E_RX10
  repeat (first | rw [uE_ne (by omega)] | rw [uE_eq (by omega)])
theorem E12_194 : E_RX12 Z B E 194 = arI (zC Z 0) 41 (fun _ => 0) := by
  unfold E_RX12
  repeat (first | rw [uE_ne (by omega)] | rw [uE_eq (by omega)] | rw [E_RX4_old (by omega) (by omega)] | rw [E_RX2_old (by omega) (by omega)] | rw [E_RX6_old (by omega) (by omega)] | rw [E_RX7_old (by omega) (by omega)] | rw [E_RX8_old (by omega) (by omega)])
  unfold E_RX10
  repeat (first | rw [uE_ne (by omega)] | rw [uE_eq (by omega)])
theorem E12_195 : E_RX12 Z B E 195 = .inr (6, [.ref (B + 196), vi 0, vi 0, vi 0, vi 0, vi 0, vi 0, vi 0]) := by
  unfold E_RX12
  repeat (first | rw [uE_ne (by omega)] | rw [uE_eq (by omega)] | rw [E_RX4_old (by omega) (by omega)] | rw [E_RX2_old (by omega) (by omega)] | rw [E_RX6_old (by omega) (by omega)] | rw [E_RX7_old (by omega) (by omega)])
  unfold E_RX8
  repeat (first | rw [uE_ne (by omega)] | rw [uE_eq (by omega)])
theorem E12_196 : E_RX12 Z B E 196 = arI (zC Z 0) 600 (fun _ => 0) := by
  unfold E_RX12
  repeat (first | rw [uE_ne (by omega)] | rw [uE_eq (by omega)] | rw [E_RX4_old (by omega) (by omega)] | rw [E_RX2_old (by omega) (by omega)] | rw [E_RX6_old (by omega) (by omega)] | rw [E_RX7_old (by omega) (by omega)])
  unfold E_RX8
  repeat (first | rw [uE_ne (by omega)] | rw [uE_eq (by omega)])
theorem E12_197 : E_RX12 Z B E 197 = .inr (7, [.ref (B + 195), .ref (B + 91), vi 0, vi 0, vi 0, vi 0, vi 0]) := by
  unfold E_RX12
  repeat (first | rw [uE_ne (by omega)] | rw [uE_eq (by omega)] | rw [E_RX4_old (by omega) (by omega)] | rw [E_RX2_old (by omega) (by omega)] | rw [E_RX6_old (by omega) (by omega)])
  unfold E_RX7
  repeat (first | rw [uE_ne (by omega)] | rw [uE_eq (by omega)])
theorem L0_RX6_arr {a1 : Nat} (hj : j < n) : ∀ i : Nat, L0_RX6 Z B n j E a1 i n = .inl (zC Z 6, 60, .inr (.inr (.inr (.inr (S_f Z i)))))
  | 0 => by
    show P_RX6 Z B n j E a1 n = _
    unfold P_RX6
    repeat (first | rw [uE_ne (by omega)] | rw [uE_eq (by omega)])
    rfl
  | i + 1 => uE_self _ _ _
theorem E12_198 : E_RX12 Z B E 198 = .inr (8, [.ref (B + 195), .ref (B + 199), .ref (B + 200), .ref (B + 201), .ref (B + 202), .ref (B + 203), .ref (B + 204), .ref (B + 205), vi 0, vi 0, vi 0]) := by
  unfold E_RX12
  repeat (first | rw [uE_ne (by omega)] | rw [uE_eq (by omega)] | rw [E_RX4_old (by omega) (by omega)] | rw [E_RX2_old (by omega) (by omega)])
  refine (L0_RX6_old (by omega) 60).trans ?_
  unfold P_RX6
  repeat (first | rw [uE_ne (by omega)] | rw [uE_eq (by omega)])
theorem E12_199 : E_RX12 Z B E 199 = .inl (zC Z 6, 60, .inr (.inr (.inr (.inr (S_f Z 60))))) := by
  unfold E_RX12
  repeat (first | rw [uE_ne (by omega)] | rw [uE_eq (by omega)] | rw [E_RX4_old (by omega) (by omega)] | rw [E_RX2_old (by omega) (by omega)])
  exact L0_RX6_arr (n := 199) (by omega) 60
theorem E12_200 : E_RX12 Z B E 200 = arI (zC Z 0) 60 (fun _ => 0) := by
  unfold E_RX12
  repeat (first | rw [uE_ne (by omega)] | rw [uE_eq (by omega)] | rw [E_RX4_old (by omega) (by omega)] | rw [E_RX2_old (by omega) (by omega)])
  refine (L0_RX6_old (by omega) 60).trans ?_
  unfold P_RX6
  repeat (first | rw [uE_ne (by omega)] | rw [uE_eq (by omega)])
theorem E12_201 : E_RX12 Z B E 201 = arI (zC Z 0) 60 (fun _ => 0) := by
  unfold E_RX12
  repeat (first | rw [uE_ne (by omega)] | rw [uE_eq (by omega)] | rw [E_RX4_old (by omega) (by omega)] | rw [E_RX2_old (by omega) (by omega)])
  refine (L0_RX6_old (by omega) 60).trans ?_
  unfold P_RX6
  repeat (first | rw [uE_ne (by omega)] | rw [uE_eq (by omega)])
theorem E12_202 : E_RX12 Z B E 202 = arI (zC Z 0) 60 (fun _ => 0) := by
  unfold E_RX12
  repeat (first | rw [uE_ne (by omega)] | rw [uE_eq (by omega)] | rw [E_RX4_old (by omega) (by omega)] | rw [E_RX2_old (by omega) (by omega)])
  refine (L0_RX6_old (by omega) 60).trans ?_
  unfold P_RX6
  repeat (first | rw [uE_ne (by omega)] | rw [uE_eq (by omega)])
theorem E12_203 : E_RX12 Z B E 203 = arI (zC Z 0) 60 (fun _ => 0) := by
  unfold E_RX12
  repeat (first | rw [uE_ne (by omega)] | rw [uE_eq (by omega)] | rw [E_RX4_old (by omega) (by omega)] | rw [E_RX2_old (by omega) (by omega)])
  refine (L0_RX6_old (by omega) 60).trans ?_
  unfold P_RX6
  repeat (first | rw [uE_ne (by omega)] | rw [uE_eq (by omega)])
theorem E12_204 : E_RX12 Z B E 204 = arI (zC Z 0) 60 (fun _ => 0) := by
  unfold E_RX12
  repeat (first | rw [uE_ne (by omega)] | rw [uE_eq (by omega)] | rw [E_RX4_old (by omega) (by omega)] | rw [E_RX2_old (by omega) (by omega)])
  refine (L0_RX6_old (by omega) 60).trans ?_
  unfold P_RX6
  repeat (first | rw [uE_ne (by omega)] | rw [uE_eq (by omega)])
theorem E12_205 : E_RX12 Z B E 205 = arI (zC Z 0) 2 (fun _ => 0) := by
  unfold E_RX12
  repeat (first | rw [uE_ne (by omega)] | rw [uE_eq (by omega)] | rw [E_RX4_old (by omega) (by omega)] | rw [E_RX2_old (by omega) (by omega)])
  refine (L0_RX6_old (by omega) 60).trans ?_
  unfold P_RX6
  repeat (first | rw [uE_ne (by omega)] | rw [uE_eq (by omega)])
theorem E12_206 : E_RX12 Z B E 206 = .inr (9, [.ref (B + 207), .ref (B + 208), .ref (B + 209), vi 0, vi 0]) := by
  unfold E_RX12
  repeat (first | rw [uE_ne (by omega)] | rw [uE_eq (by omega)] | rw [E_RX4_old (by omega) (by omega)])
  refine (L1_RX2_old (by omega) (by omega) 2 (by omega)).trans ((L0_RX2_old (by omega) (by omega) 8 (by omega)).trans ?_)
  unfold P_RX2
  repeat (first | rw [uE_ne (by omega)] | rw [uE_eq (by omega)])
theorem E12_207 : E_RX12 Z B E 207 = .inl (zC Z 5, 8, .inr (.inr (.inr (.inr (H_f B 210 8))))) := by
  unfold E_RX12
  repeat (first | rw [uE_ne (by omega)] | rw [uE_eq (by omega)] | rw [E_RX4_old (by omega) (by omega)])
  exact (L1_RX2_old (by omega) (by omega) 2 (by omega)).trans (L0_RX2_arr (by omega) 8)
theorem E12_208 : E_RX12 Z B E 208 = .inl (zC Z 5, 2, .inr (.inr (.inr (.inr (H_f B 930 2))))) := by
  unfold E_RX12
  repeat (first | rw [uE_ne (by omega)] | rw [uE_eq (by omega)] | rw [E_RX4_old (by omega) (by omega)])
  exact L1_RX2_arr (by omega) 2
theorem E12_209 : E_RX12 Z B E 209 = arI (zC Z 1) 2 (fun _ => 0) := by
  unfold E_RX12
  repeat (first | rw [uE_ne (by omega)] | rw [uE_eq (by omega)] | rw [E_RX4_old (by omega) (by omega)])
  refine (L1_RX2_old (by omega) (by omega) 2 (by omega)).trans ((L0_RX2_old (by omega) (by omega) 8 (by omega)).trans ?_)
  unfold P_RX2
  repeat (first | rw [uE_ne (by omega)] | rw [uE_eq (by omega)])
theorem E12_1110 : E_RX12 Z B E 1110 = .inr (10, [.ref (B + 1111), vi 0]) := by
  unfold E_RX12
  repeat (first | rw [uE_ne (by omega)] | rw [uE_eq (by omega)])
  unfold E_RX4
  repeat (first | rw [uE_ne (by omega)] | rw [uE_eq (by omega)])
theorem E12_1111 : E_RX12 Z B E 1111 = arI (zC Z 2) 64 (fun _ => 0) := by
  unfold E_RX12
  repeat (first | rw [uE_ne (by omega)] | rw [uE_eq (by omega)])
  unfold E_RX4
  repeat (first | rw [uE_ne (by omega)] | rw [uE_eq (by omega)])
end FRESH
