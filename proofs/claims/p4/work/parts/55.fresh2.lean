/-! ===== the fresh object holds FR0 ===== -/
theorem va_refs {D : va_G} {a c n : Nat} {f : Nat → Option Nat} {g : Nat → Nat} {H : Heap} (h : va_at D cls (a, .inl (c, n, .inr (.inr (.inr (.inr f))))) H) (hf : ∀ q : Nat, q < n → f q = some (g q)) : va_at D cls (a, arR c n g) H := by
  show H[a]? = some (vp_cell c (n, .inr (.inr (.inr (.inr fun j => some (g j))))))
  have h : H[a]? = some (vp_cell c (n, .inr (.inr (.inr (.inr f))))) := h
  rw [h, vp_cell_q, vp_cell_q]
  unfold arrV
  congr 3
  funext j
  exact congrArg va_rf (hf j.1 j.2)
theorem va_ints {D : va_G} {a c n : Nat} {f g : Nat → Int} {H : Heap} (h : va_at D cls (a, arI c n f) H) (hf : ∀ q : Nat, f q = g q) : va_at D cls (a, arI c n g) H := by
  rw [show g = f from funext fun q => (hf q).symm]; exact h
theorem gp_row (g : Nat) : pos 2 (43 * g) = gp g + 1 ∧ pos 2 (43 * g + 1) = gp g + 3 ∧ pos 2 (43 * g + 2) = gp g + 6 := by
  have h1 : 43 * g / 43 = g := by omega
  have h2 : 43 * g % 43 = 0 := by omega
  have h3 : (43 * g + 1) / 43 = g := by omega
  have h4 : (43 * g + 1) % 43 = 1 := by omega
  have h5 : (43 * g + 2) / 43 = g := by omega
  have h6 : (43 * g + 2) % 43 = 2 := by omega
  refine ⟨?_, ?_, ?_⟩
  · show gp (43 * g / 43) + rp (43 * g % 43) = _
    rw [h1, h2]; rfl
  · show gp ((43 * g + 1) / 43) + rp ((43 * g + 1) % 43) = _
    rw [h3, h4]; rfl
  · show gp ((43 * g + 2) / 43) + rp ((43 * g + 2) % 43) = _
    rw [h5, h6]; rfl
theorem gp_body (g i : Nat) (hi : i < 40) : pos 2 (43 * g + 3 + i) = gp g + 10 + 2 * i := by
  have h1 : (43 * g + 3 + i) / 43 = g := by omega
  have h2 : (43 * g + 3 + i) % 43 = 3 + i := by omega
  show gp ((43 * g + 3 + i) / 43) + rp ((43 * g + 3 + i) % 43) = _
  rw [h1, h2]
  unfold rp
  rw [if_neg (by omega)]
  omega
theorem gC_row {Z : ZT} {B n r : Nat} (h : r = 0 ∨ r = 2 ∨ r = 5 ∨ (9 ≤ r ∧ r % 2 = 1)) : gC Z B n r = .inr (2, [.ref (B + (n + r + 1)), vi 0]) := by
  unfold gC
  rw [if_neg (by omega), if_neg (by omega), if_neg (by omega), if_pos h]
theorem gC_cells {Z : ZT} {B n r : Nat} (h : r = 1 ∨ r = 3 ∨ r = 6 ∨ (9 ≤ r ∧ r % 2 = 0)) : gC Z B n r = arI (zC Z 0) 0 (fun _ => 0) := by
  unfold gC
  rw [if_neg (by omega), if_neg (by omega), if_neg (by omega), if_neg (by omega)]
theorem rp_row (r : Nat) (hr : r < 43) : rp r < 89 ∧ 1 ≤ rp r ∧ (rp r - 1 = 0 ∨ rp r - 1 = 2 ∨ rp r - 1 = 5 ∨ (9 ≤ rp r - 1 ∧ (rp r - 1) % 2 = 1)) := by
  unfold rp
  by_cases h : r < 3
  · rw [if_pos h]
    rcases (show r = 0 ∨ r = 1 ∨ r = 2 by omega) with rfl | rfl | rfl
    · exact ⟨by decide, by decide, by decide⟩
    · exact ⟨by decide, by decide, by decide⟩
    · exact ⟨by decide, by decide, by decide⟩
  · rw [if_neg h]; omega
set_option maxRecDepth 100000 in
set_option maxHeartbeats 4000000 in
theorem fresh {Z : ZT} {E : Nat → va_E} {H : Heap} (hA : AtF Z) (hH : CHp (zD Z) (zB Z) (zH Z) 1112 (E_RX12 Z (zB Z) E) H) : HHA_a Z (gr0 Z) FR0 H := by
  obtain ⟨h1, h2, h3, h4⟩ := hH
  have hp := fun k i (hi : i < ksz_a k) => inv_pos k (ka_lt hi) i hi
  refine ⟨⟨h1.symm, by omega, h3⟩, fun k i k' i' hi hi' he => ?_, fun k i hi => by rw [hA.ad hi]; omega, fun k i hi => ?_⟩
  · rw [hA.ad hi, hA.ad hi'] at he
    have e1 := (hp k i hi).1
    have e2 := (hp k' i' hi').1
    rw [show pos k i = pos k' i' by omega, e2] at e1
    exact ⟨(congrArg Prod.fst e1).symm, (congrArg Prod.snd e1).symm⟩
  · have hb := (hp k i hi).2
    have hat := h4 (pos k i) hb
    have had := hA.ad hi
    rw [had]
    have hg : ∀ g r : Nat, g < 12 → r < 90 → va_at (zD Z) cls (zB Z + (gp g + r), gW Z (zB Z) (gp g) r) H := fun g r hg hr => by
      rw [← E12_g (E := E) g r hg hr]
      refine h4 _ ?_
      unfold gp
      split <;> omega
    have kl := ka_lt hi
    match k, kl, hi, hat with
    | 0, _, hi, hat =>
      obtain rfl : i = 0 := by have hi : i < 1 := hi; omega
      have hat : va_at (zD Z) cls (zB Z + 0, E_RX12 Z (zB Z) E 0) H := hat
      rw [E12_0] at hat
      show va_at (zD Z) cls (zB Z + 0, ent Z (gr0 Z) FR0 0 0) H
      unfold ent
      simp only [vr]
      rw [hA 1 0 (by decide) (by decide) (by decide)]
      rw [hA 1 1 (by decide) (by decide) (by decide)]
      rw [hA 3 0 (by decide) (by decide) (by decide)]
      rw [hA 5 0 (by decide) (by decide) (by decide)]
      rw [hA 6 0 (by decide) (by decide) (by decide)]
      rw [hA 7 0 (by decide) (by decide) (by decide)]
      rw [hA 8 0 (by decide) (by decide) (by decide)]
      rw [hA 9 0 (by decide) (by decide) (by decide)]
      rw [hA 10 0 (by decide) (by decide) (by decide)]
      exact hat
    | 1, _, hi, hat =>
      have hi : i < 12 := hi
      have hat := hg i 0 hi (by omega)
      have r := gp_row i
      show va_at (zD Z) cls (zB Z + gp i, ent Z (gr0 Z) FR0 1 i) H
      unfold ent
      simp only [vr]
      rw [hA 2 (43 * i) (by show _ < 516; omega) (by decide) (by decide), hA 2 (43 * i + 1) (by show _ < 516; omega) (by decide) (by decide), hA 2 (43 * i + 2) (by show _ < 516; omega) (by decide) (by decide), hA 13 i hi (by decide) (by decide), hA 14 i hi (by decide) (by decide), hA 15 i hi (by decide) (by decide), r.1, r.2.1, r.2.2]
      exact hat
    | 2, _, hi, hat =>
      have hi : i < 516 := hi
      have hr := rp_row (i % 43) (Nat.mod_lt _ (by decide))
      have hat := hg (i / 43) (rp (i % 43)) (by omega) (by omega)
      show va_at (zD Z) cls (zB Z + (gp (i / 43) + rp (i % 43)), .inr (2, [.ref (gr0 Z i), vi 0])) H
      unfold gW at hat
      rw [if_neg (by omega), gC_row hr.2.2] at hat
      rw [gr0, if_neg (by omega), show zB Z + pos 12 i = zB Z + (gp (i / 43) + 1 + (rp (i % 43) - 1) + 1) from by show _ + (gp (i / 43) + rp (i % 43) + 1) = _; omega]
      exact hat
    | 3, _, hi, hat =>
      obtain rfl : i = 0 := by have hi : i < 1 := hi; omega
      have hat : va_at (zD Z) cls (zB Z + 181, E_RX12 Z (zB Z) E 181) H := hat
      rw [E12_181] at hat
      show va_at (zD Z) cls (zB Z + 181, ent Z (gr0 Z) FR0 3 0) H
      unfold ent
      simp only [vr]
      rw [hA 4 0 (by decide) (by decide) (by decide)]
      rw [hA 17 0 (by decide) (by decide) (by decide)]
      exact hat
    | 4, _, hi, hat =>
      obtain rfl : i = 0 := by have hi : i < 1 := hi; omega
      have hat : va_at (zD Z) cls (zB Z + 182, E_RX12 Z (zB Z) E 182) H := hat
      rw [E12_182] at hat
      show va_at (zD Z) cls (zB Z + 182, ent Z (gr0 Z) FR0 4 0) H
      unfold ent
      simp only [vr]
      rw [hA 16 0 (by decide) (by decide) (by decide)]
      rw [hA 16 1 (by decide) (by decide) (by decide)]
      rw [hA 16 2 (by decide) (by decide) (by decide)]
      rw [hA 16 3 (by decide) (by decide) (by decide)]
      exact hat
    | 5, _, hi, hat =>
      obtain rfl : i = 0 := by have hi : i < 1 := hi; omega
      have hat : va_at (zD Z) cls (zB Z + 188, E_RX12 Z (zB Z) E 188) H := hat
      rw [E12_188] at hat
      show va_at (zD Z) cls (zB Z + 188, ent Z (gr0 Z) FR0 5 0) H
      unfold ent
      simp only [vr]
      rw [hA 18 0 (by decide) (by decide) (by decide)]
      rw [hA 18 1 (by decide) (by decide) (by decide)]
      rw [hA 18 2 (by decide) (by decide) (by decide)]
      rw [hA 18 3 (by decide) (by decide) (by decide)]
      rw [hA 18 4 (by decide) (by decide) (by decide)]
      rw [hA 18 5 (by decide) (by decide) (by decide)]
      exact hat
    | 6, _, hi, hat =>
      obtain rfl : i = 0 := by have hi : i < 1 := hi; omega
      have hat : va_at (zD Z) cls (zB Z + 195, E_RX12 Z (zB Z) E 195) H := hat
      rw [E12_195] at hat
      show va_at (zD Z) cls (zB Z + 195, ent Z (gr0 Z) FR0 6 0) H
      unfold ent
      simp only [vr]
      rw [hA 19 0 (by decide) (by decide) (by decide)]
      exact hat
    | 7, _, hi, hat =>
      obtain rfl : i = 0 := by have hi : i < 1 := hi; omega
      have hat : va_at (zD Z) cls (zB Z + 197, E_RX12 Z (zB Z) E 197) H := hat
      rw [E12_197] at hat
      show va_at (zD Z) cls (zB Z + 197, ent Z (gr0 Z) FR0 7 0) H
      unfold ent
      simp only [vr]
      rw [hA 6 0 (by decide) (by decide) (by decide)]
      rw [hA 1 1 (by decide) (by decide) (by decide)]
      exact hat
    | 8, _, hi, hat =>
      obtain rfl : i = 0 := by have hi : i < 1 := hi; omega
      have hat : va_at (zD Z) cls (zB Z + 198, E_RX12 Z (zB Z) E 198) H := hat
      rw [E12_198] at hat
      show va_at (zD Z) cls (zB Z + 198, ent Z (gr0 Z) FR0 8 0) H
      unfold ent
      simp only [vr]
      rw [hA 6 0 (by decide) (by decide) (by decide)]
      rw [hA 20 0 (by decide) (by decide) (by decide)]
      rw [hA 21 0 (by decide) (by decide) (by decide)]
      rw [hA 21 1 (by decide) (by decide) (by decide)]
      rw [hA 21 2 (by decide) (by decide) (by decide)]
      rw [hA 21 3 (by decide) (by decide) (by decide)]
      rw [hA 21 4 (by decide) (by decide) (by decide)]
      rw [hA 21 5 (by decide) (by decide) (by decide)]
      exact hat
    | 9, _, hi, hat =>
      obtain rfl : i = 0 := by have hi : i < 1 := hi; omega
      have hat : va_at (zD Z) cls (zB Z + 206, E_RX12 Z (zB Z) E 206) H := hat
      rw [E12_206] at hat
      show va_at (zD Z) cls (zB Z + 206, ent Z (gr0 Z) FR0 9 0) H
      unfold ent
      simp only [vr]
      rw [hA 22 0 (by decide) (by decide) (by decide)]
      rw [hA 23 0 (by decide) (by decide) (by decide)]
      rw [hA 24 0 (by decide) (by decide) (by decide)]
      exact hat
    | 10, _, hi, hat =>
      obtain rfl : i = 0 := by have hi : i < 1 := hi; omega
      have hat : va_at (zD Z) cls (zB Z + 1110, E_RX12 Z (zB Z) E 1110) H := hat
      rw [E12_1110] at hat
      show va_at (zD Z) cls (zB Z + 1110, .inr (10, [.ref (gr0 Z 516), vi 0])) H
      rw [gr0, if_pos rfl]
      exact hat
    | 12, _, hi, hat =>
      have hi : i < 516 := hi
      have hr := rp_row (i % 43) (Nat.mod_lt _ (by decide))
      have hat := hg (i / 43) (rp (i % 43) + 1) (by omega) (by omega)
      show va_at (zD Z) cls (zB Z + (gp (i / 43) + rp (i % 43) + 1), arI (zC Z 0) 0 (fun _ => 0)) H
      unfold gW at hat
      rw [if_neg (by omega), gC_cells (by omega)] at hat
      exact hat
    | 13, _, hi, hat =>
      have hi : i < 12 := hi
      have hat := hg i 5 hi (by omega)
      have hat : va_at (zD Z) cls (zB Z + (gp i + 5), .inl (zC Z 4, 40, .inr (.inr (.inr (.inr (G_f (zB Z) (gp i + 1) 40)))))) H := hat
      refine va_refs hat (fun q hq => ?_)
      rw [G_f_at q 40 hq, hA 2 (43 * i + 3 + q) (by show _ < 516; omega) (by decide) (by decide), gp_body i q hq]
    | 14, _, hi, hat =>
      have hi : i < 12 := hi
      exact hg i 8 hi (by omega)
    | 15, _, hi, hat =>
      have hi : i < 12 := hi
      exact hg i 9 hi (by omega)
    | 16, _, hi, hat =>
      have hi : i < 4 := hi
      rcases (show i = 0 ∨ i = 1 ∨ i = 2 ∨ i = 3 by omega) with rfl | rfl | rfl | rfl
      · have hat : va_at (zD Z) cls (zB Z + 183, E_RX12 Z (zB Z) E 183) H := hat
        rw [E12_183] at hat
        exact hat
      · have hat : va_at (zD Z) cls (zB Z + 184, E_RX12 Z (zB Z) E 184) H := hat
        rw [E12_184] at hat
        exact hat
      · have hat : va_at (zD Z) cls (zB Z + 185, E_RX12 Z (zB Z) E 185) H := hat
        rw [E12_185] at hat
        exact va_ints hat (fun q => (T_f_at q 4356).trans rfl)
      · have hat : va_at (zD Z) cls (zB Z + 186, E_RX12 Z (zB Z) E 186) H := hat
        rw [E12_186] at hat
        exact hat
    | 17, _, hi, hat =>
      obtain rfl : i = 0 := by have hi : i < 1 := hi; omega
      have hat : va_at (zD Z) cls (zB Z + 187, E_RX12 Z (zB Z) E 187) H := hat
      rw [E12_187] at hat
      exact hat
    | 18, _, hi, hat =>
      have hi : i < 6 := hi
      rcases (show i = 0 ∨ i = 1 ∨ i = 2 ∨ i = 3 ∨ i = 4 ∨ i = 5 by omega) with rfl | rfl | rfl | rfl | rfl | rfl
      · have hat : va_at (zD Z) cls (zB Z + 189, E_RX12 Z (zB Z) E 189) H := hat
        rw [E12_189] at hat
        exact hat
      · have hat : va_at (zD Z) cls (zB Z + 190, E_RX12 Z (zB Z) E 190) H := hat
        rw [E12_190] at hat
        exact hat
      · have hat : va_at (zD Z) cls (zB Z + 191, E_RX12 Z (zB Z) E 191) H := hat
        rw [E12_191] at hat
        exact hat
      · have hat : va_at (zD Z) cls (zB Z + 192, E_RX12 Z (zB Z) E 192) H := hat
        rw [E12_192] at hat
        exact hat
      · have hat : va_at (zD Z) cls (zB Z + 193, E_RX12 Z (zB Z) E 193) H := hat
        rw [E12_193] at hat
        exact hat
      · have hat : va_at (zD Z) cls (zB Z + 194, E_RX12 Z (zB Z) E 194) H := hat
        rw [E12_194] at hat
        exact hat
    | 19, _, hi, hat =>
      obtain rfl : i = 0 := by have hi : i < 1 := hi; omega
      have hat : va_at (zD Z) cls (zB Z + 196, E_RX12 Z (zB Z) E 196) H := hat
      rw [E12_196] at hat
      exact hat
    | 20, _, hi, hat =>
      obtain rfl : i = 0 := by have hi : i < 1 := hi; omega
      have hat : va_at (zD Z) cls (zB Z + 199, E_RX12 Z (zB Z) E 199) H := hat
      rw [E12_199] at hat
      exact va_refs hat (fun q hq => S_f_at q 60 hq)
    | 21, _, hi, hat =>
      have hi : i < 6 := hi
      rcases (show i = 0 ∨ i = 1 ∨ i = 2 ∨ i = 3 ∨ i = 4 ∨ i = 5 by omega) with rfl | rfl | rfl | rfl | rfl | rfl
      · have hat : va_at (zD Z) cls (zB Z + 200, E_RX12 Z (zB Z) E 200) H := hat
        rw [E12_200] at hat
        exact hat
      · have hat : va_at (zD Z) cls (zB Z + 201, E_RX12 Z (zB Z) E 201) H := hat
        rw [E12_201] at hat
        exact hat
      · have hat : va_at (zD Z) cls (zB Z + 202, E_RX12 Z (zB Z) E 202) H := hat
        rw [E12_202] at hat
        exact hat
      · have hat : va_at (zD Z) cls (zB Z + 203, E_RX12 Z (zB Z) E 203) H := hat
        rw [E12_203] at hat
        exact hat
      · have hat : va_at (zD Z) cls (zB Z + 204, E_RX12 Z (zB Z) E 204) H := hat
        rw [E12_204] at hat
        exact hat
      · have hat : va_at (zD Z) cls (zB Z + 205, E_RX12 Z (zB Z) E 205) H := hat
        rw [E12_205] at hat
        exact hat
    | 22, _, hi, hat =>
      obtain rfl : i = 0 := by have hi : i < 1 := hi; omega
      have hat : va_at (zD Z) cls (zB Z + 207, E_RX12 Z (zB Z) E 207) H := hat
      rw [E12_207] at hat
      refine va_refs hat (fun q hq => ?_)
      rw [H_f_at q 8 hq, hA 1 (2 + q) (by show _ < 12; omega) (by decide) (by decide)]
      show _ = some (zB Z + gp (2 + q))
      unfold gp
      rw [if_neg (by omega)]
      congr 1; omega
    | 23, _, hi, hat =>
      obtain rfl : i = 0 := by have hi : i < 1 := hi; omega
      have hat : va_at (zD Z) cls (zB Z + 208, E_RX12 Z (zB Z) E 208) H := hat
      rw [E12_208] at hat
      refine va_refs hat (fun q hq => ?_)
      rw [H_f_at q 2 hq, hA 1 (10 + q) (by show _ < 12; omega) (by decide) (by decide)]
      show _ = some (zB Z + gp (10 + q))
      unfold gp
      rw [if_neg (by omega)]
      congr 1; omega
    | 24, _, hi, hat =>
      obtain rfl : i = 0 := by have hi : i < 1 := hi; omega
      have hat : va_at (zD Z) cls (zB Z + 209, E_RX12 Z (zB Z) E 209) H := hat
      rw [E12_209] at hat
      exact hat
    | 25, _, hi, hat =>
      obtain rfl : i = 0 := by have hi : i < 1 := hi; omega
      have hat : va_at (zD Z) cls (zB Z + 1111, E_RX12 Z (zB Z) E 1111) H := hat
      rw [E12_1111] at hat
      exact hat
    | 11, _, hi, _ => exact absurd hi (Nat.not_lt_zero _)
    | k + 26, kl, _, _ => exact absurd kl (by omega)
