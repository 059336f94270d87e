theorem ln_RX5_9 : Cond.fieldLink RX5 9 RX5 "cells" "[I" ∈ lw_good := li_1 50 (by decide +kernel) (by decide +kernel)
theorem ln_RX5_15 : Cond.fieldLink RX5 15 RX5 "many" "I" ∈ lw_good := li_1 51 (by decide +kernel) (by decide +kernel)
theorem ln_RX5_23 : Cond.methodLink RX5 23 arraycopyName ∈ lw_good := li_2 97 (by decide +kernel) (by decide +kernel)
theorem ln_RX4_9 : Cond.fieldLink RX4 9 RX4 "bytes" "[B" ∈ lw_good := li_2 66 (by decide +kernel) (by decide +kernel)
theorem ln_RX4_15 : Cond.fieldLink RX4 15 RX4 "many" "I" ∈ lw_good := li_2 67 (by decide +kernel) (by decide +kernel)
theorem ln_RX4_54 : Cond.methodLink RX4 54 arraycopyName ∈ lw_good := li_5 115 (by decide +kernel) (by decide +kernel)
theorem fit_b {x : Int} (h : -128 ≤ x ∧ x < 128) : fits .byte (.int (Int32.ofInt x)) = true := by
  obtain ⟨h1, h2⟩ := h
  have h3 : x = ((x + 128).toNat : Int) - 128 := by omega
  rw [h3]
  exact (by decide +kernel : ∀ k : Nat, k < 256 → fits .byte (.int (Int32.ofInt ((k : Int) - 128))) = true) _ (by omega)
theorem stl_ref {j a b : Nat} {lv lv' : List (Nat × Value)} (h : stl j (.ref a) lv = (j, .ref a) :: lv') : stl j (.ref b) lv = (j, .ref b) :: lv' := by
  unfold stl at h ⊢
  exact congrArg (fun z => (j, Value.ref b) :: z) (List.cons.inj h).2
theorem lv_tl {ls : Array Slot} {n : Nat} {q : Nat × Value} {lv : List (Nat × Value)} (h : lv_has ls n (q :: lv)) : lv_has ls n lv := ⟨h.1, h.2.1, fun z hz => h.2.2 z (List.mem_cons_of_mem _ hz)⟩
section GROW2
variable {Z : ZT} {Y : YT} {I0 : Mem} {gr : Nat → Nat} {pc : Nat} {lv : List (Nat × Value)} {st : List Value} {I : Mem} {α : Type} {e : Option (α × Mem)} {κ : α → Mem → Option OT}

/-- a new array in the place of a row's: from the making of it to behind the store -/
theorem wq_growR {r : Nat} {h : Nat} {n n' m' : Int} {lv' : List (Nat × Value)} {f : Mem → Option (α × Mem)} (hr : r < 516) (hY : Y = (yX5_makeRoom, cX5_makeRoom, 4, some .boolean, h)) (hh : 1 ≤ h) (h0 : lv[0]? = some (0, vr Z 2 r)) (hl' : stl 3 (.ref 0) lv = (3, .ref 0) :: lv') (hl0 : lv'[0]? = some (0, vr Z 2 r)) (hn : w32 n = n') (hm : w32 (I 2 r 1) = m') (hg : 0 ≤ n' ∧ n' ≤ 262144 ∧ 0 ≤ m' ∧ m' ≤ I 2 r 2 ∧ m' ≤ n')
    (kk : ∀ (gr' : Nat → Nat) (J : Mem), WQ Z Y I0 gr' 73 lv' [] J (f J) κ) : WQ Z Y I0 gr 51 lv [vi n] I (ltI (grw I 12 2 r n' m') f) κ := by
  subst hY
  intro o ho
  obtain ⟨J, hJ⟩ : ∃ J, J = grw I 12 2 r n' m' := ⟨_, rfl⟩
  have hk := fun gr' => kk gr' J o (by rw [hJ]; exact ho)
  obtain ⟨g1, g2, g3, g4, g5⟩ := hg
  have hJc : J 30 0 0 = I 30 0 0 + 1 := by rw [hJ]; rfl
  have hJs : J 30 0 1 = I 30 0 1 + n' := by rw [hJ]; rfl
  have hc1 : cle I J := ⟨by omega, by omega⟩
  have hc2 := (hk gr).1
  refine ⟨hc1.trans hc2, fun X B hcl H locs ls hH hlo hl => ?_⟩
  have hroom : dC I0 I + 1 = dC I0 J ∧ dS I0 I + n'.toNat = dS I0 J ∧ dC I0 J ≤ dC I0 o.2 ∧ dS I0 J ≤ dS I0 o.2 := by
    unfold dC dS
    obtain ⟨q1, q2⟩ := hcl
    obtain ⟨q3, q4⟩ := hc2
    refine ⟨?_, ?_, ?_, ?_⟩ <;> omega
  obtain ⟨r1, r2, r3, r4⟩ := hroom
  have hw1 := fun w (hw : w ∈ lw_good) => B.2.2.2.2.1 w hw
  have hK := B.2.2.2.2.2.1.1
  have hnn := w_nn hn g1
  have hob := hH.at (k := 2) (i := r) hr
  have hcc : H[gr r]? = some (vp_cell (zC Z 0) ((I 2 r 2).toNat, .inl fun j => Int32.ofInt (I 12 r j))) := hH.at (k := 12) (i := r) hr
  refine va_newaK (atype := .int) B.1 B.2.1 (hw1 _ (li_1 57 (by decide +kernel) (by decide +kernel))) rfl dX5_makeRoom_51 rfl hnn (w_nat hn) (by show n'.toNat * 4 ≤ _; omega) (by show dC I0 I + 1 ≤ dC I0 o.2; omega) (by show dS I0 I + n'.toNat ≤ dS I0 o.2; omega) rfl (fun H1 cA e1 z1 o1 hAr hNm => ?_)
  have hcA : cA = zC Z 0 := Option.some.inj (hNm.symm.trans (hK.2 0 _ rfl).2)
  subst hcA
  obtain ⟨a, ha⟩ : ∃ a : Nat, a = H.size := ⟨_, rfl⟩
  rw [← ha] at e1 z1 o1 ⊢
  have hat1 : va_at (zD Z) cls (zA Z 2 r, .inr (2, [.ref (gr r), vi (I 2 r 1)])) H1 := by
    have q : va_at (zD Z) cls (zA Z 2 r, .inr (2, [.ref (gr r), vi (I 2 r 1)])) H := hob
    exact q.kept (o1 _ (by rw [ha]; exact hob.lt))
  have hl1 : lv_has ls 4 lv := hl
  refine lv_astore_n (lv' := (3, .ref a) :: lv') B.1 B.2.1 dX5_makeRoom_53 rfl hl1 (by decide) (stl_ref hl') (fun ls hl => ?_)
  refine lv_aload_n B.1 B.2.1 dX5_makeRoom_54 rfl (lv_at hl 1 hl0) ?_
  refine va_get (C := RX5) (T := TX5) (N := 2) (ci := 2) (Ts := lw_good) B.1 B.2.1 hw1 in_2 B.2.2.2.1 hK (va_P1 hat1) 0 rfl rfl 0 (by decide) (ref := RX5) (hw1 _ ln_RX5_9) (fun x hx => hx) rfl dX5_makeRoom_55 ?_
  refine lv_iconst (v := Int32.ofInt 0) B.1 B.2.1 dX5_makeRoom_58 rfl ?_
  refine lv_aload_n B.1 B.2.1 dX5_makeRoom_59 rfl (lv_at hl 0 rfl) ?_
  refine lv_iconst (v := Int32.ofInt 0) B.1 B.2.1 dX5_makeRoom_60 rfl ?_
  refine lv_aload_n B.1 B.2.1 dX5_makeRoom_61 rfl (lv_at hl 1 hl0) ?_
  refine va_get (C := RX5) (T := TX5) (N := 2) (ci := 2) (Ts := lw_good) B.1 B.2.1 hw1 in_2 B.2.2.2.1 hK (va_P1 hat1) 0 rfl rfl 1 (by decide) (ref := RX5) (hw1 _ ln_RX5_15) (fun x hx => hx) rfl dX5_makeRoom_62 ?_
  have hne : ∀ k i : Nat, i < ksz k → adG Z gr k i ≠ a := fun k i hi q => by have := (hH.at hi).lt; rw [q, ha] at this; exact Nat.lt_irrefl _ this
  have hgne : gr r ≠ a := hne 12 r hr
  have hc0 : H1[gr r]? = some (vp_cell (zC Z 0) ((I 2 r 2).toNat, .inl fun j => Int32.ofInt (I 12 r j))) := (o1 _ (by rw [ha]; exact (hH.at (k := 12) (i := r) hr).lt)).trans hcc
  have hca : H1[a]? = some (vp_cell (zC Z 0) (n'.toNat, .inl fun _ => Int32.ofInt 0)) := e1
  have hz0 : (Int32.ofInt 0).toNatClampNeg = 0 := by decide
  have hA := (hK.2 0 _ rfl).1
  refine W_acopy B.1 B.2.1 (B.2.2.1.trans hl.1.symm) B.2.2.2.1 (hw1 _ ln_RX5_23) (hw1 _ ac_nat) (hw1 _ ac_stat) (hw1 _ ac_ini) hc0 hca hA hA rfl (by decide) (by decide) (w_nn hm g3) (by rw [hz0, w_nat hm]; omega) (by rw [hz0, w_nat hm]; omega) (fun _ _ => rfl) hh (ac_room (Nat.zero_le _) hh) dX5_makeRoom_65 (fun H2 L e2 z2 o2 hL => ?_)
  have hat2 : va_at (zD Z) cls (zA Z 2 r, .inr (2, [.ref (gr r), vi (I 2 r 1)])) H2 := hat1.kept (o2 _ (hne 2 r hr))
  refine lv_aload_n B.1 B.2.1 dX5_makeRoom_68 rfl (lv_at hl 1 hl0) ?_
  refine lv_aload_n B.1 B.2.1 dX5_makeRoom_69 rfl (lv_at hl 0 rfl) ?_
  -- the store
  have hap := va_apart (own := RX5) hw1 in_2 tyX5 tyX5_ok nmX5 hK (ci := 2) rfl
  obtain ⟨rr, h1, cell, q1, q2, q3, q4⟩ := hat2
  have hr9 : rr = (RX5, TX5, 2) := Option.some.inj (h1.symm.trans rfl)
  subst hr9
  obtain ⟨hS, hfc, kC, hkC, hkind⟩ := hK.1 2 _ rfl
  obtain ⟨cf, kf, fi, fl, hif, hsl⟩ := hS 0 (by decide)
  have hlay := hw1 _ (in_2 _ (u_in_lay (k := 0) (by decide)))
  unfold u_lay at hlay
  rw [if_neg (by decide)] at hlay
  have hst := (u_facts hfc hkC (u_lays hw1 in_2 (k := 0) (by decide)) hif).1
  have h6 := u_store (v := .ref a) hfc hkC hkind hlay hif (tyX5_ok 0 (by decide)) rfl rfl
  refine W.putK B.1 B.2.1 (f := fl) (ref := RX5) ⟨B.2.2.2.1, hw1 _ ln_RX5_9, ⟨_, _, _, hif⟩, hst⟩ (by rw [q2]; exact h6) q1 q3 (by rw [hsl]; exact k2_hasslot (q4 0 (by decide))) rfl rfl dX5_makeRoom_70 fun H3 p1 p2 p3 => ?_
  rw [hsl] at p1 ⊢
  have hat3 : va_at (zD Z) cls (zA Z 2 r, .inr (2, [.ref a, vi (I 2 r 1)])) H3 :=
    ⟨_, rfl, t_OB.to (V := updV (vp_V [.ref (gr r), vi (I 2 r 1)]) 0 (.ref a)) ⟨_, p1, q2, q3, t_set q4 hap (by decide) (.ref a)⟩ (fun j _ => vp_updV_set (k := 0) (Nat.le_of_ble_eq_true rfl) (.ref a) j)⟩
  have haB : zB Z ≤ a := by rw [ha]; exact hH.1.2.1
  have hoa : zA Z 2 r ≠ a := hne 2 r hr
  obtain ⟨gr', hgr1, hgr2⟩ : ∃ gr' : Nat → Nat, gr' r = a ∧ ∀ x : Nat, x ≠ r → gr' x = gr x := ⟨fun x => if x = r then a else gr x, if_pos rfl, fun x hx => if_neg hx⟩
  have hHn : HHA Z gr' J H3 := by
    obtain ⟨⟨b1, b2, b3⟩, b4, b5, b6⟩ := hH
    have hadr : ∀ k i : Nat, i < ksz k → ¬ (k = 12 ∧ i = r) → adG Z gr' k i = adG Z gr k i := fun k i hi q => by
      unfold adG
      by_cases h12 : k = 12
      · rw [if_pos h12, if_pos h12]
        rw [h12] at hi
        have hi : i < 516 := hi
        exact hgr2 i (by exact fun e => q ⟨h12, e⟩)
      · rw [if_neg h12, if_neg h12]
        by_cases h25 : k = 25
        · rw [if_pos h25, if_pos h25]
          rw [h25] at hi
          have hi : i < 1 := hi
          exact hgr2 516 (by omega)
        · rw [if_neg h25, if_neg h25]
    have hadc : adG Z gr' 12 r = a := hgr1
    refine ⟨⟨b1, by rw [p2, z2, z1, ha]; omega, fun q hq => ?_⟩, ?_, ?_, ?_⟩
    · have hqo : q ≠ zA Z 2 r := fun e => by
        have h9 : zB Z ≤ zA Z 2 r := b5 2 r hr
        omega
      rw [p3 q hqo, o2 q (by omega), o1 q (by omega), b3 q hq]
    · intro k i k' i' hi hi' he
      by_cases hq : k = 12 ∧ i = r
      · by_cases hq' : k' = 12 ∧ i' = r
        · exact ⟨hq.1.trans hq'.1.symm, hq.2.trans hq'.2.symm⟩
        · rw [hq.1, hq.2, hadc, hadr k' i' hi' hq'] at he
          exact absurd he.symm (hne k' i' hi')
      · by_cases hq' : k' = 12 ∧ i' = r
        · rw [hq'.1, hq'.2, hadc, hadr k i hi hq] at he
          exact absurd he (hne k i hi)
        · rw [hadr k i hi hq, hadr k' i' hi' hq'] at he
          exact b4 k i k' i' hi hi' he
    · intro k i hi
      by_cases hq : k = 12 ∧ i = r
      · rw [hq.1, hq.2, hadc]; exact haB
      · rw [hadr k i hi hq]; exact b5 k i hi
    · intro k i hi
      by_cases hq : k = 12 ∧ i = r
      · rw [hq.1, hq.2, hadc]
        show H3[a]? = some (vp_cell (zC Z 0) ((J 2 r 2).toNat, .inl fun j => Int32.ofInt (J 12 r j)))
        rw [p3 a (Ne.symm hoa), e2]
        have x1 : J 2 r 2 = n' := by rw [hJ]; unfold grw; rw [if_neg (fun q => absurd q.1 (by decide)), if_pos ⟨rfl, rfl, rfl⟩]
        rw [x1]
        congr 4
        funext q
        rw [hz0, w_nat hm, hJ]
        unfold va_cpy grw
        by_cases hq : q < m'.toNat
        · rw [if_pos (show 0 ≤ q ∧ q < 0 + m'.toNat from ⟨Nat.zero_le _, by omega⟩), if_pos ⟨rfl, rfl⟩, if_pos hq]
          show Int32.ofInt (I 12 r (0 + (q - 0))) = _
          rw [Nat.zero_add, Nat.sub_zero]
        · rw [if_neg (fun z => hq (by omega)), if_pos ⟨rfl, rfl⟩, if_neg hq]
      · by_cases hq2 : k = 2 ∧ i = r
        · have x1 : J 2 r 1 = I 2 r 1 := by rw [hJ]; unfold grw; rw [if_neg (fun q => absurd q.1 (by decide)), if_neg (fun q => absurd q.2.2 (by decide)), if_neg (fun q => absurd q.1 (by decide)), if_neg (fun q => absurd q.1 (by decide))]
          have x2 : ent Z gr' J 2 r = .inr (2, [.ref a, vi (I 2 r 1)]) := by
            show (.inr (2, [.ref (gr' r), vi (J 2 r 1)]) : va_E) = _
            rw [hgr1, x1]
          rw [hq2.1, hq2.2, x2]
          exact hat3
        · have h30 : k ≠ 30 := fun q => by rw [q] at hi; exact absurd hi (by simp [ksz])
          have x3 : ∀ s : Nat, J k i s = I k i s := fun s => by
            rw [hJ]; unfold grw; rw [if_neg hq, if_neg (fun q => hq2 ⟨q.1, q.2.1⟩), if_neg (fun q => h30 q.1), if_neg (fun q => h30 q.1)]
          have x4 : ∀ i' : Nat, ¬ (2 = 2 ∧ i' = r) → J 2 i' 2 = I 2 i' 2 := fun i' h => by
            rw [hJ]; unfold grw; rw [if_neg (fun q => absurd q.1 (by decide)), if_neg (fun q => h ⟨q.1.symm, q.2.1⟩), if_neg (fun q => absurd q.1 (by decide)), if_neg (fun q => absurd q.1 (by decide))]
          have x5 : ¬ (2 = 10) → J 10 0 2 = I 10 0 2 := fun h => by
            rw [hJ]; unfold grw; rw [if_neg (fun q => absurd q.1 (by decide)), if_neg (fun q => h q.1.symm), if_neg (fun q => absurd q.1 (by decide)), if_neg (fun q => absurd q.1 (by decide))]
          have x6 : ent Z gr' J k i = ent Z gr J k i := by
            by_cases h2 : k = 2
            · subst h2
              have hi9 : i < 516 := hi
              show (.inr (2, [.ref (gr' i), vi (J 2 i 1)]) : va_E) = .inr (2, [.ref (gr i), vi (J 2 i 1)])
              rw [hgr2 i (by exact fun e => hq2 ⟨rfl, e⟩)]
            · by_cases h10 : k = 10
              · subst h10
                have hi9 : i < 1 := hi
                show (.inr (10, [.ref (gr' 516), vi (J 10 i 1)]) : va_E) = .inr (10, [.ref (gr 516), vi (J 10 i 1)])
                rw [hgr2 516 (by omega)]
              · unfold ent
                split <;> first | rfl | exact absurd rfl h2 | exact absurd rfl h10
          have x7 : ent Z gr J k i = ent Z gr I k i := ent_congr x3 (fun h12 => x4 i (fun q => hq ⟨h12, q.2⟩)) (fun h25 => x5 (by decide))
          rw [x6, x7, hadr k i hi hq]
          have hlt := (b6 k i hi).lt
          exact (b6 k i hi).kept ((p3 _ (fun q => hq2 (b4 k i 2 r hi hr q))).trans ((o2 _ (hne k i hi)).trans (o1 _ (by rw [ha]; exact hlt))))
  have hfin := (hk gr').2 X B (hcl.trans hc1) H3 ((locs ++ L) ++ [⟨zA Z 2 r, (zD Z).2 2 0⟩]) ls hHn ?_ (lv_tl hl)
  · rw [← r1, ← r2] at hfin
    exact hfin
  · intro q hq
    rcases List.mem_append.mp hq with h | h
    · rcases List.mem_append.mp h with h | h
      · exact hlo q h
      · rw [hL q h]; exact haB
    · cases List.mem_singleton.mp h
      exact hH.2.2.1 2 r hr

/-- a new array in the place of the report's: from the making of it to behind the store -/
theorem wq_growB {h : Nat} {n n' m' : Int} {lv' : List (Nat × Value)} {f : Mem → Option (α × Mem)} (hY : Y = (yX4_put, cX4_put, 3, none, h)) (hh : 1 ≤ h) (h0 : lv[0]? = some (0, vr Z 10 0)) (hl' : stl 2 (.ref 0) lv = (2, .ref 0) :: lv') (hl0 : lv'[0]? = some (0, vr Z 10 0)) (hn : w32 n = n') (hm : w32 (I 10 0 1) = m') (hg : 0 ≤ n' ∧ n' ≤ 262144 ∧ 0 ≤ m' ∧ m' ≤ I 10 0 2 ∧ m' ≤ n' ∧ ∀ s : Nat, s < m'.toNat → -128 ≤ I 25 0 s ∧ I 25 0 s < 128)
    (kk : ∀ (gr' : Nat → Nat) (J : Mem), WQ Z Y I0 gr' 51 lv' [] J (f J) κ) : WQ Z Y I0 gr 29 lv [vi n] I (ltI (grw I 25 10 0 n' m') f) κ := by
  subst hY
  intro o ho
  obtain ⟨J, hJ⟩ : ∃ J, J = grw I 25 10 0 n' m' := ⟨_, rfl⟩
  have hk := fun gr' => kk gr' J o (by rw [hJ]; exact ho)
  obtain ⟨g1, g2, g3, g4, g5, g6⟩ := hg
  have hJc : J 30 0 0 = I 30 0 0 + 1 := by rw [hJ]; rfl
  have hJs : J 30 0 1 = I 30 0 1 + n' := by rw [hJ]; rfl
  have hc1 : cle I J := ⟨by omega, by omega⟩
  have hc2 := (hk gr).1
  refine ⟨hc1.trans hc2, fun X B hcl H locs ls hH hlo hl => ?_⟩
  have hroom : dC I0 I + 1 = dC I0 J ∧ dS I0 I + n'.toNat = dS I0 J ∧ dC I0 J ≤ dC I0 o.2 ∧ dS I0 J ≤ dS I0 o.2 := by
    unfold dC dS
    obtain ⟨q1, q2⟩ := hcl
    obtain ⟨q3, q4⟩ := hc2
    refine ⟨?_, ?_, ?_, ?_⟩ <;> omega
  obtain ⟨r1, r2, r3, r4⟩ := hroom
  have hw1 := fun w (hw : w ∈ lw_good) => B.2.2.2.2.1 w hw
  have hK := B.2.2.2.2.2.1.1
  have hnn := w_nn hn g1
  have hob := hH.at (k := 10) (i := 0) (by decide)
  have hcc : H[gr 516]? = some (vp_cell (zC Z 2) ((I 10 0 2).toNat, .inl fun j => Int32.ofInt (I 25 0 j))) := hH.at (k := 25) (i := 0) (by decide)
  refine va_newaK (atype := .byte) B.1 B.2.1 (hw1 _ (li_2 73 (by decide +kernel) (by decide +kernel))) rfl dX4_put_29 rfl hnn (w_nat hn) (by show n'.toNat * 1 ≤ _; omega) (by show dC I0 I + 1 ≤ dC I0 o.2; omega) (by show dS I0 I + n'.toNat ≤ dS I0 o.2; omega) rfl (fun H1 cA e1 z1 o1 hAr hNm => ?_)
  have hcA : cA = zC Z 2 := Option.some.inj (hNm.symm.trans (hK.2 2 _ rfl).2)
  subst hcA
  obtain ⟨a, ha⟩ : ∃ a : Nat, a = H.size := ⟨_, rfl⟩
  rw [← ha] at e1 z1 o1 ⊢
  have hat1 : va_at (zD Z) cls (zA Z 10 0, .inr (10, [.ref (gr 516), vi (I 10 0 1)])) H1 := by
    have q : va_at (zD Z) cls (zA Z 10 0, .inr (10, [.ref (gr 516), vi (I 10 0 1)])) H := hob
    exact q.kept (o1 _ (by rw [ha]; exact hob.lt))
  have hl1 : lv_has ls 3 lv := hl
  refine lv_astore_n (lv' := (2, .ref a) :: lv') B.1 B.2.1 dX4_put_31 rfl hl1 (by decide) (stl_ref hl') (fun ls hl => ?_)
  refine lv_aload_n B.1 B.2.1 dX4_put_32 rfl (lv_at hl 1 hl0) ?_
  refine va_get (C := RX4) (T := TX4) (N := 2) (ci := 10) (Ts := lw_good) B.1 B.2.1 hw1 in_10 B.2.2.2.1 hK (va_P1 hat1) 0 rfl rfl 0 (by decide) (ref := RX4) (hw1 _ ln_RX4_9) (fun x hx => hx) rfl dX4_put_33 ?_
  refine lv_iconst (v := Int32.ofInt 0) B.1 B.2.1 dX4_put_36 rfl ?_
  refine lv_aload_n B.1 B.2.1 dX4_put_37 rfl (lv_at hl 0 rfl) ?_
  refine lv_iconst (v := Int32.ofInt 0) B.1 B.2.1 dX4_put_38 rfl ?_
  refine lv_aload_n B.1 B.2.1 dX4_put_39 rfl (lv_at hl 1 hl0) ?_
  refine va_get (C := RX4) (T := TX4) (N := 2) (ci := 10) (Ts := lw_good) B.1 B.2.1 hw1 in_10 B.2.2.2.1 hK (va_P1 hat1) 0 rfl rfl 1 (by decide) (ref := RX4) (hw1 _ ln_RX4_15) (fun x hx => hx) rfl dX4_put_40 ?_
  have hne : ∀ k i : Nat, i < ksz k → adG Z gr k i ≠ a := fun k i hi q => by have := (hH.at hi).lt; rw [q, ha] at this; exact Nat.lt_irrefl _ this
  have hgne : gr 516 ≠ a := hne 25 0 (by decide)
  have hc0 : H1[gr 516]? = some (vp_cell (zC Z 2) ((I 10 0 2).toNat, .inl fun j => Int32.ofInt (I 25 0 j))) := (o1 _ (by rw [ha]; exact (hH.at (k := 25) (i := 0) (by decide)).lt)).trans hcc
  have hca : H1[a]? = some (vp_cell (zC Z 2) (n'.toNat, .inl fun _ => Int32.ofInt 0)) := e1
  have hz0 : (Int32.ofInt 0).toNatClampNeg = 0 := by decide
  have hA := (hK.2 2 _ rfl).1
  refine W_acopy B.1 B.2.1 (B.2.2.1.trans hl.1.symm) B.2.2.2.1 (hw1 _ ln_RX4_54) (hw1 _ ac_nat) (hw1 _ ac_stat) (hw1 _ ac_ini) hc0 hca hA hA rfl (by decide) (by decide) (w_nn hm g3) (by rw [hz0, w_nat hm]; omega) (by rw [hz0, w_nat hm]; omega) (fun i hi => by rw [hz0, Nat.zero_add]; exact fit_b (g6 i (by rw [w_nat hm] at hi; exact hi))) hh (ac_room (Nat.zero_le _) hh) dX4_put_43 (fun H2 L e2 z2 o2 hL => ?_)
  have hat2 : va_at (zD Z) cls (zA Z 10 0, .inr (10, [.ref (gr 516), vi (I 10 0 1)])) H2 := hat1.kept (o2 _ (hne 10 0 (by decide)))
  refine lv_aload_n B.1 B.2.1 dX4_put_46 rfl (lv_at hl 1 hl0) ?_
  refine lv_aload_n B.1 B.2.1 dX4_put_47 rfl (lv_at hl 0 rfl) ?_
  -- the store
  have hap := va_apart (own := RX4) hw1 in_10 tyX4 tyX4_ok nmX4 hK (ci := 10) rfl
  obtain ⟨rr, h1, cell, q1, q2, q3, q4⟩ := hat2
  have hr9 : rr = (RX4, TX4, 2) := Option.some.inj (h1.symm.trans rfl)
  subst hr9
  obtain ⟨hS, hfc, kC, hkC, hkind⟩ := hK.1 10 _ rfl
  obtain ⟨cf, kf, fi, fl, hif, hsl⟩ := hS 0 (by decide)
  have hlay := hw1 _ (in_10 _ (u_in_lay (k := 0) (by decide)))
  unfold u_lay at hlay
  rw [if_neg (by decide)] at hlay
  have hst := (u_facts hfc hkC (u_lays hw1 in_10 (k := 0) (by decide)) hif).1
  have h6 := u_store (v := .ref a) hfc hkC hkind hlay hif (tyX4_ok 0 (by decide)) rfl rfl
  refine W.putK B.1 B.2.1 (f := fl) (ref := RX4) ⟨B.2.2.2.1, hw1 _ ln_RX4_9, ⟨_, _, _, hif⟩, hst⟩ (by rw [q2]; exact h6) q1 q3 (by rw [hsl]; exact k2_hasslot (q4 0 (by decide))) rfl rfl dX4_put_48 fun H3 p1 p2 p3 => ?_
  rw [hsl] at p1 ⊢
  have hat3 : va_at (zD Z) cls (zA Z 10 0, .inr (10, [.ref a, vi (I 10 0 1)])) H3 :=
    ⟨_, rfl, t_OB.to (V := updV (vp_V [.ref (gr 516), vi (I 10 0 1)]) 0 (.ref a)) ⟨_, p1, q2, q3, t_set q4 hap (by decide) (.ref a)⟩ (fun j _ => vp_updV_set (k := 0) (Nat.le_of_ble_eq_true rfl) (.ref a) j)⟩
  have haB : zB Z ≤ a := by rw [ha]; exact hH.1.2.1
  have hoa : zA Z 10 0 ≠ a := hne 10 0 (by decide)
  obtain ⟨gr', hgr1, hgr2⟩ : ∃ gr' : Nat → Nat, gr' 516 = a ∧ ∀ x : Nat, x ≠ 516 → gr' x = gr x := ⟨fun x => if x = 516 then a else gr x, if_pos rfl, fun x hx => if_neg hx⟩
  have hHn : HHA Z gr' J H3 := by
    obtain ⟨⟨b1, b2, b3⟩, b4, b5, b6⟩ := hH
    have hadr : ∀ k i : Nat, i < ksz k → ¬ (k = 25 ∧ i = 0) → adG Z gr' k i = adG Z gr k i := fun k i hi q => by
      unfold adG
      by_cases h12 : k = 12
      · rw [if_pos h12, if_pos h12]
        rw [h12] at hi
        have hi : i < 516 := hi
        exact hgr2 i (by omega)
      · rw [if_neg h12, if_neg h12]
        by_cases h25 : k = 25
        · rw [if_pos h25, if_pos h25]
          rw [h25] at hi
          have hi : i < 1 := hi
          exact absurd (Nat.lt_one_iff.mp hi) (fun e => q ⟨h25, e⟩)
        · rw [if_neg h25, if_neg h25]
    have hadc : adG Z gr' 25 0 = a := hgr1
    refine ⟨⟨b1, by rw [p2, z2, z1, ha]; omega, fun q hq => ?_⟩, ?_, ?_, ?_⟩
    · have hqo : q ≠ zA Z 10 0 := fun e => by
        have h9 : zB Z ≤ zA Z 10 0 := b5 10 0 (by decide)
        omega
      rw [p3 q hqo, o2 q (by omega), o1 q (by omega), b3 q hq]
    · intro k i k' i' hi hi' he
      by_cases hq : k = 25 ∧ i = 0
      · by_cases hq' : k' = 25 ∧ i' = 0
        · exact ⟨hq.1.trans hq'.1.symm, hq.2.trans hq'.2.symm⟩
        · rw [hq.1, hq.2, hadc, hadr k' i' hi' hq'] at he
          exact absurd he.symm (hne k' i' hi')
      · by_cases hq' : k' = 25 ∧ i' = 0
        · rw [hq'.1, hq'.2, hadc, hadr k i hi hq] at he
          exact absurd he (hne k i hi)
        · rw [hadr k i hi hq, hadr k' i' hi' hq'] at he
          exact b4 k i k' i' hi hi' he
    · intro k i hi
      by_cases hq : k = 25 ∧ i = 0
      · rw [hq.1, hq.2, hadc]; exact haB
      · rw [hadr k i hi hq]; exact b5 k i hi
    · intro k i hi
      by_cases hq : k = 25 ∧ i = 0
      · rw [hq.1, hq.2, hadc]
        show H3[a]? = some (vp_cell (zC Z 2) ((J 10 0 2).toNat, .inl fun j => Int32.ofInt (J 25 0 j)))
        rw [p3 a (Ne.symm hoa), e2]
        have x1 : J 10 0 2 = n' := by rw [hJ]; unfold grw; rw [if_neg (fun q => absurd q.1 (by decide)), if_pos ⟨rfl, rfl, rfl⟩]
        rw [x1]
        congr 4
        funext q
        rw [hz0, w_nat hm, hJ]
        unfold va_cpy grw
        by_cases hq : q < m'.toNat
        · rw [if_pos (show 0 ≤ q ∧ q < 0 + m'.toNat from ⟨Nat.zero_le _, by omega⟩), if_pos ⟨rfl, rfl⟩, if_pos hq]
          show Int32.ofInt (I 25 0 (0 + (q - 0))) = _
          rw [Nat.zero_add, Nat.sub_zero]
        · rw [if_neg (fun z => hq (by omega)), if_pos ⟨rfl, rfl⟩, if_neg hq]
      · by_cases hq2 : k = 10 ∧ i = 0
        · have x1 : J 10 0 1 = I 10 0 1 := by rw [hJ]; unfold grw; rw [if_neg (fun q => absurd q.1 (by decide)), if_neg (fun q => absurd q.2.2 (by decide)), if_neg (fun q => absurd q.1 (by decide)), if_neg (fun q => absurd q.1 (by decide))]
          have x2 : ent Z gr' J 10 0 = .inr (10, [.ref a, vi (I 10 0 1)]) := by
            show (.inr (10, [.ref (gr' 516), vi (J 10 0 1)]) : va_E) = _
            rw [hgr1, x1]
          rw [hq2.1, hq2.2, x2]
          exact hat3
        · have h30 : k ≠ 30 := fun q => by rw [q] at hi; exact absurd hi (by simp [ksz])
          have x3 : ∀ s : Nat, J k i s = I k i s := fun s => by
            rw [hJ]; unfold grw; rw [if_neg hq, if_neg (fun q => hq2 ⟨q.1, q.2.1⟩), if_neg (fun q => h30 q.1), if_neg (fun q => h30 q.1)]
          have x4 : ∀ i' : Nat, ¬ (10 = 2 ∧ i' = 0) → J 2 i' 2 = I 2 i' 2 := fun i' h => by
            rw [hJ]; unfold grw; rw [if_neg (fun q => absurd q.1 (by decide)), if_neg (fun q => h ⟨q.1.symm, q.2.1⟩), if_neg (fun q => absurd q.1 (by decide)), if_neg (fun q => absurd q.1 (by decide))]
          have x5 : ¬ (10 = 10) → J 10 0 2 = I 10 0 2 := fun h => by
            rw [hJ]; unfold grw; rw [if_neg (fun q => absurd q.1 (by decide)), if_neg (fun q => h q.1.symm), if_neg (fun q => absurd q.1 (by decide)), if_neg (fun q => absurd q.1 (by decide))]
          have x6 : ent Z gr' J k i = ent Z gr J k i := by
            by_cases h2 : k = 2
            · subst h2
              have hi9 : i < 516 := hi
              show (.inr (2, [.ref (gr' i), vi (J 2 i 1)]) : va_E) = .inr (2, [.ref (gr i), vi (J 2 i 1)])
              rw [hgr2 i (by omega)]
            · by_cases h10 : k = 10
              · subst h10
                have hi9 : i < 1 := hi
                show (.inr (10, [.ref (gr' 516), vi (J 10 i 1)]) : va_E) = .inr (10, [.ref (gr 516), vi (J 10 i 1)])
                exact absurd (Nat.lt_one_iff.mp hi9) (fun e => hq2 ⟨rfl, e⟩)
              · unfold ent
                split <;> first | rfl | exact absurd rfl h2 | exact absurd rfl h10
          have x7 : ent Z gr J k i = ent Z gr I k i := ent_congr x3 (fun h12 => x4 i (fun q => absurd q.1 (by decide))) (fun h25 => absurd (Nat.lt_one_iff.mp (by rw [h25] at hi; exact hi)) (fun e => hq ⟨h25, e⟩))
          rw [x6, x7, hadr k i hi hq]
          have hlt := (b6 k i hi).lt
          exact (b6 k i hi).kept ((p3 _ (fun q => hq2 (b4 k i 10 0 hi (by decide) q))).trans ((o2 _ (hne k i hi)).trans (o1 _ (by rw [ha]; exact hlt))))
  have hfin := (hk gr').2 X B (hcl.trans hc1) H3 ((locs ++ L) ++ [⟨zA Z 10 0, (zD Z).2 10 0⟩]) ls hHn ?_ (lv_tl hl)
  · rw [← r1, ← r2] at hfin
    exact hfin
  · intro q hq
    rcases List.mem_append.mp hq with h | h
    · rcases List.mem_append.mp h with h | h
      · exact hlo q h
      · rw [hL q h]; exact haB
    · cases List.mem_singleton.mp h
      exact hH.2.2.1 10 0 (by decide)
end GROW2
