noncomputable def f_M_in (a0 : Int) (a1 : Int) (a2 : Int) (I : Mem) : Option ((Int) × Mem) :=
if (w32 a0) < (w32 a1) then
some (0, I)
else
if (w32 a2) < (w32 a0) then
some (0, I)
else
some (1, I)
set_option maxRecDepth 20000 in
theorem R_M_in (Z : ZT) (a0 : Int) (a1 : Int) (a2 : Int) (I : Mem) (r : Int) (J : Mem) (hf : f_M_in a0 a1 a2 I = some (r, J)) : Runs Z yX13_in cX13_in 3 (some .boolean) 1 [vi a0, vi a1, vi a2] I (some (vi r), J) := by
  refine Runs.of (rv := fun x => some (vi x)) (by decide +kernel) (Nat.le_of_ble_eq_true rfl) hf (fun gr => ?_)
  unfold f_M_in
  refine WQ.loc [0, 1, 2] (lv' := [(0, vi a0), (1, vi a1), (2, vi a2)]) rfl ?_
  refine wq_iload_n dX13_in_0 0 rfl rfl ?_
  refine wq_iload_n dX13_in_1 1 rfl rfl ?_
  refine wq_icmp_lt 14 dX13_in_2 (by decide) rfl rfl (fun c2 => ?_) (fun c2 => ?_)
  · refine wq_iconst dX13_in_14 ?_
    exact wq_zret rfl (by decide) rfl dX13_in_15
  · refine wq_iload_n dX13_in_5 0 rfl rfl ?_
    refine wq_iload_n dX13_in_6 2 rfl rfl ?_
    refine wq_icmp_gt 14 dX13_in_7 (by decide) rfl rfl (fun c1 => ?_) (fun c1 => ?_)
    · refine wq_iconst dX13_in_14 ?_
      exact wq_zret rfl (by decide) rfl dX13_in_15
    · refine wq_iconst dX13_in_10 ?_
      refine wq_goto 15 dX13_in_11 (by decide) ?_
      exact wq_zret rfl (by decide) rfl dX13_in_15

noncomputable def f_M_one (a0 : Int) (I : Mem) : Option ((Int) × Mem) :=
if (w32 a0) = 0 then
some (0, I)
else
some (1, I)
set_option maxRecDepth 20000 in
theorem R_M_one (Z : ZT) (a0 : Int) (I : Mem) (r : Int) (J : Mem) (hf : f_M_one a0 I = some (r, J)) : Runs Z yX13_one cX13_one 1 (some .int) 1 [vi a0] I (some (vi r), J) := by
  refine Runs.of (rv := fun x => some (vi x)) (by decide +kernel) (Nat.le_of_ble_eq_true rfl) hf (fun gr => ?_)
  unfold f_M_one
  refine WQ.loc [0] (lv' := [(0, vi a0)]) rfl ?_
  refine wq_iload_n dX13_one_0 0 rfl rfl ?_
  refine wq_if_eq 8 dX13_one_1 (by decide) rfl (fun c1 => ?_) (fun c1 => ?_)
  · refine wq_iconst dX13_one_8 ?_
    exact wq_iret rfl rfl dX13_one_9
  · refine wq_iconst dX13_one_4 ?_
    refine wq_goto 9 dX13_one_5 (by decide) ?_
    exact wq_iret rfl rfl dX13_one_9

theorem ln_RX13_100 : Cond.fieldLink RX13 100 RX13 "thrown" "I" ∈ lw_good := li_7 61 (by decide +kernel) (by decide +kernel)
noncomputable def f_M_fails_j16    (I : Mem) : Option ((Int) × Mem) :=
if (w32 (I 26 0 7)) = 0 then
some (0, I)
else
some (1, I)

noncomputable def f_M_fails (a1 : Int) (a2 : Int) (I : Mem) : Option ((Int) × Mem) :=
if (w32 (I 26 0 7)) = 0 then
if (w32 a1) = 0 then
f_M_fails_j16 I
else
ltI (sI I 26 0 7 a2) fun J2 =>
f_M_fails_j16 J2
else
f_M_fails_j16 I
set_option maxRecDepth 20000 in
theorem R_M_fails (Z : ZT) (a1 : Int) (a2 : Int) (I : Mem) (r : Int) (J : Mem) (hf : f_M_fails a1 a2 I = some (r, J)) : Runs Z yX13_fails cX13_fails 3 (some .boolean) 1 [vr Z 26 0, vi a1, vi a2] I (some (vi r), J) := by
  refine Runs.of (rv := fun x => some (vi x)) (by decide +kernel) (Nat.le_of_ble_eq_true rfl) hf (fun gr => ?_)
  unfold f_M_fails
  refine WQ.loc [0, 1, 2] (lv' := [(0, vr Z 26 0), (1, vi a1), (2, vi a2)]) rfl ?_
  refine wq_aload_n dX13_fails_0 0 rfl rfl ?_
  refine g_26_7 ln_RX13_100 dX13_fails_1 ?_
  have hj1 : ∀ (gr7 : Nat → Nat)   (J6 : Mem), WQ Z (yX13_fails, cX13_fails, 3, some .boolean, 1) I gr7 16 [(0, vr Z 26 0)] [] J6 (f_M_fails_j16 J6) (fun b K => some (.inl ((fun x => some (vi x)) b), K)) := by
    intro gr7 J6
    unfold f_M_fails_j16
    refine wq_aload_n dX13_fails_16 0 rfl rfl ?_
    refine g_26_7 ln_RX13_100 dX13_fails_17 ?_
    refine wq_if_eq 27 dX13_fails_20 (by decide) rfl (fun c8 => ?_) (fun c8 => ?_)
    · refine wq_iconst dX13_fails_27 ?_
      exact wq_zret rfl (by decide) rfl dX13_fails_28
    · refine wq_iconst dX13_fails_23 ?_
      refine wq_goto 28 dX13_fails_24 (by decide) ?_
      exact wq_zret rfl (by decide) rfl dX13_fails_28
  refine wq_if_ne 16 dX13_fails_4 (by decide) rfl (fun c4 => ?_) (fun c4 => ?_)
  · refine wq_iload_n dX13_fails_7 1 rfl rfl ?_
    refine wq_if_eq 16 dX13_fails_8 (by decide) rfl (fun c3 => ?_) (fun c3 => ?_)
    · exact WQ.loc [0] rfl (hj1 _   _)
    · refine wq_aload_n dX13_fails_11 0 rfl rfl ?_
      refine wq_iload_n dX13_fails_12 2 rfl rfl ?_
      refine p_26_7 ln_RX13_100 dX13_fails_13 (fun J2 => ?_)
      exact WQ.loc [0] rfl (hj1 _   _)
  · exact WQ.loc [0] rfl (hj1 _   _)

noncomputable def f_M_lays_w3 (v0 : Nat) (v1 : Int) (v2 : Nat) (v3 : Int) (s : Int) (I : Mem) : Option (((Int) ⊕ (Unit)) × Mem) :=
if (w32 s) < 16860 then
if 0 ≤ (w32 (v1 + s)) ∧ (w32 (v1 + s)) < ((mLen v0 : Nat) : Int) then
if 0 ≤ (w32 (v3 + s)) ∧ (w32 (v3 + s)) < ((mLen v2 : Nat) : Int) then
ltI (sI I 27 v2 (w32 (v3 + s)).toNat (I 27 v0 (w32 (v1 + s)).toNat)) fun J3 =>
some (.inl (s + 1), J3)
else none
else none
else
some (.inr (), I)

noncomputable def f_M_lays (a0 : Nat) (a1 : Int) (a2 : Nat) (a3 : Int) (I : Mem) : Option ((Unit) × Mem) :=
if a0 < 23 then
if a2 < 23 then
bnd (whl (f_M_lays_w3 a0 a1 a2 a3) 0 I) fun r16 J17 =>
some ((), J17)
else none
else none
set_option maxRecDepth 20000 in
theorem R_M_lays (Z : ZT) (a0 : Nat) (a1 : Int) (a2 : Nat) (a3 : Int) (I : Mem) (r : Unit) (J : Mem) (hf : f_M_lays a0 a1 a2 a3 I = some (r, J)) : Runs Z yX13_lays cX13_lays 5 (none) 1 [vr Z 27 a0, vi a1, vr Z 27 a2, vi a3] I (none, J) := by
  refine Runs.of (rv := fun _ => none) (by decide +kernel) (Nat.le_of_ble_eq_true rfl) hf (fun gr => ?_)
  unfold f_M_lays
  refine WQ.loc [0, 1, 2, 3] (lv' := [(0, vr Z 27 a0), (1, vi a1), (2, vr Z 27 a2), (3, vi a3)]) rfl ?_
  refine wq_grd (fun h0 => ?_)
  refine wq_grd (fun h2 => ?_)
  refine wq_iconst dX13_lays_0 ?_
  refine wq_istore (lv' := [(4, vi 0), (0, vr Z 27 a0), (1, vi a1), (2, vr Z 27 a2), (3, vi a3)]) dX13_lays_1 (by decide) rfl ?_
  refine WQ.loc [1, 2, 3, 4, 0] (lv' := [(0, vr Z 27 a0), (1, vi a1), (2, vr Z 27 a2), (3, vi a3), (4, vi 0)]) rfl ?_
  refine wq_loopS (fun s11 => [(0, vr Z 27 a0), (1, vi a1), (2, vr Z 27 a2), (3, vi a3), (4, vi s11)]) 29 (fun _ => []) (fun κ5 bk6 ex7 gr10 s11 J9 => ?_) (fun gr18 r16 J17 => ?_) gr _ rfl
  · unfold f_M_lays_w3
    refine wq_iload dX13_lays_3 4 rfl ?_
    refine wq_sipush dX13_lays_5 (by decide) ?_
    refine wq_icmp_ge 29 dX13_lays_8 (by decide) rfl rfl (fun c15 => ?_) (fun c15 => ?_)
    · refine wq_aload_n dX13_lays_11 2 rfl rfl ?_
      refine wq_iload_n dX13_lays_12 3 rfl rfl ?_
      refine wq_iload dX13_lays_13 4 rfl ?_
      refine wq_iadd dX13_lays_15 ?_
      refine wq_aload_n dX13_lays_16 0 rfl rfl ?_
      refine wq_iload_n dX13_lays_17 1 rfl rfl ?_
      refine wq_iload dX13_lays_18 4 rfl ?_
      refine wq_iadd dX13_lays_20 ?_
      refine wq_grd (fun g12 => ?_)
      refine wq_iald (k := 27) (i := a0) rfl h0 rfl rfl (m := ((mLen a0 : Nat) : Int)) g12 (Nat.le_of_eq (Int.toNat_natCast _)) dX13_lays_21 ?_
      refine wq_grd (fun g13 => ?_)
      refine wq_iast (k := 27) (i := a2) (fun _ _ => rfl) h2 rfl rfl (m := ((mLen a2 : Nat) : Int)) g13 (Nat.le_of_eq (Int.toNat_natCast _)) (by decide) (by decide) (by decide) dX13_lays_22 (fun J14 => ?_)
      refine wq_iinc (lv' := [(4, vi (s11 + 1)), (0, vr Z 27 a0), (1, vi a1), (2, vr Z 27 a2), (3, vi a3)]) dX13_lays_23 4 rfl (by decide) rfl ?_
      refine wq_goto 3 dX13_lays_26 (by decide) ?_
      exact WQ.loc [1, 2, 3, 4, 0] rfl (bk6 _ _ _)
    · exact WQ.loc [] rfl (ex7 _ _ _)
  · exact wq_vret rfl rfl dX13_lays_29

theorem ln_RX13_9 : Cond.fieldLink RX13 9 RX13 "w" "[I" ∈ lw_good := li_7 54 (by decide +kernel) (by decide +kernel)
noncomputable def f_M_begins_w2  (s : Int) (I : Mem) : Option (((Int) ⊕ (Unit)) × Mem) :=
if (w32 s) < 16860 then
if 0 ≤ (w32 s) ∧ (w32 s) < 16860 then
ltI (sI I 27 0 (w32 s).toNat 0) fun J2 =>
some (.inl (s + 1), J2)
else none
else
some (.inr (), I)

noncomputable def f_M_begins  (I : Mem) : Option ((Unit) × Mem) :=
bnd (whl (f_M_begins_w2) 0 I) fun r14 J15 =>
ltI (sI J15 27 0 0 2) fun J18 =>
ltI (sI J18 27 0 2 1) fun J20 =>
some ((), J20)
set_option maxRecDepth 20000 in
theorem R_M_begins (Z : ZT)  (I : Mem) (r : Unit) (J : Mem) (hf : f_M_begins I = some (r, J)) : Runs Z yX13_begins cX13_begins 2 (none) 1 [vr Z 26 0] I (none, J) := by
  refine Runs.of (rv := fun _ => none) (by decide +kernel) (Nat.le_of_ble_eq_true rfl) hf (fun gr => ?_)
  unfold f_M_begins
  refine WQ.loc [0] (lv' := [(0, vr Z 26 0)]) rfl ?_
  refine wq_iconst dX13_begins_0 ?_
  refine wq_istore_n (lv' := [(1, vi 0), (0, vr Z 26 0)]) dX13_begins_1 rfl (by decide) rfl ?_
  refine WQ.loc [1, 0] (lv' := [(0, vr Z 26 0), (1, vi 0)]) rfl ?_
  refine wq_loopS (fun s10 => [(0, vr Z 26 0), (1, vi s10)]) 22 (fun _ => [(0, vr Z 26 0)]) (fun κ4 bk5 ex6 gr9 s10 J8 => ?_) (fun gr16 r14 J15 => ?_) gr _ rfl
  · unfold f_M_begins_w2
    refine wq_iload_n dX13_begins_2 1 rfl rfl ?_
    refine wq_sipush dX13_begins_3 (by decide) ?_
    refine wq_icmp_ge 22 dX13_begins_6 (by decide) rfl rfl (fun c13 => ?_) (fun c13 => ?_)
    · refine wq_aload_n dX13_begins_9 0 rfl rfl ?_
      refine g_26_0 ln_RX13_9 dX13_begins_10 ?_
      refine wq_iload_n dX13_begins_13 1 rfl rfl ?_
      refine wq_iconst dX13_begins_14 ?_
      refine wq_grd (fun g11 => ?_)
      refine wq_iast (k := 27) (i := 0) (fun _ _ => rfl) (by decide) rfl rfl (m := 16860) g11 (Nat.le_of_ble_eq_true rfl) (by decide) (by decide) (by decide) dX13_begins_15 (fun J12 => ?_)
      refine wq_iinc (lv' := [(1, vi (s10 + 1)), (0, vr Z 26 0)]) dX13_begins_16 1 rfl (by decide) rfl ?_
      refine wq_goto 2 dX13_begins_19 (by decide) ?_
      exact WQ.loc [1, 0] rfl (bk5 _ _ _)
    · exact WQ.loc [0] rfl (ex6 _ _ _)
  · refine wq_aload_n dX13_begins_22 0 rfl rfl ?_
    refine g_26_0 ln_RX13_9 dX13_begins_23 ?_
    refine wq_iconst dX13_begins_26 ?_
    refine wq_iconst dX13_begins_27 ?_
    refine wq_iast (k := 27) (i := 0) (fun _ _ => rfl) (by decide) rfl rfl (m := 16860) (by decide) (Nat.le_of_ble_eq_true rfl) (by decide) (by decide) (by decide) dX13_begins_28 (fun J18 => ?_)
    refine wq_aload_n dX13_begins_29 0 rfl rfl ?_
    refine g_26_0 ln_RX13_9 dX13_begins_30 ?_
    refine wq_iconst dX13_begins_33 ?_
    refine wq_iconst dX13_begins_34 ?_
    refine wq_iast (k := 27) (i := 0) (fun _ _ => rfl) (by decide) rfl rfl (m := 16860) (by decide) (Nat.le_of_ble_eq_true rfl) (by decide) (by decide) (by decide) dX13_begins_35 (fun J20 => ?_)
    exact wq_vret rfl rfl dX13_begins_36

noncomputable def f_M_counts (a1 : Int) (a2 : Int) (I : Mem) : Option ((Unit) × Mem) :=
if 0 ≤ (w32 (6 + a1)) ∧ (w32 (6 + a1)) < 16860 then
ltI (sI I 27 0 (w32 (6 + a1)).toNat ((I 27 0 (w32 (6 + a1)).toNat) + a2)) fun J2 =>
some ((), J2)
else none
set_option maxRecDepth 20000 in
theorem R_M_counts (Z : ZT) (a1 : Int) (a2 : Int) (I : Mem) (r : Unit) (J : Mem) (hf : f_M_counts a1 a2 I = some (r, J)) : Runs Z yX13_counts cX13_counts 3 (none) 1 [vr Z 26 0, vi a1, vi a2] I (none, J) := by
  refine Runs.of (rv := fun _ => none) (by decide +kernel) (Nat.le_of_ble_eq_true rfl) hf (fun gr => ?_)
  unfold f_M_counts
  refine WQ.loc [0, 1, 2] (lv' := [(0, vr Z 26 0), (1, vi a1), (2, vi a2)]) rfl ?_
  refine wq_aload_n dX13_counts_0 0 rfl rfl ?_
  refine g_26_0 ln_RX13_9 dX13_counts_1 ?_
  refine wq_bipush dX13_counts_4 (by decide) ?_
  refine wq_iload_n dX13_counts_6 1 rfl rfl ?_
  refine wq_iadd dX13_counts_7 ?_
  refine wq_dup2 dX13_counts_8 rfl rfl ?_
  refine wq_grd (fun g1 => ?_)
  refine wq_iald (k := 27) (i := 0) rfl (by decide) rfl rfl (m := 16860) g1 (Nat.le_of_ble_eq_true rfl) dX13_counts_9 ?_
  refine wq_iload_n dX13_counts_10 2 rfl rfl ?_
  refine wq_iadd dX13_counts_11 ?_
  refine wq_iast (k := 27) (i := 0) (fun _ _ => rfl) (by decide) rfl rfl (m := 16860) g1 (Nat.le_of_ble_eq_true rfl) (by decide) (by decide) (by decide) dX13_counts_12 (fun J2 => ?_)
  exact wq_vret rfl rfl dX13_counts_13

noncomputable def f_M_many (a1 : Int) (I : Mem) : Option ((Int) × Mem) :=
if 0 ≤ (w32 (16 + a1)) ∧ (w32 (16 + a1)) < 16860 then
some ((I 27 0 (w32 (16 + a1)).toNat), I)
else none
set_option maxRecDepth 20000 in
theorem R_M_many (Z : ZT) (a1 : Int) (I : Mem) (r : Int) (J : Mem) (hf : f_M_many a1 I = some (r, J)) : Runs Z yX13_many cX13_many 2 (some .int) 1 [vr Z 26 0, vi a1] I (some (vi r), J) := by
  refine Runs.of (rv := fun x => some (vi x)) (by decide +kernel) (Nat.le_of_ble_eq_true rfl) hf (fun gr => ?_)
  unfold f_M_many
  refine WQ.loc [0, 1] (lv' := [(0, vr Z 26 0), (1, vi a1)]) rfl ?_
  refine wq_aload_n dX13_many_0 0 rfl rfl ?_
  refine g_26_0 ln_RX13_9 dX13_many_1 ?_
  refine wq_bipush dX13_many_4 (by decide) ?_
  refine wq_iload_n dX13_many_6 1 rfl rfl ?_
  refine wq_iadd dX13_many_7 ?_
  refine wq_grd (fun g1 => ?_)
  refine wq_iald (k := 27) (i := 0) rfl (by decide) rfl rfl (m := 16860) g1 (Nat.le_of_ble_eq_true rfl) dX13_many_8 ?_
  exact wq_iret rfl rfl dX13_many_9

noncomputable def f_M_at (a1 : Int) (a2 : Int) (I : Mem) : Option ((Int) × Mem) :=
if 0 ≤ (w32 ((60 + (400 * a1)) + a2)) ∧ (w32 ((60 + (400 * a1)) + a2)) < 16860 then
some ((I 27 0 (w32 ((60 + (400 * a1)) + a2)).toNat), I)
else none
set_option maxRecDepth 20000 in
theorem R_M_at (Z : ZT) (a1 : Int) (a2 : Int) (I : Mem) (r : Int) (J : Mem) (hf : f_M_at a1 a2 I = some (r, J)) : Runs Z yX13_at cX13_at 3 (some .int) 1 [vr Z 26 0, vi a1, vi a2] I (some (vi r), J) := by
  refine Runs.of (rv := fun x => some (vi x)) (by decide +kernel) (Nat.le_of_ble_eq_true rfl) hf (fun gr => ?_)
  unfold f_M_at
  refine WQ.loc [0, 1, 2] (lv' := [(0, vr Z 26 0), (1, vi a1), (2, vi a2)]) rfl ?_
  refine wq_aload_n dX13_at_0 0 rfl rfl ?_
  refine g_26_0 ln_RX13_9 dX13_at_1 ?_
  refine wq_bipush dX13_at_4 (by decide) ?_
  refine wq_sipush dX13_at_6 (by decide) ?_
  refine wq_iload_n dX13_at_9 1 rfl rfl ?_
  refine wq_imul dX13_at_10 ?_
  refine wq_iadd dX13_at_11 ?_
  refine wq_iload_n dX13_at_12 2 rfl rfl ?_
  refine wq_iadd dX13_at_13 ?_
  refine wq_grd (fun g1 => ?_)
  refine wq_iald (k := 27) (i := 0) rfl (by decide) rfl rfl (m := 16860) g1 (Nat.le_of_ble_eq_true rfl) dX13_at_14 ?_
  exact wq_iret rfl rfl dX13_at_15

noncomputable def f_M_puts (a1 : Int) (a2 : Int) (a3 : Int) (I : Mem) : Option ((Unit) × Mem) :=
if 0 ≤ (w32 ((60 + (400 * a1)) + a2)) ∧ (w32 ((60 + (400 * a1)) + a2)) < 16860 then
ltI (sI I 27 0 (w32 ((60 + (400 * a1)) + a2)).toNat a3) fun J2 =>
some ((), J2)
else none
set_option maxRecDepth 20000 in
theorem R_M_puts (Z : ZT) (a1 : Int) (a2 : Int) (a3 : Int) (I : Mem) (r : Unit) (J : Mem) (hf : f_M_puts a1 a2 a3 I = some (r, J)) : Runs Z yX13_puts cX13_puts 4 (none) 1 [vr Z 26 0, vi a1, vi a2, vi a3] I (none, J) := by
  refine Runs.of (rv := fun _ => none) (by decide +kernel) (Nat.le_of_ble_eq_true rfl) hf (fun gr => ?_)
  unfold f_M_puts
  refine WQ.loc [0, 1, 2, 3] (lv' := [(0, vr Z 26 0), (1, vi a1), (2, vi a2), (3, vi a3)]) rfl ?_
  refine wq_aload_n dX13_puts_0 0 rfl rfl ?_
  refine g_26_0 ln_RX13_9 dX13_puts_1 ?_
  refine wq_bipush dX13_puts_4 (by decide) ?_
  refine wq_sipush dX13_puts_6 (by decide) ?_
  refine wq_iload_n dX13_puts_9 1 rfl rfl ?_
  refine wq_imul dX13_puts_10 ?_
  refine wq_iadd dX13_puts_11 ?_
  refine wq_iload_n dX13_puts_12 2 rfl rfl ?_
  refine wq_iadd dX13_puts_13 ?_
  refine wq_iload_n dX13_puts_14 3 rfl rfl ?_
  refine wq_grd (fun g1 => ?_)
  refine wq_iast (k := 27) (i := 0) (fun _ _ => rfl) (by decide) rfl rfl (m := 16860) g1 (Nat.le_of_ble_eq_true rfl) (by decide) (by decide) (by decide) dX13_puts_15 (fun J2 => ?_)
  exact wq_vret rfl rfl dX13_puts_16

theorem M_M_many : MwV yX13_many cX13_many 2 (some .int) 1 := ⟨li_7 26 (by decide +kernel) (by decide +kernel), li_7 25 (by decide +kernel) (by decide +kernel), lw_in 49 (by decide +kernel) (by decide +kernel), li_1 16 (by decide +kernel) (by decide +kernel), by decide +kernel⟩
theorem M_M_puts : MwV yX13_puts cX13_puts 4 (none) 3 := ⟨li_7 30 (by decide +kernel) (by decide +kernel), li_7 29 (by decide +kernel) (by decide +kernel), lw_in 50 (by decide +kernel) (by decide +kernel), li_1 16 (by decide +kernel) (by decide +kernel), by decide +kernel⟩
theorem ln_RX13_107 : Cond.methodLink RX13 107 yX13_puts ∈ lw_good := li_7 27 (by decide +kernel) (by decide +kernel)
theorem ln_RX13_103 : Cond.methodLink RX13 103 yX13_many ∈ lw_good := li_7 23 (by decide +kernel) (by decide +kernel)
noncomputable def f_M_adds (a1 : Int) (a2 : Int) (I : Mem) : Option ((Unit) × Mem) :=
bnd (f_M_many a1 I) fun x3 J2 =>
bnd (f_M_puts a1 x3 a2 J2) fun _ J5 =>
if 0 ≤ (w32 (16 + a1)) ∧ (w32 (16 + a1)) < 16860 then
ltI (sI J5 27 0 (w32 (16 + a1)).toNat ((J5 27 0 (w32 (16 + a1)).toNat) + 1)) fun J8 =>
some ((), J8)
else none
set_option maxRecDepth 20000 in
theorem R_M_adds (Z : ZT) (a1 : Int) (a2 : Int) (I : Mem) (r : Unit) (J : Mem) (hf : f_M_adds a1 a2 I = some (r, J)) : Runs Z yX13_adds cX13_adds 3 (none) 2 [vr Z 26 0, vi a1, vi a2] I (none, J) := by
  refine Runs.of (rv := fun _ => none) (by decide +kernel) (Nat.le_of_ble_eq_true rfl) hf (fun gr => ?_)
  unfold f_M_adds
  refine WQ.loc [0, 1, 2] (lv' := [(0, vr Z 26 0), (1, vi a1), (2, vi a2)]) rfl ?_
  refine wq_aload_n dX13_adds_0 0 rfl rfl ?_
  refine wq_iload_n dX13_adds_1 1 rfl rfl ?_
  refine wq_aload_n dX13_adds_2 0 rfl rfl ?_
  refine wq_iload_n dX13_adds_3 1 rfl rfl ?_
  refine wq_cVi M_M_many (R_M_many Z a1 _) ob_26 rfl rfl (by decide) (by decide) (Nat.le_of_ble_eq_true rfl) ln_RX13_103 dX13_adds_4 (fun gr1 x3 J2 => ?_)
  refine wq_iload_n dX13_adds_7 2 rfl rfl ?_
  refine wq_cVv M_M_puts (R_M_puts Z a1 x3 a2 _) ob_26 rfl rfl (by decide) (by decide) (Nat.le_of_ble_eq_true rfl) ln_RX13_107 dX13_adds_8 (fun gr4 _ J5 => ?_)
  refine wq_aload_n dX13_adds_11 0 rfl rfl ?_
  refine g_26_0 ln_RX13_9 dX13_adds_12 ?_
  refine wq_bipush dX13_adds_15 (by decide) ?_
  refine wq_iload_n dX13_adds_17 1 rfl rfl ?_
  refine wq_iadd dX13_adds_18 ?_
  refine wq_dup2 dX13_adds_19 rfl rfl ?_
  refine wq_grd (fun g7 => ?_)
  refine wq_iald (k := 27) (i := 0) rfl (by decide) rfl rfl (m := 16860) g7 (Nat.le_of_ble_eq_true rfl) dX13_adds_20 ?_
  refine wq_iconst dX13_adds_21 ?_
  refine wq_iadd dX13_adds_22 ?_
  refine wq_iast (k := 27) (i := 0) (fun _ _ => rfl) (by decide) rfl rfl (m := 16860) g7 (Nat.le_of_ble_eq_true rfl) (by decide) (by decide) (by decide) dX13_adds_23 (fun J8 => ?_)
  exact wq_vret rfl rfl dX13_adds_24

noncomputable def f_M_isHere (a1 : Int) (I : Mem) : Option ((Int) × Mem) :=
bnd (f_M_many (a1 + 1) I) fun x3 J2 =>
if 0 < (w32 x3) then
some (1, J2)
else
some (0, J2)
set_option maxRecDepth 20000 in
theorem R_M_isHere (Z : ZT) (a1 : Int) (I : Mem) (r : Int) (J : Mem) (hf : f_M_isHere a1 I = some (r, J)) : Runs Z yX13_isHere cX13_isHere 2 (some .boolean) 2 [vr Z 26 0, vi a1] I (some (vi r), J) := by
  refine Runs.of (rv := fun x => some (vi x)) (by decide +kernel) (Nat.le_of_ble_eq_true rfl) hf (fun gr => ?_)
  unfold f_M_isHere
  refine WQ.loc [0, 1] (lv' := [(0, vr Z 26 0), (1, vi a1)]) rfl ?_
  refine wq_aload_n dX13_isHere_0 0 rfl rfl ?_
  refine wq_iload_n dX13_isHere_1 1 rfl rfl ?_
  refine wq_iconst dX13_isHere_2 ?_
  refine wq_iadd dX13_isHere_3 ?_
  refine wq_cVi M_M_many (R_M_many Z (a1 + 1) _) ob_26 rfl rfl (by decide) (by decide) (Nat.le_of_ble_eq_true rfl) ln_RX13_103 dX13_isHere_4 (fun gr1 x3 J2 => ?_)
  refine wq_if_le 14 dX13_isHere_7 (by decide) rfl (fun c4 => ?_) (fun c4 => ?_)
  · refine wq_iconst dX13_isHere_10 ?_
    refine wq_goto 15 dX13_isHere_11 (by decide) ?_
    exact wq_zret rfl (by decide) rfl dX13_isHere_15
  · refine wq_iconst dX13_isHere_14 ?_
    exact wq_zret rfl (by decide) rfl dX13_isHere_15

theorem M_M_isHere : MwV yX13_isHere cX13_isHere 2 (some .boolean) 1 := ⟨li_7 50 (by decide +kernel) (by decide +kernel), li_7 49 (by decide +kernel) (by decide +kernel), lw_in 55 (by decide +kernel) (by decide +kernel), li_1 16 (by decide +kernel) (by decide +kernel), by decide +kernel⟩
theorem ln_RX13_111 : Cond.methodLink RX13 111 yX13_isHere ∈ lw_good := li_7 47 (by decide +kernel) (by decide +kernel)
noncomputable def f_M_isSymbol (a1 : Int) (I : Mem) : Option ((Int) × Mem) :=
if (w32 a1) < 26 then
some (1, I)
else
bnd (f_M_isHere (a1 - 26) I) fun x3 J2 =>
if (w32 x3) = 0 then
some (0, J2)
else
some (1, J2)
set_option maxRecDepth 20000 in
theorem R_M_isSymbol (Z : ZT) (a1 : Int) (I : Mem) (r : Int) (J : Mem) (hf : f_M_isSymbol a1 I = some (r, J)) : Runs Z yX13_isSymbol cX13_isSymbol 2 (some .boolean) 3 [vr Z 26 0, vi a1] I (some (vi r), J) := by
  refine Runs.of (rv := fun x => some (vi x)) (by decide +kernel) (Nat.le_of_ble_eq_true rfl) hf (fun gr => ?_)
  unfold f_M_isSymbol
  refine WQ.loc [0, 1] (lv' := [(0, vr Z 26 0), (1, vi a1)]) rfl ?_
  refine wq_iload_n dX13_isSymbol_0 1 rfl rfl ?_
  refine wq_bipush dX13_isSymbol_1 (by decide) ?_
  refine wq_icmp_lt 17 dX13_isSymbol_3 (by decide) rfl rfl (fun c5 => ?_) (fun c5 => ?_)
  · refine wq_iconst dX13_isSymbol_17 ?_
    refine wq_goto 22 dX13_isSymbol_18 (by decide) ?_
    exact wq_zret rfl (by decide) rfl dX13_isSymbol_22
  · refine wq_aload_n dX13_isSymbol_6 0 rfl rfl ?_
    refine wq_iload_n dX13_isSymbol_7 1 rfl rfl ?_
    refine wq_bipush dX13_isSymbol_8 (by decide) ?_
    refine wq_isub dX13_isSymbol_10 ?_
    refine wq_cVi M_M_isHere (R_M_isHere Z (a1 - 26) _) ob_26 rfl rfl (by decide) (by decide) (Nat.le_of_ble_eq_true rfl) ln_RX13_111 dX13_isSymbol_11 (fun gr1 x3 J2 => ?_)
    refine wq_if_eq 21 dX13_isSymbol_14 (by decide) rfl (fun c4 => ?_) (fun c4 => ?_)
    · refine wq_iconst dX13_isSymbol_21 ?_
      exact wq_zret rfl (by decide) rfl dX13_isSymbol_22
    · refine wq_iconst dX13_isSymbol_17 ?_
      refine wq_goto 22 dX13_isSymbol_18 (by decide) ?_
      exact wq_zret rfl (by decide) rfl dX13_isSymbol_22

theorem M_M_one : MwS yX13_one cX13_one 1 (some .int) 1 := ⟨li_7 53 (by decide +kernel) (by decide +kernel), li_7 52 (by decide +kernel) (by decide +kernel), li_1 16 (by decide +kernel) (by decide +kernel), by decide +kernel⟩
theorem ln_RX13_115 : Cond.methodLink RX13 115 yX13_one ∈ lw_good := li_7 51 (by decide +kernel) (by decide +kernel)
noncomputable def f_M_rules_w4  (s : Int × Int) (I : Mem) : Option (((Int × Int) ⊕ (Int)) × Mem) :=
if (w32 s.2) < 40 then
bnd (f_M_isHere s.2 I) fun x3 J2 =>
bnd (f_M_one x3 J2) fun x6 J5 =>
some (.inl ((s.1 + x6), (s.2 + 1)), J5)
else
some (.inr s.1, I)

noncomputable def f_M_rules  (I : Mem) : Option ((Int) × Mem) :=
bnd (whl (f_M_rules_w4) (0, 0) I) fun r22 J23 =>
some (r22, J23)
set_option maxRecDepth 20000 in
theorem R_M_rules (Z : ZT)  (I : Mem) (r : Int) (J : Mem) (hf : f_M_rules I = some (r, J)) : Runs Z yX13_rules cX13_rules 3 (some .int) 3 [vr Z 26 0] I (some (vi r), J) := by
  refine Runs.of (rv := fun x => some (vi x)) (by decide +kernel) (Nat.le_of_ble_eq_true rfl) hf (fun gr => ?_)
  unfold f_M_rules
  refine WQ.loc [0] (lv' := [(0, vr Z 26 0)]) rfl ?_
  refine wq_iconst dX13_rules_0 ?_
  refine wq_istore_n (lv' := [(1, vi 0), (0, vr Z 26 0)]) dX13_rules_1 rfl (by decide) rfl ?_
  refine wq_iconst dX13_rules_2 ?_
  refine wq_istore_n (lv' := [(2, vi 0), (1, vi 0), (0, vr Z 26 0)]) dX13_rules_3 rfl (by decide) rfl ?_
  refine WQ.loc [2, 1, 0] (lv' := [(0, vr Z 26 0), (1, vi 0), (2, vi 0)]) rfl ?_
  refine wq_loopS (fun s14 => [(0, vr Z 26 0), (1, vi s14.1), (2, vi s14.2)]) 27 (fun r22 => [(1, vi r22)]) (fun κ8 bk9 ex10 gr13 s14 J12 => ?_) (fun gr24 r22 J23 => ?_) gr _ rfl
  · unfold f_M_rules_w4
    refine wq_iload_n dX13_rules_4 2 rfl rfl ?_
    refine wq_bipush dX13_rules_5 (by decide) ?_
    refine wq_icmp_ge 27 dX13_rules_7 (by decide) rfl rfl (fun c21 => ?_) (fun c21 => ?_)
    · refine wq_iload_n dX13_rules_10 1 rfl rfl ?_
      refine wq_aload_n dX13_rules_11 0 rfl rfl ?_
      refine wq_iload_n dX13_rules_12 2 rfl rfl ?_
      refine wq_cVi M_M_isHere (R_M_isHere Z s14.2 _) ob_26 rfl rfl (by decide) (by decide) (Nat.le_of_ble_eq_true rfl) ln_RX13_111 dX13_rules_13 (fun gr15 x17 J16 => ?_)
      refine wq_cSi M_M_one (R_M_one Z x17 _) rfl rfl rfl (by decide) (by decide) (Nat.le_of_ble_eq_true rfl) ln_RX13_115 dX13_rules_16 (fun gr18 x20 J19 => ?_)
      refine wq_iadd dX13_rules_19 ?_
      refine wq_istore_n (lv' := [(1, vi (s14.1 + x20)), (0, vr Z 26 0), (2, vi s14.2)]) dX13_rules_20 rfl (by decide) rfl ?_
      refine wq_iinc (lv' := [(2, vi (s14.2 + 1)), (1, vi (s14.1 + x20)), (0, vr Z 26 0)]) dX13_rules_21 2 rfl (by decide) rfl ?_
      refine wq_goto 4 dX13_rules_24 (by decide) ?_
      exact WQ.loc [2, 1, 0] rfl (bk9 _ _ _)
    · exact WQ.loc [1] rfl (ex10 _ _ _)
  · refine wq_iload_n dX13_rules_27 0 rfl rfl ?_
    exact wq_iret rfl rfl dX13_rules_28

noncomputable def f_M_sizeNow_w4  (s : Int × Int) (I : Mem) : Option (((Int × Int) ⊕ (Int)) × Mem) :=
if (w32 s.2) < 41 then
bnd (f_M_many s.2 I) fun x3 J2 =>
some (.inl ((s.1 + x3), (s.2 + 1)), J2)
else
some (.inr s.1, I)

noncomputable def f_M_sizeNow  (I : Mem) : Option ((Int) × Mem) :=
bnd (whl (f_M_sizeNow_w4) (0, 0) I) fun r16 J17 =>
some (r16, J17)
set_option maxRecDepth 20000 in
theorem R_M_sizeNow (Z : ZT)  (I : Mem) (r : Int) (J : Mem) (hf : f_M_sizeNow I = some (r, J)) : Runs Z yX13_sizeNow cX13_sizeNow 3 (some .int) 2 [vr Z 26 0] I (some (vi r), J) := by
  refine Runs.of (rv := fun x => some (vi x)) (by decide +kernel) (Nat.le_of_ble_eq_true rfl) hf (fun gr => ?_)
  unfold f_M_sizeNow
  refine WQ.loc [0] (lv' := [(0, vr Z 26 0)]) rfl ?_
  refine wq_iconst dX13_sizeNow_0 ?_
  refine wq_istore_n (lv' := [(1, vi 0), (0, vr Z 26 0)]) dX13_sizeNow_1 rfl (by decide) rfl ?_
  refine wq_iconst dX13_sizeNow_2 ?_
  refine wq_istore_n (lv' := [(2, vi 0), (1, vi 0), (0, vr Z 26 0)]) dX13_sizeNow_3 rfl (by decide) rfl ?_
  refine WQ.loc [2, 1, 0] (lv' := [(0, vr Z 26 0), (1, vi 0), (2, vi 0)]) rfl ?_
  refine wq_loopS (fun s11 => [(0, vr Z 26 0), (1, vi s11.1), (2, vi s11.2)]) 24 (fun r16 => [(1, vi r16)]) (fun κ5 bk6 ex7 gr10 s11 J9 => ?_) (fun gr18 r16 J17 => ?_) gr _ rfl
  · unfold f_M_sizeNow_w4
    refine wq_iload_n dX13_sizeNow_4 2 rfl rfl ?_
    refine wq_bipush dX13_sizeNow_5 (by decide) ?_
    refine wq_icmp_ge 24 dX13_sizeNow_7 (by decide) rfl rfl (fun c15 => ?_) (fun c15 => ?_)
    · refine wq_iload_n dX13_sizeNow_10 1 rfl rfl ?_
      refine wq_aload_n dX13_sizeNow_11 0 rfl rfl ?_
      refine wq_iload_n dX13_sizeNow_12 2 rfl rfl ?_
      refine wq_cVi M_M_many (R_M_many Z s11.2 _) ob_26 rfl rfl (by decide) (by decide) (Nat.le_of_ble_eq_true rfl) ln_RX13_103 dX13_sizeNow_13 (fun gr12 x14 J13 => ?_)
      refine wq_iadd dX13_sizeNow_16 ?_
      refine wq_istore_n (lv' := [(1, vi (s11.1 + x14)), (0, vr Z 26 0), (2, vi s11.2)]) dX13_sizeNow_17 rfl (by decide) rfl ?_
      refine wq_iinc (lv' := [(2, vi (s11.2 + 1)), (1, vi (s11.1 + x14)), (0, vr Z 26 0)]) dX13_sizeNow_18 2 rfl (by decide) rfl ?_
      refine wq_goto 4 dX13_sizeNow_21 (by decide) ?_
      exact WQ.loc [2, 1, 0] rfl (bk6 _ _ _)
    · exact WQ.loc [1] rfl (ex7 _ _ _)
  · refine wq_iload_n dX13_sizeNow_24 0 rfl rfl ?_
    exact wq_iret rfl rfl dX13_sizeNow_25

noncomputable def f_M_freeRule_w2  (s : Int) (I : Mem) : Option (((Int) ⊕ (Int)) × Mem) :=
if (w32 s) < 40 then
bnd (f_M_isHere s I) fun x3 J2 =>
if (w32 x3) = 0 then
some (.inr (s), J2)
else
some (.inl (s + 1), J2)
else
some (.inr ((-1)), I)

noncomputable def f_M_freeRule  (I : Mem) : Option ((Int) × Mem) :=
whl (f_M_freeRule_w2) 0 I
set_option maxRecDepth 20000 in
theorem R_M_freeRule (Z : ZT)  (I : Mem) (r : Int) (J : Mem) (hf : f_M_freeRule I = some (r, J)) : Runs Z yX13_freeRule cX13_freeRule 2 (some .int) 3 [vr Z 26 0] I (some (vi r), J) := by
  refine Runs.of (rv := fun x => some (vi x)) (by decide +kernel) (Nat.le_of_ble_eq_true rfl) hf (fun gr => ?_)
  unfold f_M_freeRule
  refine WQ.loc [0] (lv' := [(0, vr Z 26 0)]) rfl ?_
  refine wq_iconst dX13_freeRule_0 ?_
  refine wq_istore_n (lv' := [(1, vi 0), (0, vr Z 26 0)]) dX13_freeRule_1 rfl (by decide) rfl ?_
  refine WQ.loc [1, 0] (lv' := [(0, vr Z 26 0), (1, vi 0)]) rfl ?_
  refine wq_loop (fun s12 => [(0, vr Z 26 0), (1, vi s12)]) (fun κ6 bk7 hr9 gr11 s12 J10 => ?_) gr _ rfl
  unfold f_M_freeRule_w2
  refine wq_iload_n dX13_freeRule_2 1 rfl rfl ?_
  refine wq_bipush dX13_freeRule_3 (by decide) ?_
  refine wq_icmp_ge 24 dX13_freeRule_5 (by decide) rfl rfl (fun c17 => ?_) (fun c17 => ?_)
  · refine wq_aload_n dX13_freeRule_8 0 rfl rfl ?_
    refine wq_iload_n dX13_freeRule_9 1 rfl rfl ?_
    refine wq_cVi M_M_isHere (R_M_isHere Z s12 _) ob_26 rfl rfl (by decide) (by decide) (Nat.le_of_ble_eq_true rfl) ln_RX13_111 dX13_freeRule_10 (fun gr13 x15 J14 => ?_)
    refine wq_if_ne 18 dX13_freeRule_13 (by decide) rfl (fun c16 => ?_) (fun c16 => ?_)
    · refine wq_iload_n dX13_freeRule_16 1 rfl rfl ?_
      exact wq_iret rfl ((hr9 _ _).trans rfl) dX13_freeRule_17
    · refine wq_iinc (lv' := [(1, vi (s12 + 1)), (0, vr Z 26 0)]) dX13_freeRule_18 1 rfl (by decide) rfl ?_
      refine wq_goto 2 dX13_freeRule_21 (by decide) ?_
      exact WQ.loc [1, 0] rfl (bk7 _ _ _)
  · refine wq_iconst dX13_freeRule_24 ?_
    exact wq_iret rfl ((hr9 _ _).trans rfl) dX13_freeRule_25

noncomputable def f_M_removes (a1 : Int) (I : Mem) : Option ((Unit) × Mem) :=
if 0 ≤ (w32 ((16 + a1) + 1)) ∧ (w32 ((16 + a1) + 1)) < 16860 then
ltI (sI I 27 0 (w32 ((16 + a1) + 1)).toNat 0) fun J2 =>
some ((), J2)
else none
set_option maxRecDepth 20000 in
theorem R_M_removes (Z : ZT) (a1 : Int) (I : Mem) (r : Unit) (J : Mem) (hf : f_M_removes a1 I = some (r, J)) : Runs Z yX13_removes cX13_removes 2 (none) 1 [vr Z 26 0, vi a1] I (none, J) := by
  refine Runs.of (rv := fun _ => none) (by decide +kernel) (Nat.le_of_ble_eq_true rfl) hf (fun gr => ?_)
  unfold f_M_removes
  refine WQ.loc [0, 1] (lv' := [(0, vr Z 26 0), (1, vi a1)]) rfl ?_
  refine wq_aload_n dX13_removes_0 0 rfl rfl ?_
  refine g_26_0 ln_RX13_9 dX13_removes_1 ?_
  refine wq_bipush dX13_removes_4 (by decide) ?_
  refine wq_iload_n dX13_removes_6 1 rfl rfl ?_
  refine wq_iadd dX13_removes_7 ?_
  refine wq_iconst dX13_removes_8 ?_
  refine wq_iadd dX13_removes_9 ?_
  refine wq_iconst dX13_removes_10 ?_
  refine wq_grd (fun g1 => ?_)
  refine wq_iast (k := 27) (i := 0) (fun _ _ => rfl) (by decide) rfl rfl (m := 16860) g1 (Nat.le_of_ble_eq_true rfl) (by decide) (by decide) (by decide) dX13_removes_11 (fun J2 => ?_)
  exact wq_vret rfl rfl dX13_removes_12

theorem M_M_at : MwV yX13_at cX13_at 3 (some .int) 2 := ⟨li_7 42 (by decide +kernel) (by decide +kernel), li_7 41 (by decide +kernel) (by decide +kernel), lw_in 53 (by decide +kernel) (by decide +kernel), li_1 16 (by decide +kernel) (by decide +kernel), by decide +kernel⟩
theorem ln_RX13_119 : Cond.methodLink RX13 119 yX13_at ∈ lw_good := li_7 39 (by decide +kernel) (by decide +kernel)
noncomputable def f_M_opens_w20 (v1 : Int) (v2 : Int) (v3 : Int) (v4 : Int) (s : Int) (I : Mem) : Option (((Int) ⊕ (Unit)) × Mem) :=
if (w32 v2) < (w32 s) then
bnd (f_M_at v1 s I) fun x9 J8 =>
bnd (f_M_puts v1 (s + v4) x9 J8) fun _ J11 =>
some (.inl (s + (-1)), J11)
else
some (.inr (), I)

noncomputable def f_M_opens_w52 (v1 : Int) (v2 : Int) (v3 : Int) (v4 : Int) (s : Int) (I : Mem) : Option (((Int) ⊕ (Unit)) × Mem) :=
if (w32 v4) < (w32 s) then
some (.inr (), I)
else
bnd (f_M_at (v3 + 1) s I) fun x33 J32 =>
bnd (f_M_puts v1 (v2 + s) x33 J32) fun _ J35 =>
some (.inl (s + 1), J35)

noncomputable def f_M_opens (a1 : Int) (a2 : Int) (a3 : Int) (I : Mem) : Option ((Unit) × Mem) :=
bnd (f_M_many (a3 + 1) I) fun x3 J2 =>
bnd (f_M_many a1 J2) fun x6 J5 =>
bnd (whl (f_M_opens_w20 a1 a2 a3 (x3 - 1)) (x6 - 1) J5) fun r28 J29 =>
bnd (whl (f_M_opens_w52 a1 a2 a3 (x3 - 1)) 0 J29) fun r52 J53 =>
if 0 ≤ (w32 (16 + a1)) ∧ (w32 (16 + a1)) < 16860 then
ltI (sI J53 27 0 (w32 (16 + a1)).toNat ((J53 27 0 (w32 (16 + a1)).toNat) + (x3 - 1))) fun J56 =>
some ((), J56)
else none
set_option maxRecDepth 20000 in
theorem R_M_opens (Z : ZT) (a1 : Int) (a2 : Int) (a3 : Int) (I : Mem) (r : Unit) (J : Mem) (hf : f_M_opens a1 a2 a3 I = some (r, J)) : Runs Z yX13_opens cX13_opens 6 (none) 2 [vr Z 26 0, vi a1, vi a2, vi a3] I (none, J) := by
  refine Runs.of (rv := fun _ => none) (by decide +kernel) (Nat.le_of_ble_eq_true rfl) hf (fun gr => ?_)
  unfold f_M_opens
  refine WQ.loc [0, 1, 2, 3] (lv' := [(0, vr Z 26 0), (1, vi a1), (2, vi a2), (3, vi a3)]) rfl ?_
  refine wq_aload_n dX13_opens_0 0 rfl rfl ?_
  refine wq_iload_n dX13_opens_1 3 rfl rfl ?_
  refine wq_iconst dX13_opens_2 ?_
  refine wq_iadd dX13_opens_3 ?_
  refine wq_cVi M_M_many (R_M_many Z (a3 + 1) _) ob_26 rfl rfl (by decide) (by decide) (Nat.le_of_ble_eq_true rfl) ln_RX13_103 dX13_opens_4 (fun gr1 x3 J2 => ?_)
  refine wq_iconst dX13_opens_7 ?_
  refine wq_isub dX13_opens_8 ?_
  refine wq_istore (lv' := [(4, vi (x3 - 1)), (0, vr Z 26 0), (1, vi a1), (2, vi a2), (3, vi a3)]) dX13_opens_9 (by decide) rfl ?_
  refine wq_aload_n dX13_opens_11 1 rfl rfl ?_
  refine wq_iload_n dX13_opens_12 2 rfl rfl ?_
  refine wq_cVi M_M_many (R_M_many Z a1 _) ob_26 rfl rfl (by decide) (by decide) (Nat.le_of_ble_eq_true rfl) ln_RX13_103 dX13_opens_13 (fun gr4 x6 J5 => ?_)
  refine wq_iconst dX13_opens_16 ?_
  refine wq_isub dX13_opens_17 ?_
  refine wq_istore (lv' := [(5, vi (x6 - 1)), (4, vi (x3 - 1)), (0, vr Z 26 0), (1, vi a1), (2, vi a2), (3, vi a3)]) dX13_opens_18 (by decide) rfl ?_
  refine WQ.loc [2, 3, 4, 5, 1, 0] (lv' := [(0, vr Z 26 0), (1, vi a1), (2, vi a2), (3, vi a3), (4, vi (x3 - 1)), (5, vi (x6 - 1))]) rfl ?_
  refine wq_loopS (fun s20 => [(0, vr Z 26 0), (1, vi a1), (2, vi a2), (3, vi a3), (4, vi (x3 - 1)), (5, vi s20)]) 49 (fun _ => [(0, vr Z 26 0), (1, vi a1), (2, vi a2), (3, vi a3), (4, vi (x3 - 1))]) (fun κ14 bk15 ex16 gr19 s20 J18 => ?_) (fun gr30 r28 J29 => ?_) gr4 _ rfl
  · unfold f_M_opens_w20
    refine wq_iload dX13_opens_20 5 rfl ?_
    refine wq_iload_n dX13_opens_22 2 rfl rfl ?_
    refine wq_icmp_le 49 dX13_opens_23 (by decide) rfl rfl (fun c27 => ?_) (fun c27 => ?_)
    · refine wq_aload_n dX13_opens_26 0 rfl rfl ?_
      refine wq_iload_n dX13_opens_27 1 rfl rfl ?_
      refine wq_iload dX13_opens_28 5 rfl ?_
      refine wq_iload dX13_opens_30 4 rfl ?_
      refine wq_iadd dX13_opens_32 ?_
      refine wq_aload_n dX13_opens_33 0 rfl rfl ?_
      refine wq_iload_n dX13_opens_34 1 rfl rfl ?_
      refine wq_iload dX13_opens_35 5 rfl ?_
      refine wq_cVi M_M_at (R_M_at Z a1 s20 _) ob_26 rfl rfl (by decide) (by decide) (Nat.le_of_ble_eq_true rfl) ln_RX13_119 dX13_opens_37 (fun gr21 x23 J22 => ?_)
      refine wq_cVv M_M_puts (R_M_puts Z a1 (s20 + (x3 - 1)) x23 _) ob_26 rfl rfl (by decide) (by decide) (Nat.le_of_ble_eq_true rfl) ln_RX13_107 dX13_opens_40 (fun gr24 _ J25 => ?_)
      refine wq_iinc (lv' := [(5, vi (s20 + (-1))), (0, vr Z 26 0), (1, vi a1), (2, vi a2), (3, vi a3), (4, vi (x3 - 1))]) dX13_opens_43 5 rfl (by decide) rfl ?_
      refine wq_goto 20 dX13_opens_46 (by decide) ?_
      exact WQ.loc [1, 2, 3, 4, 5, 0] rfl (bk15 _ _ _)
    · exact WQ.loc [0, 1, 2, 3, 4] rfl (ex16 _ _ _)
  · refine wq_iconst dX13_opens_49 ?_
    refine wq_istore (lv' := [(5, vi 0), (0, vr Z 26 0), (1, vi a1), (2, vi a2), (3, vi a3), (4, vi (x3 - 1))]) dX13_opens_50 (by decide) rfl ?_
    refine WQ.loc [1, 2, 3, 4, 5, 0] (lv' := [(0, vr Z 26 0), (1, vi a1), (2, vi a2), (3, vi a3), (4, vi (x3 - 1)), (5, vi 0)]) rfl ?_
    refine wq_loopS (fun s44 => [(0, vr Z 26 0), (1, vi a1), (2, vi a2), (3, vi a3), (4, vi (x3 - 1)), (5, vi s44)]) 83 (fun _ => [(0, vr Z 26 0), (1, vi a1), (4, vi (x3 - 1))]) (fun κ38 bk39 ex40 gr43 s44 J42 => ?_) (fun gr54 r52 J53 => ?_) gr30 _ rfl
    · unfold f_M_opens_w52
      refine wq_iload dX13_opens_52 5 rfl ?_
      refine wq_iload dX13_opens_54 4 rfl ?_
      refine wq_icmp_gt 83 dX13_opens_56 (by decide) rfl rfl (fun c51 => ?_) (fun c51 => ?_)
      · exact WQ.loc [0, 1, 4] rfl (ex40 _ _ _)
      · refine wq_aload_n dX13_opens_59 0 rfl rfl ?_
        refine wq_iload_n dX13_opens_60 1 rfl rfl ?_
        refine wq_iload_n dX13_opens_61 2 rfl rfl ?_
        refine wq_iload dX13_opens_62 5 rfl ?_
        refine wq_iadd dX13_opens_64 ?_
        refine wq_aload_n dX13_opens_65 0 rfl rfl ?_
        refine wq_iload_n dX13_opens_66 3 rfl rfl ?_
        refine wq_iconst dX13_opens_67 ?_
        refine wq_iadd dX13_opens_68 ?_
        refine wq_iload dX13_opens_69 5 rfl ?_
        refine wq_cVi M_M_at (R_M_at Z (a3 + 1) s44 _) ob_26 rfl rfl (by decide) (by decide) (Nat.le_of_ble_eq_true rfl) ln_RX13_119 dX13_opens_71 (fun gr45 x47 J46 => ?_)
        refine wq_cVv M_M_puts (R_M_puts Z a1 (a2 + s44) x47 _) ob_26 rfl rfl (by decide) (by decide) (Nat.le_of_ble_eq_true rfl) ln_RX13_107 dX13_opens_74 (fun gr48 _ J49 => ?_)
        refine wq_iinc (lv' := [(5, vi (s44 + 1)), (0, vr Z 26 0), (1, vi a1), (2, vi a2), (3, vi a3), (4, vi (x3 - 1))]) dX13_opens_77 5 rfl (by decide) rfl ?_
        refine wq_goto 52 dX13_opens_80 (by decide) ?_
        exact WQ.loc [1, 2, 3, 4, 5, 0] rfl (bk39 _ _ _)
    · refine wq_aload_n dX13_opens_83 0 rfl rfl ?_
      refine g_26_0 ln_RX13_9 dX13_opens_84 ?_
      refine wq_bipush dX13_opens_87 (by decide) ?_
      refine wq_iload_n dX13_opens_89 1 rfl rfl ?_
      refine wq_iadd dX13_opens_90 ?_
      refine wq_dup2 dX13_opens_91 rfl rfl ?_
      refine wq_grd (fun g55 => ?_)
      refine wq_iald (k := 27) (i := 0) rfl (by decide) rfl rfl (m := 16860) g55 (Nat.le_of_ble_eq_true rfl) dX13_opens_92 ?_
      refine wq_iload dX13_opens_93 2 rfl ?_
      refine wq_iadd dX13_opens_95 ?_
      refine wq_iast (k := 27) (i := 0) (fun _ _ => rfl) (by decide) rfl rfl (m := 16860) g55 (Nat.le_of_ble_eq_true rfl) (by decide) (by decide) (by decide) dX13_opens_96 (fun J56 => ?_)
      exact wq_vret rfl rfl dX13_opens_97

noncomputable def f_M_usesIn_w5 (v1 : Int) (v2 : Int) (s : Int × Int) (I : Mem) : Option (((Int × Int) ⊕ (Int)) × Mem) :=
bnd (f_M_many v1 I) fun x3 J2 =>
if (w32 s.2) < (w32 x3) then
bnd (f_M_at v1 s.2 J2) fun x6 J5 =>
bnd (f_M_one (if (w32 x6) = (w32 v2) then 1 else 0) J5) fun x9 J8 =>
some (.inl ((s.1 + x9), (s.2 + 1)), J8)
else
some (.inr s.1, J2)

noncomputable def f_M_usesIn (a1 : Int) (a2 : Int) (I : Mem) : Option ((Int) × Mem) :=
bnd (whl (f_M_usesIn_w5 a1 a2) (0, 0) I) fun r32 J33 =>
some (r32, J33)
set_option maxRecDepth 20000 in
theorem R_M_usesIn (Z : ZT) (a1 : Int) (a2 : Int) (I : Mem) (r : Int) (J : Mem) (hf : f_M_usesIn a1 a2 I = some (r, J)) : Runs Z yX13_usesIn cX13_usesIn 5 (some .int) 2 [vr Z 26 0, vi a1, vi a2] I (some (vi r), J) := by
  refine Runs.of (rv := fun x => some (vi x)) (by decide +kernel) (Nat.le_of_ble_eq_true rfl) hf (fun gr => ?_)
  unfold f_M_usesIn
  refine WQ.loc [0, 1, 2] (lv' := [(0, vr Z 26 0), (1, vi a1), (2, vi a2)]) rfl ?_
  refine wq_iconst dX13_usesIn_0 ?_
  refine wq_istore_n (lv' := [(3, vi 0), (0, vr Z 26 0), (1, vi a1), (2, vi a2)]) dX13_usesIn_1 rfl (by decide) rfl ?_
  refine wq_iconst dX13_usesIn_2 ?_
  refine wq_istore (lv' := [(4, vi 0), (3, vi 0), (0, vr Z 26 0), (1, vi a1), (2, vi a2)]) dX13_usesIn_3 (by decide) rfl ?_
  refine WQ.loc [2, 3, 4, 1, 0] (lv' := [(0, vr Z 26 0), (1, vi a1), (2, vi a2), (3, vi 0), (4, vi 0)]) rfl ?_
  refine wq_loopS (fun s19 => [(0, vr Z 26 0), (1, vi a1), (2, vi a2), (3, vi s19.1), (4, vi s19.2)]) 43 (fun r32 => [(3, vi r32)]) (fun κ13 bk14 ex15 gr18 s19 J17 => ?_) (fun gr34 r32 J33 => ?_) gr _ rfl
  · unfold f_M_usesIn_w5
    refine wq_iload dX13_usesIn_5 4 rfl ?_
    refine wq_aload_n dX13_usesIn_7 0 rfl rfl ?_
    refine wq_iload_n dX13_usesIn_8 1 rfl rfl ?_
    refine wq_cVi M_M_many (R_M_many Z a1 _) ob_26 rfl rfl (by decide) (by decide) (Nat.le_of_ble_eq_true rfl) ln_RX13_103 dX13_usesIn_9 (fun gr20 x22 J21 => ?_)
    refine wq_icmp_ge 43 dX13_usesIn_12 (by decide) rfl rfl (fun c31 => ?_) (fun c31 => ?_)
    · refine wq_iload_n dX13_usesIn_15 3 rfl rfl ?_
      refine wq_aload_n dX13_usesIn_16 0 rfl rfl ?_
      refine wq_iload_n dX13_usesIn_17 1 rfl rfl ?_
      refine wq_iload dX13_usesIn_18 4 rfl ?_
      refine wq_cVi M_M_at (R_M_at Z a1 s19.2 _) ob_26 rfl rfl (by decide) (by decide) (Nat.le_of_ble_eq_true rfl) ln_RX13_119 dX13_usesIn_20 (fun gr23 x25 J24 => ?_)
      refine wq_iload_n dX13_usesIn_23 2 rfl rfl ?_
      refine WQ.via 32 [vi (if (w32 x25) = (w32 a2) then 1 else 0), vi s19.1] (by
          refine wq_cSi M_M_one (R_M_one Z (if (w32 x25) = (w32 a2) then 1 else 0) _) rfl rfl rfl (by decide) (by decide) (Nat.le_of_ble_eq_true rfl) ln_RX13_115 dX13_usesIn_32 (fun gr26 x28 J27 => ?_)
          refine wq_iadd dX13_usesIn_35 ?_
          refine wq_istore_n (lv' := [(3, vi (s19.1 + x28)), (0, vr Z 26 0), (1, vi a1), (2, vi a2), (4, vi s19.2)]) dX13_usesIn_36 rfl (by decide) rfl ?_
          refine wq_iinc (lv' := [(4, vi (s19.2 + 1)), (3, vi (s19.1 + x28)), (0, vr Z 26 0), (1, vi a1), (2, vi a2)]) dX13_usesIn_37 4 rfl (by decide) rfl ?_
          refine wq_goto 5 dX13_usesIn_40 (by decide) ?_
          exact WQ.loc [2, 3, 4, 1, 0] rfl (bk14 _ _ _)) (fun hj29 => ?_)
      refine WQ.both ((w32 x25) = (w32 a2)) ?_
      refine wq_icmp_ne 31 dX13_usesIn_24 (by decide) rfl rfl (fun c30 => ?_) (fun c30 => ?_)
      · refine wq_iconst dX13_usesIn_27 ?_
        refine wq_goto 32 dX13_usesIn_28 (by decide) ?_
        exact WQ.top (if_pos c30) hj29
      · refine wq_iconst dX13_usesIn_31 ?_
        exact WQ.top (if_neg c30) hj29
    · exact WQ.loc [3] rfl (ex15 _ _ _)
  · refine wq_iload_n dX13_usesIn_43 0 rfl rfl ?_
    exact wq_iret rfl rfl dX13_usesIn_44

theorem M_M_usesIn : MwV yX13_usesIn cX13_usesIn 5 (some .int) 2 := ⟨li_8 191 (by decide +kernel) (by decide +kernel), li_8 190 (by decide +kernel) (by decide +kernel), lw_in 103 (by decide +kernel) (by decide +kernel), li_1 16 (by decide +kernel) (by decide +kernel), by decide +kernel⟩
theorem ln_RX13_123 : Cond.methodLink RX13 123 yX13_usesIn ∈ lw_good := li_8 188 (by decide +kernel) (by decide +kernel)
noncomputable def f_M_usesOf_w4 (v1 : Int) (s : Int × Int) (I : Mem) : Option (((Int × Int) ⊕ (Int)) × Mem) :=
if (w32 s.2) < 41 then
bnd (f_M_usesIn s.2 (26 + v1) I) fun x3 J2 =>
some (.inl ((s.1 + x3), (s.2 + 1)), J2)
else
some (.inr s.1, I)

noncomputable def f_M_usesOf (a1 : Int) (I : Mem) : Option ((Int) × Mem) :=
bnd (whl (f_M_usesOf_w4 a1) (0, 0) I) fun r16 J17 =>
some (r16, J17)
set_option maxRecDepth 20000 in
theorem R_M_usesOf (Z : ZT) (a1 : Int) (I : Mem) (r : Int) (J : Mem) (hf : f_M_usesOf a1 I = some (r, J)) : Runs Z yX13_usesOf cX13_usesOf 4 (some .int) 3 [vr Z 26 0, vi a1] I (some (vi r), J) := by
  refine Runs.of (rv := fun x => some (vi x)) (by decide +kernel) (Nat.le_of_ble_eq_true rfl) hf (fun gr => ?_)
  unfold f_M_usesOf
  refine WQ.loc [0, 1] (lv' := [(0, vr Z 26 0), (1, vi a1)]) rfl ?_
  refine wq_iconst dX13_usesOf_0 ?_
  refine wq_istore_n (lv' := [(2, vi 0), (0, vr Z 26 0), (1, vi a1)]) dX13_usesOf_1 rfl (by decide) rfl ?_
  refine wq_iconst dX13_usesOf_2 ?_
  refine wq_istore_n (lv' := [(3, vi 0), (2, vi 0), (0, vr Z 26 0), (1, vi a1)]) dX13_usesOf_3 rfl (by decide) rfl ?_
  refine WQ.loc [2, 3, 1, 0] (lv' := [(0, vr Z 26 0), (1, vi a1), (2, vi 0), (3, vi 0)]) rfl ?_
  refine wq_loopS (fun s11 => [(0, vr Z 26 0), (1, vi a1), (2, vi s11.1), (3, vi s11.2)]) 28 (fun r16 => [(2, vi r16)]) (fun κ5 bk6 ex7 gr10 s11 J9 => ?_) (fun gr18 r16 J17 => ?_) gr _ rfl
  · unfold f_M_usesOf_w4
    refine wq_iload_n dX13_usesOf_4 3 rfl rfl ?_
    refine wq_bipush dX13_usesOf_5 (by decide) ?_
    refine wq_icmp_ge 28 dX13_usesOf_7 (by decide) rfl rfl (fun c15 => ?_) (fun c15 => ?_)
    · refine wq_iload_n dX13_usesOf_10 2 rfl rfl ?_
      refine wq_aload_n dX13_usesOf_11 0 rfl rfl ?_
      refine wq_iload_n dX13_usesOf_12 3 rfl rfl ?_
      refine wq_bipush dX13_usesOf_13 (by decide) ?_
      refine wq_iload_n dX13_usesOf_15 1 rfl rfl ?_
      refine wq_iadd dX13_usesOf_16 ?_
      refine wq_cVi M_M_usesIn (R_M_usesIn Z s11.2 (26 + a1) _) ob_26 rfl rfl (by decide) (by decide) (Nat.le_of_ble_eq_true rfl) ln_RX13_123 dX13_usesOf_17 (fun gr12 x14 J13 => ?_)
      refine wq_iadd dX13_usesOf_20 ?_
      refine wq_istore_n (lv' := [(2, vi (s11.1 + x14)), (0, vr Z 26 0), (1, vi a1), (3, vi s11.2)]) dX13_usesOf_21 rfl (by decide) rfl ?_
      refine wq_iinc (lv' := [(3, vi (s11.2 + 1)), (2, vi (s11.1 + x14)), (0, vr Z 26 0), (1, vi a1)]) dX13_usesOf_22 3 rfl (by decide) rfl ?_
      refine wq_goto 4 dX13_usesOf_25 (by decide) ?_
      exact WQ.loc [2, 3, 1, 0] rfl (bk6 _ _ _)
    · exact WQ.loc [2] rfl (ex7 _ _ _)
  · refine wq_iload_n dX13_usesOf_28 0 rfl rfl ?_
    exact wq_iret rfl rfl dX13_usesOf_29

theorem ln_RX13_126 : Cond.fieldLink RX13 126 RX13 "deepest" "I" ∈ lw_good := li_7 64 (by decide +kernel) (by decide +kernel)
theorem ln_RX13_31 : Cond.fieldLink RX13 31 RX13 "lengths" "[I" ∈ lw_good := li_7 62 (by decide +kernel) (by decide +kernel)
theorem ln_RX13_34 : Cond.fieldLink RX13 34 RX13 "depths" "[I" ∈ lw_good := li_7 63 (by decide +kernel) (by decide +kernel)
theorem ln_RX13_129 : Cond.methodLink RX13 129 Lib.Math.max.name ∈ lw_good := li_8 24 (by decide +kernel) (by decide +kernel)
noncomputable def f_M_lengthOf_w9 (v1 : Int) (s : Int × Int) (I : Mem) : Option (((Int × Int) ⊕ (Int)) × Mem) :=
bnd (f_M_many v1 I) fun x4 J3 =>
if (w32 s.2) < (w32 x4) then
bnd (f_M_at v1 s.2 J3) fun x7 J6 =>
if 0 ≤ (w32 x7) ∧ (w32 x7) < 66 then
if (w32 (J6 27 5 (w32 x7).toNat)) = 0 then
some (.inr (0), J6)
else
ltI (sI J6 26 0 10 (imx (J6 26 0 10) (J6 27 6 (w32 x7).toNat))) fun J9 =>
some (.inl ((s.1 + (J6 27 5 (w32 x7).toNat)), (s.2 + 1)), J9)
else none
else
some (.inr (s.1), J3)

noncomputable def f_M_lengthOf (a1 : Int) (I : Mem) : Option ((Int) × Mem) :=
ltI (sI I 26 0 10 0) fun J1 =>
whl (f_M_lengthOf_w9 a1) (0, 0) J1
set_option maxRecDepth 20000 in
theorem R_M_lengthOf (Z : ZT) (a1 : Int) (I : Mem) (r : Int) (J : Mem) (hf : f_M_lengthOf a1 I = some (r, J)) : Runs Z yX13_lengthOf cX13_lengthOf 5 (some .int) 2 [vr Z 26 0, vi a1] I (some (vi r), J) := by
  refine Runs.of (rv := fun x => some (vi x)) (by decide +kernel) (Nat.le_of_ble_eq_true rfl) hf (fun gr => ?_)
  unfold f_M_lengthOf
  refine WQ.loc [0, 1] (lv' := [(0, vr Z 26 0), (1, vi a1)]) rfl ?_
  refine wq_iconst dX13_lengthOf_0 ?_
  refine wq_istore_n (lv' := [(2, vi 0), (0, vr Z 26 0), (1, vi a1)]) dX13_lengthOf_1 rfl (by decide) rfl ?_
  refine wq_aload_n dX13_lengthOf_2 1 rfl rfl ?_
  refine wq_iconst dX13_lengthOf_3 ?_
  refine p_26_10 ln_RX13_126 dX13_lengthOf_4 (fun J1 => ?_)
  refine wq_iconst dX13_lengthOf_7 ?_
  refine wq_istore_n (lv' := [(3, vi 0), (2, vi 0), (0, vr Z 26 0), (1, vi a1)]) dX13_lengthOf_8 rfl (by decide) rfl ?_
  refine WQ.loc [2, 3, 1, 0] (lv' := [(0, vr Z 26 0), (1, vi a1), (2, vi 0), (3, vi 0)]) rfl ?_
  refine wq_loop (fun s18 => [(0, vr Z 26 0), (1, vi a1), (2, vi s18.1), (3, vi s18.2)]) (fun κ12 bk13 hr15 gr17 s18 J16 => ?_) gr _ rfl
  unfold f_M_lengthOf_w9
  refine wq_iload_n dX13_lengthOf_9 3 rfl rfl ?_
  refine wq_aload_n dX13_lengthOf_10 0 rfl rfl ?_
  refine wq_iload_n dX13_lengthOf_11 1 rfl rfl ?_
  refine wq_cVi M_M_many (R_M_many Z a1 _) ob_26 rfl rfl (by decide) (by decide) (Nat.le_of_ble_eq_true rfl) ln_RX13_103 dX13_lengthOf_12 (fun gr19 x21 J20 => ?_)
  refine wq_icmp_ge 72 dX13_lengthOf_15 (by decide) rfl rfl (fun c28 => ?_) (fun c28 => ?_)
  · refine wq_aload_n dX13_lengthOf_18 0 rfl rfl ?_
    refine wq_iload_n dX13_lengthOf_19 1 rfl rfl ?_
    refine wq_iload_n dX13_lengthOf_20 3 rfl rfl ?_
    refine wq_cVi M_M_at (R_M_at Z a1 s18.2 _) ob_26 rfl rfl (by decide) (by decide) (Nat.le_of_ble_eq_true rfl) ln_RX13_119 dX13_lengthOf_21 (fun gr22 x24 J23 => ?_)
    refine wq_istore (lv' := [(4, vi x24), (0, vr Z 26 0), (1, vi a1), (2, vi s18.1), (3, vi s18.2)]) dX13_lengthOf_24 (by decide) rfl ?_
    refine wq_aload_n dX13_lengthOf_26 1 rfl rfl ?_
    refine g_26_8 ln_RX13_31 dX13_lengthOf_27 ?_
    refine wq_iload dX13_lengthOf_30 0 rfl ?_
    refine wq_grd (fun g25 => ?_)
    refine wq_iald (k := 27) (i := 5) rfl (by decide) rfl rfl (m := 66) g25 (Nat.le_of_ble_eq_true rfl) dX13_lengthOf_32 ?_
    refine wq_if_ne 38 dX13_lengthOf_33 (by decide) rfl (fun c27 => ?_) (fun c27 => ?_)
    · refine wq_iconst dX13_lengthOf_36 ?_
      exact wq_iret rfl ((hr15 _ _).trans rfl) dX13_lengthOf_37
    · refine wq_iload_n dX13_lengthOf_38 3 rfl rfl ?_
      refine wq_aload_n dX13_lengthOf_39 1 rfl rfl ?_
      refine g_26_8 ln_RX13_31 dX13_lengthOf_40 ?_
      refine wq_iload dX13_lengthOf_43 0 rfl ?_
      refine wq_iald (k := 27) (i := 5) rfl (by decide) rfl rfl (m := 66) g25 (Nat.le_of_ble_eq_true rfl) dX13_lengthOf_45 ?_
      refine wq_iadd dX13_lengthOf_46 ?_
      refine wq_istore_n (lv' := [(2, vi (s18.1 + (J23 27 5 (w32 x24).toNat))), (4, vi x24), (0, vr Z 26 0), (1, vi a1), (3, vi s18.2)]) dX13_lengthOf_47 rfl (by decide) rfl ?_
      refine wq_aload_n dX13_lengthOf_48 2 rfl rfl ?_
      refine wq_aload_n dX13_lengthOf_49 2 rfl rfl ?_
      refine g_26_10 ln_RX13_126 dX13_lengthOf_50 ?_
      refine wq_aload_n dX13_lengthOf_53 2 rfl rfl ?_
      refine g_26_9 ln_RX13_34 dX13_lengthOf_54 ?_
      refine wq_iload dX13_lengthOf_57 1 rfl ?_
      refine wq_iald (k := 27) (i := 6) rfl (by decide) rfl rfl (m := 66) g25 (Nat.le_of_ble_eq_true rfl) dX13_lengthOf_59 ?_
      refine wq_max (by decide) (Nat.le_of_ble_eq_true rfl) ln_RX13_129 mt_max_s mt_i mt_max_c dX13_lengthOf_60 ?_
      refine p_26_10 ln_RX13_126 dX13_lengthOf_63 (fun J26 => ?_)
      refine wq_iinc (lv' := [(3, vi (s18.2 + 1)), (2, vi (s18.1 + (J23 27 5 (w32 x24).toNat))), (4, vi x24), (0, vr Z 26 0), (1, vi a1)]) dX13_lengthOf_66 4 rfl (by decide) rfl ?_
      refine wq_goto 9 dX13_lengthOf_69 (by decide) ?_
      exact WQ.loc [3, 4, 1, 0] rfl (bk13 _ _ _)
  · refine wq_iload_n dX13_lengthOf_72 2 rfl rfl ?_
    exact wq_iret rfl ((hr15 _ _).trans rfl) dX13_lengthOf_73

theorem M_M_lengthOf : MwV yX13_lengthOf cX13_lengthOf 5 (some .int) 1 := ⟨li_8 23 (by decide +kernel) (by decide +kernel), li_8 22 (by decide +kernel) (by decide +kernel), lw_in 69 (by decide +kernel) (by decide +kernel), li_1 16 (by decide +kernel) (by decide +kernel), by decide +kernel⟩
theorem ln_RX13_134 : Cond.methodLink RX13 134 yX13_lengthOf ∈ lw_good := li_8 20 (by decide +kernel) (by decide +kernel)
noncomputable def f_M_laysLengths_w2  (s : Int) (I : Mem) : Option (((Int) ⊕ (Unit)) × Mem) :=
if (w32 s) < 66 then
bnd (f_M_one (if (w32 s) < 26 then 1 else 0) I) fun x3 J2 =>
if 0 ≤ (w32 s) ∧ (w32 s) < 66 then
ltI (sI J2 27 5 (w32 s).toNat x3) fun J5 =>
ltI (sI J5 27 6 (w32 s).toNat 0) fun J6 =>
some (.inl (s + 1), J6)
else none
else
some (.inr (), I)

noncomputable def f_M_laysLengths_w51  (s : Int × Int) (I : Mem) : Option (((Int × Int) ⊕ (Int)) × Mem) :=
if (w32 s.2) < 40 then
bnd (f_M_isHere s.2 I) fun x31 J30 =>
if (w32 x31) = 0 then
some (.inl (s.1, (s.2 + 1)), J30)
else
if 0 ≤ (w32 (26 + s.2)) ∧ (w32 (26 + s.2)) < 66 then
if 0 < (w32 (J30 27 5 (w32 (26 + s.2)).toNat)) then
some (.inl (s.1, (s.2 + 1)), J30)
else
bnd (f_M_lengthOf (s.2 + 1) J30) fun x35 J34 =>
ltI (sI J34 27 5 (w32 (26 + s.2)).toNat x35) fun J36 =>
ltI (sI J36 27 6 (w32 (26 + s.2)).toNat ((J36 26 0 10) + 1)) fun J37 =>
if (w32 s.1) = 0 then
if 0 < (w32 (J37 27 5 (w32 (26 + s.2)).toNat)) then
some (.inl (1, (s.2 + 1)), J37)
else
some (.inl (0, (s.2 + 1)), J37)
else
some (.inl (1, (s.2 + 1)), J37)
else none
else
some (.inr s.1, I)

noncomputable def f_M_laysLengths_w43  (s : Int) (I : Mem) : Option (((Int) ⊕ (Unit)) × Mem) :=
if (w32 s) = 0 then
some (.inr (), I)
else
bnd (whl (f_M_laysLengths_w51) (0, 0) I) fun r64 J65 =>
some (.inl r64, J65)

noncomputable def f_M_laysLengths  (I : Mem) : Option ((Unit) × Mem) :=
bnd (whl (f_M_laysLengths_w2) 0 I) fun r26 J27 =>
bnd (whl (f_M_laysLengths_w43) 1 J27) fun r100 J101 =>
some ((), J101)
set_option maxRecDepth 20000 in
theorem R_M_laysLengths (Z : ZT)  (I : Mem) (r : Unit) (J : Mem) (hf : f_M_laysLengths I = some (r, J)) : Runs Z yX13_laysLengths cX13_laysLengths 3 (none) 3 [vr Z 26 0] I (none, J) := by
  refine Runs.of (rv := fun _ => none) (by decide +kernel) (Nat.le_of_ble_eq_true rfl) hf (fun gr => ?_)
  unfold f_M_laysLengths
  refine WQ.loc [0] (lv' := [(0, vr Z 26 0)]) rfl ?_
  refine wq_iconst dX13_laysLengths_0 ?_
  refine wq_istore_n (lv' := [(1, vi 0), (0, vr Z 26 0)]) dX13_laysLengths_1 rfl (by decide) rfl ?_
  refine WQ.loc [1, 0] (lv' := [(0, vr Z 26 0), (1, vi 0)]) rfl ?_
  refine wq_loopS (fun s16 => [(0, vr Z 26 0), (1, vi s16)]) 41 (fun _ => [(0, vr Z 26 0)]) (fun κ10 bk11 ex12 gr15 s16 J14 => ?_) (fun gr28 r26 J27 => ?_) gr _ rfl
  · unfold f_M_laysLengths_w2
    refine wq_iload_n dX13_laysLengths_2 1 rfl rfl ?_
    refine wq_bipush dX13_laysLengths_3 (by decide) ?_
    refine wq_icmp_ge 41 dX13_laysLengths_5 (by decide) rfl rfl (fun c25 => ?_) (fun c25 => ?_)
    · refine wq_aload_n dX13_laysLengths_8 0 rfl rfl ?_
      refine g_26_8 ln_RX13_31 dX13_laysLengths_9 ?_
      refine wq_iload_n dX13_laysLengths_12 1 rfl rfl ?_
      refine wq_iload_n dX13_laysLengths_13 1 rfl rfl ?_
      refine wq_bipush dX13_laysLengths_14 (by decide) ?_
      refine WQ.via 24 [vi (if (w32 s16) < 26 then 1 else 0), vi s16, vr Z 27 5] (by
          refine wq_cSi M_M_one (R_M_one Z (if (w32 s16) < 26 then 1 else 0) _) rfl rfl rfl (by decide) (by decide) (Nat.le_of_ble_eq_true rfl) ln_RX13_115 dX13_laysLengths_24 (fun gr17 x19 J18 => ?_)
          refine wq_grd (fun g20 => ?_)
          refine wq_iast (k := 27) (i := 5) (fun _ _ => rfl) (by decide) rfl rfl (m := 66) g20 (Nat.le_of_ble_eq_true rfl) (by decide) (by decide) (by decide) dX13_laysLengths_27 (fun J21 => ?_)
          refine wq_aload_n dX13_laysLengths_28 0 rfl rfl ?_
          refine g_26_9 ln_RX13_34 dX13_laysLengths_29 ?_
          refine wq_iload_n dX13_laysLengths_32 1 rfl rfl ?_
          refine wq_iconst dX13_laysLengths_33 ?_
          refine wq_iast (k := 27) (i := 6) (fun _ _ => rfl) (by decide) rfl rfl (m := 66) g20 (Nat.le_of_ble_eq_true rfl) (by decide) (by decide) (by decide) dX13_laysLengths_34 (fun J22 => ?_)
          refine wq_iinc (lv' := [(1, vi (s16 + 1)), (0, vr Z 26 0)]) dX13_laysLengths_35 1 rfl (by decide) rfl ?_
          refine wq_goto 2 dX13_laysLengths_38 (by decide) ?_
          exact WQ.loc [1, 0] rfl (bk11 _ _ _)) (fun hj23 => ?_)
      refine WQ.both ((w32 s16) < 26) ?_
      refine wq_icmp_ge 23 dX13_laysLengths_16 (by decide) rfl rfl (fun c24 => ?_) (fun c24 => ?_)
      · refine wq_iconst dX13_laysLengths_19 ?_
        refine wq_goto 24 dX13_laysLengths_20 (by decide) ?_
        exact WQ.top (if_pos c24) hj23
      · refine wq_iconst dX13_laysLengths_23 ?_
        exact WQ.top (if_neg c24) hj23
    · exact WQ.loc [0] rfl (ex12 _ _ _)
  · refine wq_iconst dX13_laysLengths_41 ?_
    refine wq_istore_n (lv' := [(1, vi 1), (0, vr Z 26 0)]) dX13_laysLengths_42 rfl (by decide) rfl ?_
    refine WQ.loc [1, 0] (lv' := [(0, vr Z 26 0), (1, vi 1)]) rfl ?_
    refine wq_loopS (fun s74 => [(0, vr Z 26 0), (1, vi s74)]) 142 (fun _ => []) (fun κ68 bk69 ex70 gr73 s74 J72 => ?_) (fun gr102 r100 J101 => ?_) gr28 _ rfl
    · unfold f_M_laysLengths_w43
      refine wq_iload_n dX13_laysLengths_43 1 rfl rfl ?_
      refine wq_if_eq 142 dX13_laysLengths_44 (by decide) rfl (fun c99 => ?_) (fun c99 => ?_)
      · exact WQ.loc [] rfl (ex70 _ _ _)
      · refine wq_iconst dX13_laysLengths_47 ?_
        refine wq_istore_n (lv' := [(1, vi 0), (0, vr Z 26 0)]) dX13_laysLengths_48 rfl (by decide) rfl ?_
        refine wq_iconst dX13_laysLengths_49 ?_
        refine wq_istore_n (lv' := [(2, vi 0), (1, vi 0), (0, vr Z 26 0)]) dX13_laysLengths_50 rfl (by decide) rfl ?_
        refine WQ.loc [2, 1, 0] (lv' := [(0, vr Z 26 0), (1, vi 0), (2, vi 0)]) rfl ?_
        refine wq_loopS (fun s81 => [(0, vr Z 26 0), (1, vi s81.1), (2, vi s81.2)]) 139 (fun r96 => [(0, vr Z 26 0), (1, vi r96)]) (fun κ75 bk76 ex77 gr80 s81 J79 => ?_) (fun gr98 r96 J97 => ?_) gr73 _ rfl
        · unfold f_M_laysLengths_w51
          refine wq_iload_n dX13_laysLengths_51 2 rfl rfl ?_
          refine wq_bipush dX13_laysLengths_52 (by decide) ?_
          refine wq_icmp_ge 139 dX13_laysLengths_54 (by decide) rfl rfl (fun c95 => ?_) (fun c95 => ?_)
          · refine wq_aload_n dX13_laysLengths_57 0 rfl rfl ?_
            refine wq_iload_n dX13_laysLengths_58 2 rfl rfl ?_
            refine wq_cVi M_M_isHere (R_M_isHere Z s81.2 _) ob_26 rfl rfl (by decide) (by decide) (Nat.le_of_ble_eq_true rfl) ln_RX13_111 dX13_laysLengths_59 (fun gr82 x84 J83 => ?_)
            refine wq_if_eq 133 dX13_laysLengths_62 (by decide) rfl (fun c94 => ?_) (fun c94 => ?_)
            · refine wq_iinc (lv' := [(2, vi (s81.2 + 1)), (0, vr Z 26 0), (1, vi s81.1)]) dX13_laysLengths_133 2 rfl (by decide) rfl ?_
              refine wq_goto 51 dX13_laysLengths_136 (by decide) ?_
              exact WQ.loc [1, 2, 0] rfl (bk76 _ _ _)
            · refine wq_aload_n dX13_laysLengths_65 0 rfl rfl ?_
              refine g_26_8 ln_RX13_31 dX13_laysLengths_66 ?_
              refine wq_bipush dX13_laysLengths_69 (by decide) ?_
              refine wq_iload_n dX13_laysLengths_71 2 rfl rfl ?_
              refine wq_iadd dX13_laysLengths_72 ?_
              refine wq_grd (fun g85 => ?_)
              refine wq_iald (k := 27) (i := 5) rfl (by decide) rfl rfl (m := 66) g85 (Nat.le_of_ble_eq_true rfl) dX13_laysLengths_73 ?_
              refine wq_if_le 80 dX13_laysLengths_74 (by decide) rfl (fun c93 => ?_) (fun c93 => ?_)
              · refine wq_goto 133 dX13_laysLengths_77 (by decide) ?_
                refine wq_iinc (lv' := [(2, vi (s81.2 + 1)), (0, vr Z 26 0), (1, vi s81.1)]) dX13_laysLengths_133 2 rfl (by decide) rfl ?_
                refine wq_goto 51 dX13_laysLengths_136 (by decide) ?_
                exact WQ.loc [1, 2, 0] rfl (bk76 _ _ _)
              · refine wq_aload_n dX13_laysLengths_80 0 rfl rfl ?_
                refine g_26_8 ln_RX13_31 dX13_laysLengths_81 ?_
                refine wq_bipush dX13_laysLengths_84 (by decide) ?_
                refine wq_iload_n dX13_laysLengths_86 2 rfl rfl ?_
                refine wq_iadd dX13_laysLengths_87 ?_
                refine wq_aload_n dX13_laysLengths_88 0 rfl rfl ?_
                refine wq_iload_n dX13_laysLengths_89 2 rfl rfl ?_
                refine wq_iconst dX13_laysLengths_90 ?_
                refine wq_iadd dX13_laysLengths_91 ?_
                refine wq_cVi M_M_lengthOf (R_M_lengthOf Z (s81.2 + 1) _) ob_26 rfl rfl (by decide) (by decide) (Nat.le_of_ble_eq_true rfl) ln_RX13_134 dX13_laysLengths_92 (fun gr86 x88 J87 => ?_)
                refine wq_iast (k := 27) (i := 5) (fun _ _ => rfl) (by decide) rfl rfl (m := 66) g85 (Nat.le_of_ble_eq_true rfl) (by decide) (by decide) (by decide) dX13_laysLengths_95 (fun J89 => ?_)
                refine wq_aload_n dX13_laysLengths_96 0 rfl rfl ?_
                refine g_26_9 ln_RX13_34 dX13_laysLengths_97 ?_
                refine wq_bipush dX13_laysLengths_100 (by decide) ?_
                refine wq_iload_n dX13_laysLengths_102 2 rfl rfl ?_
                refine wq_iadd dX13_laysLengths_103 ?_
                refine wq_aload_n dX13_laysLengths_104 0 rfl rfl ?_
                refine g_26_10 ln_RX13_126 dX13_laysLengths_105 ?_
                refine wq_iconst dX13_laysLengths_108 ?_
                refine wq_iadd dX13_laysLengths_109 ?_
                refine wq_iast (k := 27) (i := 6) (fun _ _ => rfl) (by decide) rfl rfl (m := 66) g85 (Nat.le_of_ble_eq_true rfl) (by decide) (by decide) (by decide) dX13_laysLengths_110 (fun J90 => ?_)
                refine wq_iload_n dX13_laysLengths_111 1 rfl rfl ?_
                refine wq_if_ne 127 dX13_laysLengths_112 (by decide) rfl (fun c92 => ?_) (fun c92 => ?_)
                · refine wq_aload_n dX13_laysLengths_115 0 rfl rfl ?_
                  refine g_26_8 ln_RX13_31 dX13_laysLengths_116 ?_
                  refine wq_bipush dX13_laysLengths_119 (by decide) ?_
                  refine wq_iload_n dX13_laysLengths_121 2 rfl rfl ?_
                  refine wq_iadd dX13_laysLengths_122 ?_
                  refine wq_iald (k := 27) (i := 5) rfl (by decide) rfl rfl (m := 66) g85 (Nat.le_of_ble_eq_true rfl) dX13_laysLengths_123 ?_
                  refine wq_if_le 131 dX13_laysLengths_124 (by decide) rfl (fun c91 => ?_) (fun c91 => ?_)
                  · refine wq_iconst dX13_laysLengths_127 ?_
                    refine wq_goto 132 dX13_laysLengths_128 (by decide) ?_
                    refine wq_istore_n (lv' := [(1, vi 1), (0, vr Z 26 0), (2, vi s81.2)]) dX13_laysLengths_132 rfl (by decide) rfl ?_
                    refine wq_iinc (lv' := [(2, vi (s81.2 + 1)), (1, vi 1), (0, vr Z 26 0)]) dX13_laysLengths_133 2 rfl (by decide) rfl ?_
                    refine wq_goto 51 dX13_laysLengths_136 (by decide) ?_
                    exact WQ.loc [2, 1, 0] rfl (bk76 _ _ _)
                  · refine wq_iconst dX13_laysLengths_131 ?_
                    refine wq_istore_n (lv' := [(1, vi 0), (0, vr Z 26 0), (2, vi s81.2)]) dX13_laysLengths_132 rfl (by decide) rfl ?_
                    refine wq_iinc (lv' := [(2, vi (s81.2 + 1)), (1, vi 0), (0, vr Z 26 0)]) dX13_laysLengths_133 2 rfl (by decide) rfl ?_
                    refine wq_goto 51 dX13_laysLengths_136 (by decide) ?_
                    exact WQ.loc [2, 1, 0] rfl (bk76 _ _ _)
                · refine wq_iconst dX13_laysLengths_127 ?_
                  refine wq_goto 132 dX13_laysLengths_128 (by decide) ?_
                  refine wq_istore_n (lv' := [(1, vi 1), (0, vr Z 26 0), (2, vi s81.2)]) dX13_laysLengths_132 rfl (by decide) rfl ?_
                  refine wq_iinc (lv' := [(2, vi (s81.2 + 1)), (1, vi 1), (0, vr Z 26 0)]) dX13_laysLengths_133 2 rfl (by decide) rfl ?_
                  refine wq_goto 51 dX13_laysLengths_136 (by decide) ?_
                  exact WQ.loc [2, 1, 0] rfl (bk76 _ _ _)
          · exact WQ.loc [0, 1] rfl (ex77 _ _ _)
        · refine wq_goto 43 dX13_laysLengths_139 (by decide) ?_
          exact WQ.loc [0, 1] rfl (bk69 _ _ _)
    · exact wq_vret rfl rfl dX13_laysLengths_142

theorem M_M_laysLengths : MwV yX13_laysLengths cX13_laysLengths 3 (none) 0 := ⟨li_8 19 (by decide +kernel) (by decide +kernel), li_8 18 (by decide +kernel) (by decide +kernel), lw_in 68 (by decide +kernel) (by decide +kernel), li_1 16 (by decide +kernel) (by decide +kernel), by decide +kernel⟩
theorem ln_RX13_137 : Cond.methodLink RX13 137 yX13_laysLengths ∈ lw_good := li_8 16 (by decide +kernel) (by decide +kernel)
noncomputable def f_M_textLong  (I : Mem) : Option ((Int) × Mem) :=
bnd (f_M_laysLengths I) fun _ J2 =>
bnd (f_M_lengthOf 0 J2) fun x6 J5 =>
some (x6, J5)
set_option maxRecDepth 20000 in
theorem R_M_textLong (Z : ZT)  (I : Mem) (r : Int) (J : Mem) (hf : f_M_textLong I = some (r, J)) : Runs Z yX13_textLong cX13_textLong 1 (some .int) 4 [vr Z 26 0] I (some (vi r), J) := by
  refine Runs.of (rv := fun x => some (vi x)) (by decide +kernel) (Nat.le_of_ble_eq_true rfl) hf (fun gr => ?_)
  unfold f_M_textLong
  refine WQ.loc [0] (lv' := [(0, vr Z 26 0)]) rfl ?_
  refine wq_aload_n dX13_textLong_0 0 rfl rfl ?_
  refine wq_cVv M_M_laysLengths (R_M_laysLengths Z _) ob_26 rfl rfl (by decide) (by decide) (Nat.le_of_ble_eq_true rfl) ln_RX13_137 dX13_textLong_1 (fun gr1 _ J2 => ?_)
  refine wq_aload_n dX13_textLong_4 0 rfl rfl ?_
  refine wq_iconst dX13_textLong_5 ?_
  refine wq_cVi M_M_lengthOf (R_M_lengthOf Z 0 _) ob_26 rfl rfl (by decide) (by decide) (Nat.le_of_ble_eq_true rfl) ln_RX13_134 dX13_textLong_6 (fun gr4 x6 J5 => ?_)
  exact wq_iret rfl rfl dX13_textLong_9

theorem ln_RX13_43 : Cond.fieldLink RX13 43 RX13 "inRow" "[I" ∈ lw_good := li_7 67 (by decide +kernel) (by decide +kernel)
theorem ln_RX13_46 : Cond.fieldLink RX13 46 RX13 "inPlace" "[I" ∈ lw_good := li_7 68 (by decide +kernel) (by decide +kernel)
theorem ln_RX13_37 : Cond.fieldLink RX13 37 RX13 "unfolded" "[I" ∈ lw_good := li_7 65 (by decide +kernel) (by decide +kernel)
theorem ln_RX13_40 : Cond.fieldLink RX13 40 RX13 "madeBy" "[I" ∈ lw_good := li_7 66 (by decide +kernel) (by decide +kernel)
noncomputable def f_M_unfolds_j88 (v1 : Int) (v2 : Int) (v3 : Int) (v4 : Int)  (e0 : Int) (I : Mem) : Option (((Int × Int) ⊕ (Int)) × Mem) :=
if (w32 v4) = 0 then
if (w32 e0) < 26 then
if 0 ≤ (w32 v1) ∧ (w32 v1) < 401 then
ltI (sI I 27 7 (w32 v1).toNat e0) fun J26 =>
ltI (sI J26 27 8 (w32 v1).toNat v2) fun J27 =>
if 0 < (w32 v3) then
if 0 ≤ (w32 v3) ∧ (w32 v3) < 42 then
ltI (sI J27 27 10 (w32 v3).toNat ((J27 27 10 (w32 v3).toNat) + 1)) fun J29 =>
some (.inl ((v1 + 1), v3), J29)
else none
else
some (.inl ((v1 + 1), (-1)), J27)
else none
else
if 0 ≤ (w32 (v3 + 1)) ∧ (w32 (v3 + 1)) < 42 then
ltI (sI I 27 9 (w32 (v3 + 1)).toNat ((e0 - 26) + 1)) fun J23 =>
ltI (sI J23 27 10 (w32 (v3 + 1)).toNat 0) fun J24 =>
some (.inl (v1, (v3 + 1)), J24)
else none
else
if 0 < (w32 (v3 + (-1))) then
if 0 ≤ (w32 (v3 + (-1))) ∧ (w32 (v3 + (-1))) < 42 then
ltI (sI I 27 10 (w32 (v3 + (-1))).toNat ((I 27 10 (w32 (v3 + (-1))).toNat) + 1)) fun J33 =>
some (.inl (v1, (v3 + (-1))), J33)
else none
else
some (.inl (v1, (-1)), I)

noncomputable def f_M_unfolds_j61 (v1 : Int) (v2 : Int) (v3 : Int)  (e0 : Int) (I : Mem) : Option (((Int × Int) ⊕ (Int)) × Mem) :=
if (w32 e0) = 0 then
if 0 ≤ (w32 v3) ∧ (w32 v3) < 42 then
bnd (f_M_at (I 27 9 (w32 v3).toNat) (I 27 10 (w32 v3).toNat) I) fun x20 J19 =>
f_M_unfolds_j88 v1 v2 v3 e0 x20 J19
else none
else
f_M_unfolds_j88 v1 v2 v3 e0 0 I

noncomputable def f_M_unfolds_j60 (v1 : Int) (v2 : Int) (v3 : Int)   (I : Mem) : Option (((Int × Int) ⊕ (Int)) × Mem) :=
f_M_unfolds_j61 v1 v2 v3 0 I

noncomputable def f_M_unfolds_w29 (v2 : Int) (s : Int × Int) (I : Mem) : Option (((Int × Int) ⊕ (Int)) × Mem) :=
if (w32 s.2) < 0 then
some (.inr s.1, I)
else
if 0 < (w32 s.2) then
if 0 ≤ (w32 s.2) ∧ (w32 s.2) < 42 then
bnd (f_M_many (I 27 9 (w32 s.2).toNat) I) fun x13 J12 =>
if (w32 (I 27 10 (w32 s.2).toNat)) = (w32 x13) then
f_M_unfolds_j61 s.1 v2 s.2 1 J12
else
f_M_unfolds_j60 s.1 v2 s.2 J12
else none
else
f_M_unfolds_j60 s.1 v2 s.2 I

noncomputable def f_M_unfolds_w4  (s : Int × Int) (I : Mem) : Option (((Int × Int) ⊕ (Int)) × Mem) :=
bnd (f_M_many 0 I) fun x3 J2 =>
if (w32 s.2) < (w32 x3) then
ltI (sI J2 27 9 0 0) fun J5 =>
ltI (sI J5 27 10 0 s.2) fun J7 =>
bnd (whl (f_M_unfolds_w29 s.2) (s.1, 0) J7) fun r121 J122 =>
some (.inl (r121, (s.2 + 1)), J122)
else
some (.inr s.1, J2)

noncomputable def f_M_unfolds  (I : Mem) : Option ((Int) × Mem) :=
bnd (whl (f_M_unfolds_w4) (0, 0) I) fun r185 J186 =>
some (r185, J186)
set_option maxRecDepth 20000 in
theorem R_M_unfolds (Z : ZT)  (I : Mem) (r : Int) (J : Mem) (hf : f_M_unfolds I = some (r, J)) : Runs Z yX13_unfolds cX13_unfolds 6 (some .int) 2 [vr Z 26 0] I (some (vi r), J) := by
  refine Runs.of (rv := fun x => some (vi x)) (by decide +kernel) (Nat.le_of_ble_eq_true rfl) hf (fun gr => ?_)
  unfold f_M_unfolds
  refine WQ.loc [0] (lv' := [(0, vr Z 26 0)]) rfl ?_
  refine wq_iconst dX13_unfolds_0 ?_
  refine wq_istore_n (lv' := [(1, vi 0), (0, vr Z 26 0)]) dX13_unfolds_1 rfl (by decide) rfl ?_
  refine wq_iconst dX13_unfolds_2 ?_
  refine wq_istore_n (lv' := [(2, vi 0), (1, vi 0), (0, vr Z 26 0)]) dX13_unfolds_3 rfl (by decide) rfl ?_
  refine WQ.loc [2, 1, 0] (lv' := [(0, vr Z 26 0), (1, vi 0), (2, vi 0)]) rfl ?_
  refine wq_loopS (fun s131 => [(0, vr Z 26 0), (1, vi s131.1), (2, vi s131.2)]) 199 (fun r185 => [(1, vi r185)]) (fun κ125 bk126 ex127 gr130 s131 J129 => ?_) (fun gr187 r185 J186 => ?_) gr _ rfl
  · unfold f_M_unfolds_w4
    refine wq_iload_n dX13_unfolds_4 2 rfl rfl ?_
    refine wq_aload_n dX13_unfolds_5 0 rfl rfl ?_
    refine wq_iconst dX13_unfolds_6 ?_
    refine wq_cVi M_M_many (R_M_many Z 0 _) ob_26 rfl rfl (by decide) (by decide) (Nat.le_of_ble_eq_true rfl) ln_RX13_103 dX13_unfolds_7 (fun gr132 x134 J133 => ?_)
    refine wq_icmp_ge 199 dX13_unfolds_10 (by decide) rfl rfl (fun c184 => ?_) (fun c184 => ?_)
    · refine wq_iconst dX13_unfolds_13 ?_
      refine wq_istore_n (lv' := [(3, vi 0), (0, vr Z 26 0), (1, vi s131.1), (2, vi s131.2)]) dX13_unfolds_14 rfl (by decide) rfl ?_
      refine wq_aload_n dX13_unfolds_15 1 rfl rfl ?_
      refine g_26_13 ln_RX13_43 dX13_unfolds_16 ?_
      refine wq_iconst dX13_unfolds_19 ?_
      refine wq_iconst dX13_unfolds_20 ?_
      refine wq_iast (k := 27) (i := 9) (fun _ _ => rfl) (by decide) rfl rfl (m := 42) (by decide) (Nat.le_of_ble_eq_true rfl) (by decide) (by decide) (by decide) dX13_unfolds_21 (fun J136 => ?_)
      refine wq_aload_n dX13_unfolds_22 1 rfl rfl ?_
      refine g_26_14 ln_RX13_46 dX13_unfolds_23 ?_
      refine wq_iconst dX13_unfolds_26 ?_
      refine wq_iload_n dX13_unfolds_27 3 rfl rfl ?_
      refine wq_iast (k := 27) (i := 10) (fun _ _ => rfl) (by decide) rfl rfl (m := 42) (by decide) (Nat.le_of_ble_eq_true rfl) (by decide) (by decide) (by decide) dX13_unfolds_28 (fun J138 => ?_)
      refine WQ.loc [1, 2, 3, 0] (lv' := [(0, vr Z 26 0), (1, vi s131.1), (2, vi s131.2), (3, vi 0)]) rfl ?_
      refine wq_loopS (fun s145 => [(0, vr Z 26 0), (1, vi s145.1), (2, vi s131.2), (3, vi s145.2)]) 193 (fun r181 => [(0, vr Z 26 0), (1, vi r181), (2, vi s131.2)]) (fun κ139 bk140 ex141 gr144 s145 J143 => ?_) (fun gr183 r181 J182 => ?_) gr132 _ rfl
      · unfold f_M_unfolds_w29
        refine wq_iload_n dX13_unfolds_29 3 rfl rfl ?_
        refine wq_if_lt 193 dX13_unfolds_30 (by decide) rfl (fun c180 => ?_) (fun c180 => ?_)
        · exact WQ.loc [0, 1, 2] rfl (ex141 _ _ _)
        · refine wq_iload_n dX13_unfolds_33 3 rfl rfl ?_
          have hj146 : ∀ (gr155 : Nat → Nat)  (hj146e0 : Int) (J154 : Mem), WQ Z (yX13_unfolds, cX13_unfolds, 6, some .int, 2) I gr155 61 [(0, vr Z 26 0), (1, vi s145.1), (2, vi s131.2), (3, vi s145.2)] [vi hj146e0] J154 (f_M_unfolds_j61 s145.1 s131.2 s145.2 hj146e0 J154) κ139 := by
            intro gr155 hj146e0 J154
            unfold f_M_unfolds_j61
            refine wq_istore (lv' := [(4, vi hj146e0), (0, vr Z 26 0), (1, vi s145.1), (2, vi s131.2), (3, vi s145.2)]) dX13_unfolds_61 (by decide) rfl ?_
            refine wq_iload dX13_unfolds_63 0 rfl ?_
            have hj156 : ∀ (gr163 : Nat → Nat)  (hj156e0 : Int) (J162 : Mem), WQ Z (yX13_unfolds, cX13_unfolds, 6, some .int, 2) I gr163 88 [(0, vr Z 26 0), (1, vi s145.1), (2, vi s131.2), (3, vi s145.2), (4, vi hj146e0)] [vi hj156e0] J162 (f_M_unfolds_j88 s145.1 s131.2 s145.2 hj146e0 hj156e0 J162) κ139 := by
              intro gr163 hj156e0 J162
              unfold f_M_unfolds_j88
              refine wq_istore (lv' := [(5, vi hj156e0), (0, vr Z 26 0), (1, vi s145.1), (2, vi s131.2), (3, vi s145.2), (4, vi hj146e0)]) dX13_unfolds_88 (by decide) rfl ?_
              refine wq_iload dX13_unfolds_90 5 rfl ?_
              refine wq_if_eq 120 dX13_unfolds_92 (by decide) rfl (fun c177 => ?_) (fun c177 => ?_)
              · refine wq_iload dX13_unfolds_120 0 rfl ?_
                refine wq_bipush dX13_unfolds_122 (by decide) ?_
                refine wq_icmp_ge 167 dX13_unfolds_124 (by decide) rfl rfl (fun c173 => ?_) (fun c173 => ?_)
                · refine wq_aload_n dX13_unfolds_127 1 rfl rfl ?_
                  refine g_26_11 ln_RX13_37 dX13_unfolds_128 ?_
                  refine wq_iload_n dX13_unfolds_131 2 rfl rfl ?_
                  refine wq_iload dX13_unfolds_132 0 rfl ?_
                  refine wq_grd (fun g167 => ?_)
                  refine wq_iast (k := 27) (i := 7) (fun _ _ => rfl) (by decide) rfl rfl (m := 401) g167 (Nat.le_of_ble_eq_true rfl) (by decide) (by decide) (by decide) dX13_unfolds_134 (fun J168 => ?_)
                  refine wq_aload_n dX13_unfolds_135 1 rfl rfl ?_
                  refine g_26_12 ln_RX13_40 dX13_unfolds_136 ?_
                  refine wq_iload_n dX13_unfolds_139 2 rfl rfl ?_
                  refine wq_iload_n dX13_unfolds_140 3 rfl rfl ?_
                  refine wq_iast (k := 27) (i := 8) (fun _ _ => rfl) (by decide) rfl rfl (m := 401) g167 (Nat.le_of_ble_eq_true rfl) (by decide) (by decide) (by decide) dX13_unfolds_141 (fun J169 => ?_)
                  refine wq_iinc (lv' := [(1, vi (s145.1 + 1)), (5, vi hj156e0), (0, vr Z 26 0), (2, vi s131.2), (3, vi s145.2), (4, vi hj146e0)]) dX13_unfolds_142 2 rfl (by decide) rfl ?_
                  refine wq_iload_n dX13_unfolds_145 4 rfl rfl ?_
                  refine wq_if_le 162 dX13_unfolds_146 (by decide) rfl (fun c172 => ?_) (fun c172 => ?_)
                  · refine wq_aload_n dX13_unfolds_149 2 rfl rfl ?_
                    refine g_26_14 ln_RX13_46 dX13_unfolds_150 ?_
                    refine wq_iload_n dX13_unfolds_153 4 rfl rfl ?_
                    refine wq_dup2 dX13_unfolds_154 rfl rfl ?_
                    refine wq_grd (fun g170 => ?_)
                    refine wq_iald (k := 27) (i := 10) rfl (by decide) rfl rfl (m := 42) g170 (Nat.le_of_ble_eq_true rfl) dX13_unfolds_155 ?_
                    refine wq_iconst dX13_unfolds_156 ?_
                    refine wq_iadd dX13_unfolds_157 ?_
                    refine wq_iast (k := 27) (i := 10) (fun _ _ => rfl) (by decide) rfl rfl (m := 42) g170 (Nat.le_of_ble_eq_true rfl) (by decide) (by decide) (by decide) dX13_unfolds_158 (fun J171 => ?_)
                    refine wq_goto 190 dX13_unfolds_159 (by decide) ?_
                    refine wq_goto 29 dX13_unfolds_190 (by decide) ?_
                    exact WQ.loc [2, 0, 3, 4] rfl (bk140 _ _ _)
                  · refine wq_iconst dX13_unfolds_162 ?_
                    refine wq_istore_n (lv' := [(3, vi (-1)), (1, vi (s145.1 + 1)), (5, vi hj156e0), (0, vr Z 26 0), (2, vi s131.2), (4, vi hj146e0)]) dX13_unfolds_163 rfl (by decide) rfl ?_
                    refine wq_goto 190 dX13_unfolds_164 (by decide) ?_
                    refine wq_goto 29 dX13_unfolds_190 (by decide) ?_
                    exact WQ.loc [3, 1, 4, 0] rfl (bk140 _ _ _)
                · refine wq_iinc (lv' := [(3, vi (s145.2 + 1)), (5, vi hj156e0), (0, vr Z 26 0), (1, vi s145.1), (2, vi s131.2), (4, vi hj146e0)]) dX13_unfolds_167 4 rfl (by decide) rfl ?_
                  refine wq_aload_n dX13_unfolds_170 2 rfl rfl ?_
                  refine g_26_13 ln_RX13_43 dX13_unfolds_171 ?_
                  refine wq_iload_n dX13_unfolds_174 0 rfl rfl ?_
                  refine wq_iload dX13_unfolds_175 1 rfl ?_
                  refine wq_bipush dX13_unfolds_177 (by decide) ?_
                  refine wq_isub dX13_unfolds_179 ?_
                  refine wq_iconst dX13_unfolds_180 ?_
                  refine wq_iadd dX13_unfolds_181 ?_
                  refine wq_grd (fun g164 => ?_)
                  refine wq_iast (k := 27) (i := 9) (fun _ _ => rfl) (by decide) rfl rfl (m := 42) g164 (Nat.le_of_ble_eq_true rfl) (by decide) (by decide) (by decide) dX13_unfolds_182 (fun J165 => ?_)
                  refine wq_aload_n dX13_unfolds_183 2 rfl rfl ?_
                  refine g_26_14 ln_RX13_46 dX13_unfolds_184 ?_
                  refine wq_iload_n dX13_unfolds_187 0 rfl rfl ?_
                  refine wq_iconst dX13_unfolds_188 ?_
                  refine wq_iast (k := 27) (i := 10) (fun _ _ => rfl) (by decide) rfl rfl (m := 42) g164 (Nat.le_of_ble_eq_true rfl) (by decide) (by decide) (by decide) dX13_unfolds_189 (fun J166 => ?_)
                  refine wq_goto 29 dX13_unfolds_190 (by decide) ?_
                  exact WQ.loc [2, 3, 4, 0] rfl (bk140 _ _ _)
              · refine wq_iinc (lv' := [(3, vi (s145.2 + (-1))), (5, vi hj156e0), (0, vr Z 26 0), (1, vi s145.1), (2, vi s131.2), (4, vi hj146e0)]) dX13_unfolds_95 4 rfl (by decide) rfl ?_
                refine wq_iload_n dX13_unfolds_98 0 rfl rfl ?_
                refine wq_if_le 115 dX13_unfolds_99 (by decide) rfl (fun c176 => ?_) (fun c176 => ?_)
                · refine wq_aload_n dX13_unfolds_102 2 rfl rfl ?_
                  refine g_26_14 ln_RX13_46 dX13_unfolds_103 ?_
                  refine wq_iload_n dX13_unfolds_106 0 rfl rfl ?_
                  refine wq_dup2 dX13_unfolds_107 rfl rfl ?_
                  refine wq_grd (fun g174 => ?_)
                  refine wq_iald (k := 27) (i := 10) rfl (by decide) rfl rfl (m := 42) g174 (Nat.le_of_ble_eq_true rfl) dX13_unfolds_108 ?_
                  refine wq_iconst dX13_unfolds_109 ?_
                  refine wq_iadd dX13_unfolds_110 ?_
                  refine wq_iast (k := 27) (i := 10) (fun _ _ => rfl) (by decide) rfl rfl (m := 42) g174 (Nat.le_of_ble_eq_true rfl) (by decide) (by decide) (by decide) dX13_unfolds_111 (fun J175 => ?_)
                  refine wq_goto 190 dX13_unfolds_112 (by decide) ?_
                  refine wq_goto 29 dX13_unfolds_190 (by decide) ?_
                  exact WQ.loc [2, 3, 4, 0] rfl (bk140 _ _ _)
                · refine wq_iconst dX13_unfolds_115 ?_
                  refine wq_istore_n (lv' := [(3, vi (-1)), (5, vi hj156e0), (0, vr Z 26 0), (1, vi s145.1), (2, vi s131.2), (4, vi hj146e0)]) dX13_unfolds_116 rfl (by decide) rfl ?_
                  refine wq_goto 190 dX13_unfolds_117 (by decide) ?_
                  refine wq_goto 29 dX13_unfolds_190 (by decide) ?_
                  exact WQ.loc [2, 3, 4, 0] rfl (bk140 _ _ _)
            refine wq_if_eq 72 dX13_unfolds_65 (by decide) rfl (fun c161 => ?_) (fun c161 => ?_)
            · refine wq_aload_n dX13_unfolds_72 1 rfl rfl ?_
              refine wq_aload_n dX13_unfolds_73 1 rfl rfl ?_
              refine g_26_13 ln_RX13_43 dX13_unfolds_74 ?_
              refine wq_iload_n dX13_unfolds_77 4 rfl rfl ?_
              refine wq_grd (fun g157 => ?_)
              refine wq_iald (k := 27) (i := 9) rfl (by decide) rfl rfl (m := 42) g157 (Nat.le_of_ble_eq_true rfl) dX13_unfolds_78 ?_
              refine wq_aload_n dX13_unfolds_79 1 rfl rfl ?_
              refine g_26_14 ln_RX13_46 dX13_unfolds_80 ?_
              refine wq_iload_n dX13_unfolds_83 4 rfl rfl ?_
              refine wq_iald (k := 27) (i := 10) rfl (by decide) rfl rfl (m := 42) g157 (Nat.le_of_ble_eq_true rfl) dX13_unfolds_84 ?_
              refine wq_cVi M_M_at (R_M_at Z (J154 27 9 (w32 s145.2).toNat) (J154 27 10 (w32 s145.2).toNat) _) ob_26 rfl rfl (by decide) (by decide) (Nat.le_of_ble_eq_true rfl) ln_RX13_119 dX13_unfolds_85 (fun gr158 x160 J159 => ?_)
              exact WQ.loc [1, 2, 3, 4, 0] rfl (hj156 _  _ _)
            · refine wq_iconst dX13_unfolds_68 ?_
              refine wq_goto 88 dX13_unfolds_69 (by decide) ?_
              exact WQ.loc [1, 2, 3, 4, 0] rfl (hj156 _  _ _)
          have hj147 : ∀ (gr179 : Nat → Nat)   (J178 : Mem), WQ Z (yX13_unfolds, cX13_unfolds, 6, some .int, 2) I gr179 60 [(0, vr Z 26 0), (1, vi s145.1), (2, vi s131.2), (3, vi s145.2)] [] J178 (f_M_unfolds_j60 s145.1 s131.2 s145.2 J178) κ139 := by
            intro gr179 J178
            unfold f_M_unfolds_j60
            refine wq_iconst dX13_unfolds_60 ?_
            exact WQ.loc [0, 1, 2, 3] rfl (hj146 _  _ _)
          refine wq_if_le 60 dX13_unfolds_34 (by decide) rfl (fun c153 => ?_) (fun c153 => ?_)
          · refine wq_aload_n dX13_unfolds_37 0 rfl rfl ?_
            refine g_26_14 ln_RX13_46 dX13_unfolds_38 ?_
            refine wq_iload_n dX13_unfolds_41 3 rfl rfl ?_
            refine wq_grd (fun g148 => ?_)
            refine wq_iald (k := 27) (i := 10) rfl (by decide) rfl rfl (m := 42) g148 (Nat.le_of_ble_eq_true rfl) dX13_unfolds_42 ?_
            refine wq_aload_n dX13_unfolds_43 0 rfl rfl ?_
            refine wq_aload_n dX13_unfolds_44 0 rfl rfl ?_
            refine g_26_13 ln_RX13_43 dX13_unfolds_45 ?_
            refine wq_iload_n dX13_unfolds_48 3 rfl rfl ?_
            refine wq_iald (k := 27) (i := 9) rfl (by decide) rfl rfl (m := 42) g148 (Nat.le_of_ble_eq_true rfl) dX13_unfolds_49 ?_
            refine wq_cVi M_M_many (R_M_many Z (J143 27 9 (w32 s145.2).toNat) _) ob_26 rfl rfl (by decide) (by decide) (Nat.le_of_ble_eq_true rfl) ln_RX13_103 dX13_unfolds_50 (fun gr149 x151 J150 => ?_)
            refine wq_icmp_ne 60 dX13_unfolds_53 (by decide) rfl rfl (fun c152 => ?_) (fun c152 => ?_)
            · refine wq_iconst dX13_unfolds_56 ?_
              refine wq_goto 61 dX13_unfolds_57 (by decide) ?_
              exact WQ.loc [0, 1, 2, 3] rfl (hj146 _  _ _)
            · exact WQ.loc [0, 1, 2, 3] rfl (hj147 _   _)
          · exact WQ.loc [0, 1, 2, 3] rfl (hj147 _   _)
      · refine wq_iinc (lv' := [(2, vi (s131.2 + 1)), (0, vr Z 26 0), (1, vi r181)]) dX13_unfolds_193 2 rfl (by decide) rfl ?_
        refine wq_goto 4 dX13_unfolds_196 (by decide) ?_
        exact WQ.loc [1, 2, 0] rfl (bk126 _ _ _)
    · exact WQ.loc [1] rfl (ex127 _ _ _)
  · refine wq_iload_n dX13_unfolds_199 0 rfl rfl ?_
    exact wq_iret rfl rfl dX13_unfolds_200

theorem M_M_unfolds : MwV yX13_unfolds cX13_unfolds 6 (some .int) 0 := ⟨li_7 38 (by decide +kernel) (by decide +kernel), li_7 37 (by decide +kernel) (by decide +kernel), lw_in 52 (by decide +kernel) (by decide +kernel), li_1 16 (by decide +kernel) (by decide +kernel), by decide +kernel⟩
theorem M_M_rules : MwV yX13_rules cX13_rules 3 (some .int) 0 := ⟨li_7 46 (by decide +kernel) (by decide +kernel), li_7 45 (by decide +kernel) (by decide +kernel), lw_in 54 (by decide +kernel) (by decide +kernel), li_1 16 (by decide +kernel) (by decide +kernel), by decide +kernel⟩
theorem ln_RX13_144 : Cond.methodLink RX13 144 yX13_rules ∈ lw_good := li_7 43 (by decide +kernel) (by decide +kernel)
theorem ln_RX13_140 : Cond.methodLink RX13 140 yX13_unfolds ∈ lw_good := li_7 35 (by decide +kernel) (by decide +kernel)
noncomputable def f_M_tellsText_w12  (s : Int) (I : Mem) : Option (((Int) ⊕ (Unit)) × Mem) :=
if (w32 s) < (w32 (I 27 0 3)) then
if 0 ≤ (w32 s) ∧ (w32 s) < 401 then
if 0 ≤ (w32 (16460 + s)) ∧ (w32 (16460 + s)) < 16860 then
ltI (sI I 27 0 (w32 (16460 + s)).toNat (I 27 7 (w32 s).toNat)) fun J9 =>
some (.inl (s + 1), J9)
else none
else none
else
some (.inr (), I)

noncomputable def f_M_tellsText  (I : Mem) : Option ((Unit) × Mem) :=
bnd (f_M_unfolds I) fun x3 J2 =>
ltI (sI J2 27 0 3 x3) fun J5 =>
bnd (whl (f_M_tellsText_w12) 0 J5) fun r23 J24 =>
bnd (f_M_rules J24) fun x28 J27 =>
ltI (sI J27 27 0 4 x28) fun J30 =>
some ((), J30)
set_option maxRecDepth 20000 in
theorem R_M_tellsText (Z : ZT)  (I : Mem) (r : Unit) (J : Mem) (hf : f_M_tellsText I = some (r, J)) : Runs Z yX13_tellsText cX13_tellsText 2 (none) 4 [vr Z 26 0] I (none, J) := by
  refine Runs.of (rv := fun _ => none) (by decide +kernel) (Nat.le_of_ble_eq_true rfl) hf (fun gr => ?_)
  unfold f_M_tellsText
  refine WQ.loc [0] (lv' := [(0, vr Z 26 0)]) rfl ?_
  refine wq_aload_n dX13_tellsText_0 0 rfl rfl ?_
  refine g_26_0 ln_RX13_9 dX13_tellsText_1 ?_
  refine wq_iconst dX13_tellsText_4 ?_
  refine wq_aload_n dX13_tellsText_5 0 rfl rfl ?_
  refine wq_cVi M_M_unfolds (R_M_unfolds Z _) ob_26 rfl rfl (by decide) (by decide) (Nat.le_of_ble_eq_true rfl) ln_RX13_140 dX13_tellsText_6 (fun gr1 x3 J2 => ?_)
  refine wq_iast (k := 27) (i := 0) (fun _ _ => rfl) (by decide) rfl rfl (m := 16860) (by decide) (Nat.le_of_ble_eq_true rfl) (by decide) (by decide) (by decide) dX13_tellsText_9 (fun J5 => ?_)
  refine wq_iconst dX13_tellsText_10 ?_
  refine wq_istore_n (lv' := [(1, vi 0), (0, vr Z 26 0)]) dX13_tellsText_11 rfl (by decide) rfl ?_
  refine WQ.loc [1, 0] (lv' := [(0, vr Z 26 0), (1, vi 0)]) rfl ?_
  refine wq_loopS (fun s17 => [(0, vr Z 26 0), (1, vi s17)]) 44 (fun _ => [(0, vr Z 26 0)]) (fun κ11 bk12 ex13 gr16 s17 J15 => ?_) (fun gr25 r23 J24 => ?_) gr1 _ rfl
  · unfold f_M_tellsText_w12
    refine wq_iload_n dX13_tellsText_12 1 rfl rfl ?_
    refine wq_aload_n dX13_tellsText_13 0 rfl rfl ?_
    refine g_26_0 ln_RX13_9 dX13_tellsText_14 ?_
    refine wq_iconst dX13_tellsText_17 ?_
    refine wq_iald (k := 27) (i := 0) rfl (by decide) rfl rfl (m := 16860) (by decide) (Nat.le_of_ble_eq_true rfl) dX13_tellsText_18 ?_
    refine wq_icmp_ge 44 dX13_tellsText_19 (by decide) rfl rfl (fun c22 => ?_) (fun c22 => ?_)
    · refine wq_aload_n dX13_tellsText_22 0 rfl rfl ?_
      refine g_26_0 ln_RX13_9 dX13_tellsText_23 ?_
      refine wq_sipush dX13_tellsText_26 (by decide) ?_
      refine wq_iload_n dX13_tellsText_29 1 rfl rfl ?_
      refine wq_iadd dX13_tellsText_30 ?_
      refine wq_aload_n dX13_tellsText_31 0 rfl rfl ?_
      refine g_26_11 ln_RX13_37 dX13_tellsText_32 ?_
      refine wq_iload_n dX13_tellsText_35 1 rfl rfl ?_
      refine wq_grd (fun g19 => ?_)
      refine wq_iald (k := 27) (i := 7) rfl (by decide) rfl rfl (m := 401) g19 (Nat.le_of_ble_eq_true rfl) dX13_tellsText_36 ?_
      refine wq_grd (fun g20 => ?_)
      refine wq_iast (k := 27) (i := 0) (fun _ _ => rfl) (by decide) rfl rfl (m := 16860) g20 (Nat.le_of_ble_eq_true rfl) (by decide) (by decide) (by decide) dX13_tellsText_37 (fun J21 => ?_)
      refine wq_iinc (lv' := [(1, vi (s17 + 1)), (0, vr Z 26 0)]) dX13_tellsText_38 1 rfl (by decide) rfl ?_
      refine wq_goto 12 dX13_tellsText_41 (by decide) ?_
      exact WQ.loc [1, 0] rfl (bk12 _ _ _)
    · exact WQ.loc [0] rfl (ex13 _ _ _)
  · refine wq_aload_n dX13_tellsText_44 0 rfl rfl ?_
    refine g_26_0 ln_RX13_9 dX13_tellsText_45 ?_
    refine wq_iconst dX13_tellsText_48 ?_
    refine wq_aload_n dX13_tellsText_49 0 rfl rfl ?_
    refine wq_cVi M_M_rules (R_M_rules Z _) ob_26 rfl rfl (by decide) (by decide) (Nat.le_of_ble_eq_true rfl) ln_RX13_144 dX13_tellsText_50 (fun gr26 x28 J27 => ?_)
    refine wq_iast (k := 27) (i := 0) (fun _ _ => rfl) (by decide) rfl rfl (m := 16860) (by decide) (Nat.le_of_ble_eq_true rfl) (by decide) (by decide) (by decide) dX13_tellsText_53 (fun J30 => ?_)
    exact wq_vret rfl rfl dX13_tellsText_54

noncomputable def f_M_pair (a0 : Int) (a1 : Int) (I : Mem) : Option ((Int) × Mem) :=
some (((66 * a0) + a1), I)
set_option maxRecDepth 20000 in
theorem R_M_pair (Z : ZT) (a0 : Int) (a1 : Int) (I : Mem) (r : Int) (J : Mem) (hf : f_M_pair a0 a1 I = some (r, J)) : Runs Z yX13_pair cX13_pair 2 (some .int) 1 [vi a0, vi a1] I (some (vi r), J) := by
  refine Runs.of (rv := fun x => some (vi x)) (by decide +kernel) (Nat.le_of_ble_eq_true rfl) hf (fun gr => ?_)
  unfold f_M_pair
  refine WQ.loc [0, 1] (lv' := [(0, vi a0), (1, vi a1)]) rfl ?_
  refine wq_bipush dX13_pair_0 (by decide) ?_
  refine wq_iload_n dX13_pair_2 0 rfl rfl ?_
  refine wq_imul dX13_pair_3 ?_
  refine wq_iload_n dX13_pair_4 1 rfl rfl ?_
  refine wq_iadd dX13_pair_5 ?_
  exact wq_iret rfl rfl dX13_pair_6

noncomputable def f_M_isAlone (a1 : Int) (I : Mem) : Option ((Int) × Mem) :=
if 0 < (w32 a1) then
bnd (f_M_many a1 I) fun x3 J2 =>
if (w32 x3) = 2 then
some (1, J2)
else
some (0, J2)
else
some (0, I)
set_option maxRecDepth 20000 in
theorem R_M_isAlone (Z : ZT) (a1 : Int) (I : Mem) (r : Int) (J : Mem) (hf : f_M_isAlone a1 I = some (r, J)) : Runs Z yX13_isAlone cX13_isAlone 2 (some .boolean) 2 [vr Z 26 0, vi a1] I (some (vi r), J) := by
  refine Runs.of (rv := fun x => some (vi x)) (by decide +kernel) (Nat.le_of_ble_eq_true rfl) hf (fun gr => ?_)
  unfold f_M_isAlone
  refine WQ.loc [0, 1] (lv' := [(0, vr Z 26 0), (1, vi a1)]) rfl ?_
  refine wq_iload_n dX13_isAlone_0 1 rfl rfl ?_
  refine wq_if_le 17 dX13_isAlone_1 (by decide) rfl (fun c5 => ?_) (fun c5 => ?_)
  · refine wq_aload_n dX13_isAlone_4 0 rfl rfl ?_
    refine wq_iload_n dX13_isAlone_5 1 rfl rfl ?_
    refine wq_cVi M_M_many (R_M_many Z a1 _) ob_26 rfl rfl (by decide) (by decide) (Nat.le_of_ble_eq_true rfl) ln_RX13_103 dX13_isAlone_6 (fun gr1 x3 J2 => ?_)
    refine wq_iconst dX13_isAlone_9 ?_
    refine wq_icmp_ne 17 dX13_isAlone_10 (by decide) rfl rfl (fun c4 => ?_) (fun c4 => ?_)
    · refine wq_iconst dX13_isAlone_13 ?_
      refine wq_goto 18 dX13_isAlone_14 (by decide) ?_
      exact wq_zret rfl (by decide) rfl dX13_isAlone_18
    · refine wq_iconst dX13_isAlone_17 ?_
      exact wq_zret rfl (by decide) rfl dX13_isAlone_18
  · refine wq_iconst dX13_isAlone_17 ?_
    exact wq_zret rfl (by decide) rfl dX13_isAlone_18
