/-! ===== fields, arrays, calls, ends, loops ===== -/
section MEMS
variable {Z : ZT} {Y : YT} {I0 : Mem} {gr : Nat → Nat} {pc : Nat} {lv : List (Nat × Value)} {st : List Value} {I : Mem} {α : Type} {e e1 e2 : Option (α × Mem)} {κ : α → Mem → Option OT}
theorem dC_eq {I0 I J : Mem} (h : ∀ s : Nat, J 30 0 s = I 30 0 s) : dC I0 J = dC I0 I := by unfold dC; rw [h]
theorem dS_eq {I0 I J : Mem} (h : ∀ s : Nat, J 30 0 s = I 30 0 s) : dS I0 J = dS I0 I := by unfold dS; rw [h]
theorem WQ.mem {J : Mem} {pc' : Nat} {lv' : List (Nat × Value)} {st' : List Value} (hc : ∀ s : Nat, J 30 0 s = I 30 0 s)
    (h : ∀ X : XT, Bd Z X Y → ∀ (o : OT) (H : Heap) (locs : List Loc) (ls : Array Slot) (cells slots : Nat), HHA Z gr I H → (∀ q ∈ locs, zN Z q.base) → lv_has ls Y.2.2.1 lv → (∀ (H1 : Heap) (locs1 : List Loc) (ls' : Array Slot), HHA Z gr J H1 → (∀ q ∈ locs1, zN Z q.base) → lv_has ls' Y.2.2.1 lv' → WX Z X Y I0 o H1 locs1 cells slots (F0 X.2.2.2.2.1 pc' ls' st')) → WX Z X Y I0 o H locs cells slots (F0 X.2.2.2.2.1 pc ls st))
    (k : WQ Z Y I0 gr pc' lv' st' J e κ) : WQ Z Y I0 gr pc lv st I e κ := by
  intro o ho
  have kk := k o ho
  refine ⟨⟨by rw [← hc]; exact kk.1.1, by rw [← hc]; exact kk.1.2⟩, fun X B hcl H locs ls hH hlo hl => ?_⟩
  have h1 := fun H1 locs1 ls' hH1 hlo1 hl' => kk.2 X B ⟨by rw [hc]; exact hcl.1, by rw [hc]; exact hcl.2⟩ H1 locs1 ls' hH1 hlo1 hl'
  rw [dC_eq hc, dS_eq hc] at h1
  exact h X B o H locs ls _ _ hH hlo hl h1
theorem sI_30 {k i s : Nat} {v : Int} (hk : k ≠ 30) (s' : Nat) : sI I k i s v 30 0 s' = I 30 0 s' := sI_ne (fun q => hk q.1.symm)
theorem locs_put {locs : List Loc} (h : ∀ q ∈ locs, zN Z q.base) {a i : Nat} (ha : zB Z ≤ a) : ∀ q ∈ locs ++ [⟨a, i⟩], zN Z q.base := fun q hq => by
  rcases List.mem_append.mp hq with h1 | h1
  · exact h q h1
  · cases List.mem_singleton.mp h1; exact ha
/-- a field is read -/
theorem wq_get {k i fk ci N index a : Nat} {C fn fd : String} {T : u_T} {fs : List Value} {v : Value} (he : ent Z gr I k i = .inr (ci, fs)) (hi : i < ksz k) (ha : adG Z gr k i = a) (hc : cls[ci]? = some (C, T, N)) (hin : ∀ w ∈ u_ws C T N, w ∈ lw_good) (hk : fk < N) (hT : T fk = (C, fn, fd, (T fk).2.2.2)) (hv : fs[fk]? = some v)
    (hln : Cond.fieldLink Y.1.cls index C fn fd ∈ lw_good) (d : decode Y.2.1 pc = .ok (.getfield index, 3)) (kk : WQ Z Y I0 gr (pc + 3) lv (v :: st) I e κ) : WQ Z Y I0 gr pc lv (.ref a :: st) I e κ := by
  refine WQ.go (fun X B o H locs ls cells slots hH hl k1 => ?_) kk
  have hat := hH.at hi
  rw [he, ha] at hat
  have h1 : (T fk).1 = C := by rw [hT]
  have h2 : (T fk).2.1 = fn := by rw [hT]
  have h3 : (T fk).2.2.1 = fd := by rw [hT]
  exact va_get (C := C) (T := T) (N := N) (ci := ci) (Ts := lw_good) B.1 B.2.1 (fun w hw => B.2.2.2.2.1 w hw) hin B.2.2.2.1 B.2.2.2.2.2.1.1 (va_P1 hat) 0 rfl hc fk hk (ref := C) (by rw [h2, h3]; exact B.2.2.2.2.1 _ hln) (fun x hx => by rw [h1] at hx; exact hx) hv d (k1 ls hl)
/-- a field of a number is written -/
theorem wq_put {k i fk ci N index a : Nat} {C fn fd : String} {T : u_T} {ty : Nat → FieldType} {fs : List Value} {x : Int} {f : Mem → Option (α × Mem)} {v : Value} (he : ent Z gr I k i = .inr (ci, fs)) (hset : ent Z gr (sI I k i fk x) k i = .inr (ci, fs.set fk v)) (hi : i < ksz k) (ha : adG Z gr k i = a) (hc : cls[ci]? = some (C, T, N)) (hin : ∀ w ∈ u_ws C T N, w ∈ lw_good)
    (hty : ∀ k, k < N → parseFieldDescriptor (T k).2.2.1 = some (ty k)) (hnm : ∀ a, a < N → ∀ b, b < N → a ≠ b → (T a).2.1 ≠ (T b).2.1) (hk : fk < N) (hT : T fk = (C, fn, fd, false)) (hl : fk < fs.length) (hn : narrow (ty fk) v = v) (hf : fits (ty fk) v = true) (h2 : ¬ (k = 2 ∧ fk = 2)) (h10 : ¬ (k = 10 ∧ fk = 2)) (h30 : k ≠ 30)
    (hln : Cond.fieldLink Y.1.cls index C fn fd ∈ lw_good) (d : decode Y.2.1 pc = .ok (.putfield index, 3)) (kk : ∀ J : Mem, WQ Z Y I0 gr (pc + 3) lv st J (f J) κ) : WQ Z Y I0 gr pc lv (v :: .ref a :: st) I (ltI (sI I k i fk x) f) κ := by
  refine WQ.mem (sI_30 h30) (fun X B o H locs ls cells slots hH hlo hl0 k1 => ?_) (kk _)
  have hat := hH.at hi
  rw [he, ha] at hat
  have e1 : (T fk).1 = C := by rw [hT]
  have e2 : (T fk).2.1 = fn := by rw [hT]
  have e3 : (T fk).2.2.1 = fd := by rw [hT]
  have e4 : (T fk).2.2.2 = false := by rw [hT]
  have hts : ∀ w ∈ lw_good, w.before X.2.2.2.2.2.1 X.2.2.2.1 = true := fun w hw => B.2.2.2.2.1 w hw
  have hK := B.2.2.2.2.2.1.1
  have hap := va_apart (own := Y.1.cls) hts hin ty hty hnm hK hc
  obtain ⟨r, h1, cell, q1, q2, q3, q4⟩ := hat
  have hr : r = (C, T, N) := Option.some.inj (h1.symm.trans hc)
  subst hr
  obtain ⟨hS, hfc, kC, hkC, hkind⟩ := hK.1 ci _ hc
  obtain ⟨cf, kf, fi, fl, hif, hsl⟩ := hS fk hk
  have hlay := hts _ (hin _ (u_in_lay hk))
  unfold u_lay at hlay
  rw [if_neg (by rw [e4]; decide)] at hlay
  have hst := (u_facts hfc hkC (u_lays hts hin hk) hif).1
  have h6 := u_store hfc hkC hkind hlay hif (hty fk hk) hn hf
  have hlnk := hts _ hln
  rw [← e2, ← e3] at hlnk
  have hif' : X.2.2.2.1.fieldFound? C (T fk).2.1 (T fk).2.2.1 = some (cf, kf, fi, fl) := by rw [← e1]; exact hif
  refine W.putK B.1 B.2.1 (f := fl) (ref := C) ⟨B.2.2.2.1, hlnk, ⟨_, _, _, hif'⟩, hst⟩ (by rw [q2]; exact h6) q1 q3 (by rw [hsl]; exact k2_hasslot (q4 fk hk)) rfl rfl d fun H' p1 p2 p3 => ?_
  rw [hsl] at p1 ⊢
  have hHn : HHA Z gr (sI I k i fk x) H' := by
    refine hH.upd hi p2 (by rw [ha]; exact p3) ?_ (fun k' i' hi' hne => sI_ent h2 h10 hne)
    rw [hset, ha]
    exact ⟨_, hc, t_OB.to (V := updV (vp_V fs) fk v) ⟨_, p1, q2, q3, t_set q4 hap hk v⟩ (fun j _ => vp_updV_set hl v j)⟩
  exact k1 H' _ ls hHn (locs_put hlo (by rw [← ha]; exact hH.2.2.1 k i hi)) hl0
/-- an int array's element is read -/
theorem wq_iald {k i a n : Nat} {f : Nat → Int} {j j' m : Int} (he : ent Z gr I k i = arI (zC Z 0) n f) (hi : i < ksz k) (ha : adG Z gr k i = a) (hj : w32 j = j') (hin : 0 ≤ j' ∧ j' < m) (hm : m.toNat ≤ n) (d : decode Y.2.1 pc = .ok (.iaload, 1)) (kk : WQ Z Y I0 gr (pc + 1) lv (vi (f j'.toNat) :: st) I e κ) : WQ Z Y I0 gr pc lv (vi j :: .ref a :: st) I e κ := by
  refine WQ.go (fun X B o H locs ls cells slots hH hl k1 => ?_) kk
  have hat := hH.at hi
  rw [he, ha] at hat
  refine va_iald (cA := zC Z 0) (n := n) (f := fun j => Int32.ofInt (f j)) B.1 B.2.1 B.2.2.2.2.2.1.1 (va_P1 hat) 0 0 rfl rfl (w_in hj hin hm) d ?_
  rw [w_nat hj]
  exact k1 ls hl
theorem wq_zald {k i a n : Nat} {f : Nat → Int} {j j' m : Int} (he : ent Z gr I k i = arI (zC Z 1) n f) (hi : i < ksz k) (ha : adG Z gr k i = a) (hj : w32 j = j') (hin : 0 ≤ j' ∧ j' < m) (hm : m.toNat ≤ n) (d : decode Y.2.1 pc = .ok (.baload, 1)) (kk : WQ Z Y I0 gr (pc + 1) lv (vi (f j'.toNat) :: st) I e κ) : WQ Z Y I0 gr pc lv (vi j :: .ref a :: st) I e κ := by
  refine WQ.go (fun X B o H locs ls cells slots hH hl k1 => ?_) kk
  have hat := hH.at hi
  rw [he, ha] at hat
  refine va_zald (cA := zC Z 1) (n := n) (f := fun j => Int32.ofInt (f j)) B.1 B.2.1 B.2.2.2.2.2.1.1 (va_P1 hat) 0 1 rfl rfl (w_in hj hin hm) d ?_
  rw [w_nat hj]
  exact k1 ls hl
theorem wq_bald {k i a n : Nat} {f : Nat → Int} {j j' m : Int} (he : ent Z gr I k i = arI (zC Z 2) n f) (hi : i < ksz k) (ha : adG Z gr k i = a) (hj : w32 j = j') (hin : 0 ≤ j' ∧ j' < m) (hm : m.toNat ≤ n) (d : decode Y.2.1 pc = .ok (.baload, 1)) (kk : WQ Z Y I0 gr (pc + 1) lv (vi (f j'.toNat) :: st) I e κ) : WQ Z Y I0 gr pc lv (vi j :: .ref a :: st) I e κ := by
  refine WQ.go (fun X B o H locs ls cells slots hH hl k1 => ?_) kk
  have hat := hH.at hi
  rw [he, ha] at hat
  refine va_bald (cA := zC Z 2) (n := n) (f := fun j => Int32.ofInt (f j)) B.1 B.2.1 B.2.2.2.2.2.1.1 (va_P1 hat) 0 2 rfl rfl (w_in hj hin hm) d ?_
  rw [w_nat hj]
  exact k1 ls hl
/-- an array of references is read -/
theorem wq_aald {k i a n t0 : Nat} {C : String} {f : Nat → Nat} {j j' m : Int} {cA : ClassId} (he : ent Z gr I k i = arR cA n f) (ht : (tysOf Z)[t0]? = some (cA, .object C)) (hi : i < ksz k) (ha : adG Z gr k i = a) (hj : w32 j = j') (hin : 0 ≤ j' ∧ j' < m) (hm : m.toNat ≤ n) (d : decode Y.2.1 pc = .ok (.aaload, 1)) (kk : WQ Z Y I0 gr (pc + 1) lv (.ref (f j'.toNat) :: st) I e κ) : WQ Z Y I0 gr pc lv (vi j :: .ref a :: st) I e κ := by
  refine WQ.go (fun X B o H locs ls cells slots hH hl k1 => ?_) kk
  have hat := hH.at hi
  rw [he, ha] at hat
  refine va_aldq (cA := cA) (n := n) (f := fun j => some (f j)) B.1 B.2.1 B.2.2.2.2.2.1.1 (va_P1 hat) 0 t0 rfl ht (w_in hj hin hm) d ?_
  rw [w_nat hj]
  exact k1 ls hl
/-- an int array's element is written -/
theorem wq_iast {k i a n : Nat} {j j' m x : Int} {f : Mem → Option (α × Mem)} (he : ∀ J : Mem, (∀ i', J 2 i' 2 = I 2 i' 2) → ent Z gr J k i = arI (zC Z 0) n (J k i)) (hi : i < ksz k) (ha : adG Z gr k i = a) (hj : w32 j = j') (hin : 0 ≤ j' ∧ j' < m) (hm : m.toNat ≤ n) (h2 : k ≠ 2) (h10 : k ≠ 10) (h30 : k ≠ 30) (d : decode Y.2.1 pc = .ok (.iastore, 1)) (kk : ∀ J : Mem, WQ Z Y I0 gr (pc + 1) lv st J (f J) κ) : WQ Z Y I0 gr pc lv (vi x :: vi j :: .ref a :: st) I (ltI (sI I k i j'.toNat x) f) κ := by
  refine WQ.mem (sI_30 h30) (fun X B o H locs ls cells slots hH hlo hl k1 => ?_) (kk _)
  have hat := hH.at hi
  rw [he I (fun _ => rfl), ha] at hat
  have hat : H[a]? = some (vp_cell (zC Z 0) (n, .inl fun j => Int32.ofInt (I k i j))) := hat
  refine W.iast B.1 B.2.1 hat ((B.2.2.2.2.2.1.1.2 0 _ rfl).1 n (fun j => .int (Int32.ofInt (I k i j)))) (fun q => by cases q) (by show ¬ (_ < 0 ∨ (arrV _ _ _).slots.size ≤ _); rw [arrV_size]; exact w_in hj hin hm) rfl rfl d fun H1 e1 z oq => ?_
  have hHn : HHA Z gr (sI I k i j'.toNat x) H1 := by
    refine hH.upd hi z (by rw [ha]; exact oq) ?_ (fun k' i' hi' hne => sI_ent (fun q => h2 q.1) (fun q => h10 q.1) hne)
    rw [he _ (fun i' => sI_ne (fun q => h2 q.1.symm)), ha]
    show H1[a]? = some (vp_cell _ _)
    rw [e1, vp_cell_i, vp_cell_i, arrV_store, w_nat hj]
    congr 2
    funext q
    by_cases hq : q = j'.toNat
    · subst hq; simp [updV, sI]
    · simp [updV, hq, sI]
  exact k1 H1 _ ls hHn (locs_put hlo (by rw [← ha]; exact hH.2.2.1 k i hi)) hl
/-- a boolean array's element is written -/
theorem wq_zast {k i a n : Nat} {j j' m x : Int} {f : Mem → Option (α × Mem)} (he : ∀ J : Mem, ent Z gr J k i = arI (zC Z 1) n (J k i)) (hi : i < ksz k) (ha : adG Z gr k i = a) (hj : w32 j = j') (hin : 0 ≤ j' ∧ j' < m) (hm : m.toNat ≤ n) (hx : narrow .boolean (vi x) = vi x) (h2 : k ≠ 2) (h10 : k ≠ 10) (h30 : k ≠ 30) (d : decode Y.2.1 pc = .ok (.bastore, 1)) (kk : ∀ J : Mem, WQ Z Y I0 gr (pc + 1) lv st J (f J) κ) : WQ Z Y I0 gr pc lv (vi x :: vi j :: .ref a :: st) I (ltI (sI I k i j'.toNat x) f) κ := by
  refine WQ.mem (sI_30 h30) (fun X B o H locs ls cells slots hH hlo hl k1 => ?_) (kk _)
  have hat := hH.at hi
  rw [he I, ha] at hat
  have hat : H[a]? = some (vp_cell (zC Z 1) (n, .inl fun j => Int32.ofInt (I k i j))) := hat
  refine W.zast B.1 B.2.1 hat ((B.2.2.2.2.2.1.1.2 1 _ rfl).1 n (fun j => .int (Int32.ofInt (I k i j)))) (fun q => by cases q) (by show ¬ (_ < 0 ∨ (arrV _ _ _).slots.size ≤ _); rw [arrV_size]; exact w_in hj hin hm) rfl rfl d fun H1 e1 z oq => ?_
  have hHn : HHA Z gr (sI I k i j'.toNat x) H1 := by
    refine hH.upd hi z (by rw [ha]; exact oq) ?_ (fun k' i' hi' hne => sI_ent (fun q => h2 q.1) (fun q => h10 q.1) hne)
    rw [he, ha]
    show H1[a]? = some (vp_cell _ _)
    rw [e1, vp_cell_i, vp_cell_i, arrV_store, w_nat hj, hx]
    congr 2
    funext q
    by_cases hq : q = j'.toNat
    · subst hq; simp [updV, sI]
    · simp [updV, hq, sI]
  exact k1 H1 _ ls hHn (locs_put hlo (by rw [← ha]; exact hH.2.2.1 k i hi)) hl
/-- an array's length -/
theorem wq_alen {k i a t0 : Nat} {ty : FieldType} {x : vp_A} {cA : ClassId} {m : Int} (he : ent Z gr I k i = .inl (cA, x)) (ht : (tysOf Z)[t0]? = some (cA, ty)) (hi : i < ksz k) (ha : adG Z gr k i = a) (hx : Int32.ofNat x.1 = Int32.ofInt m) (d : decode Y.2.1 pc = .ok (.arraylength, 1)) (kk : WQ Z Y I0 gr (pc + 1) lv (vi m :: st) I e κ) : WQ Z Y I0 gr pc lv (.ref a :: st) I e κ := by
  refine WQ.go (fun X B o H locs ls cells slots hH hl k1 => ?_) kk
  have hat := hH.at hi
  rw [he, ha] at hat
  exact va_alen (cA := cA) (x := x) B.1 B.2.1 B.2.2.2.2.2.1.1 (va_P1 hat) 0 t0 rfl ht hx d (k1 ls hl)
end MEMS
