/-! ===== splits, switches, static things ===== -/
section PRIMS
variable {Z : ZT} {Y : YT} {I0 : Mem} {gr : Nat → Nat} {pc : Nat} {lv : List (Nat × Value)} {st : List Value} {I : Mem} {α : Type} {e e1 e2 : Option (α × Mem)} {κ : α → Mem → Option OT}
theorem WQ.split {c : Prop} [Decidable c] (k1 : c → WQ Z Y I0 gr pc lv st I e1 κ) (k2 : ¬ c → WQ Z Y I0 gr pc lv st I e2 κ) : WQ Z Y I0 gr pc lv st I (if c then e1 else e2) κ := by
  by_cases hc : c
  · rw [if_pos hc]; exact k1 hc
  · rw [if_neg hc]; exact k2 hc
theorem WQ.both (c : Prop) [Decidable c] (k : WQ Z Y I0 gr pc lv st I (if c then e else e) κ) : WQ Z Y I0 gr pc lv st I e κ := by rw [ite_self] at k; exact k
theorem WQ.top {x y : Int} (h : x = y) (k : WQ Z Y I0 gr pc lv (vi x :: st) I e κ) : WQ Z Y I0 gr pc lv (vi y :: st) I e κ := h ▸ k
theorem WQ.lt {β : Type} {x : β} {f : β → Option (α × Mem)} (k : WQ Z Y I0 gr pc lv st I (f x) κ) : WQ Z Y I0 gr pc lv st I (ltI x f) κ := k
theorem wq_tin {x x' n dflt lo hi off : Int} {offs : Array Int} {len : Nat} (tgt : Nat) (d : decode Y.2.1 pc = .ok (.tableswitch dflt lo hi offs, len)) (hx : w32 x = x') (hc : x' = n) (h1 : lo ≤ n) (h2 : n ≤ hi) (ho : offs[(n - lo).toNat]? = some off) (ht : (pc : Int) + off = (tgt : Int)) (k : WQ Z Y I0 gr tgt lv st I e κ) : WQ Z Y I0 gr pc lv (vi x :: st) I e κ :=
  WQ.go (fun _ B _ _ _ ls _ _ _ hl kk => lv_tableIn B.1 B.2.1 d (by rw [w_toInt, hx, hc]; omega) (by rw [w_toInt, hx, hc]; omega) (by rw [w_toInt, hx, hc]; exact ho) ht (kk ls hl)) k
theorem wq_tout {x x' dflt lo hi : Int} {offs : Array Int} {len : Nat} (tgt : Nat) (d : decode Y.2.1 pc = .ok (.tableswitch dflt lo hi offs, len)) (hx : w32 x = x') (hc : x' < lo ∨ hi < x') (ht : (pc : Int) + dflt = (tgt : Int)) (k : WQ Z Y I0 gr tgt lv st I e κ) : WQ Z Y I0 gr pc lv (vi x :: st) I e κ :=
  WQ.go (fun _ B _ _ _ ls _ _ _ hl kk => lv_tableOut B.1 B.2.1 d (by rw [w_toInt, hx]; exact hc) ht (kk ls hl)) k
theorem wq_look {x x' dflt off : Int} {ps : Array (Int × Int)} {len : Nat} (tgt : Nat) (d : decode Y.2.1 pc = .ok (.lookupswitch dflt ps, len)) (hx : w32 x = x') (hp : (ps.toList.zip (ps.toList.drop 1)).all (fun (a, next) => a.1 < next.1) = true) (ho : Op.lookupswitch.offset ps.toList dflt x' = off) (ht : (pc : Int) + off = (tgt : Int)) (k : WQ Z Y I0 gr tgt lv st I e κ) : WQ Z Y I0 gr pc lv (vi x :: st) I e κ :=
  WQ.go (fun _ B _ _ _ ls _ _ _ hl kk => lv_lookup B.1 B.2.1 d hp (by rw [w_toInt, hx]; exact ho) ht (kk ls hl)) k
/-- the old cells stand -/
theorem old_kept {H : Heap} (hH : HHA Z gr I H) : ∀ a : Nat, a < (zH Z).size → ¬ zN Z a → H[a]? = (zH Z)[a]? := fun a h1 _ => hH.1.2.2 a (by rw [← hH.1.1]; exact h1)
theorem wq_gets {C n fd : String} {v : Value} {index : Nat} (hS : ∀ U : State, Sta Z U → va_Z C n fd v (zN Z) U (zH Z)) (hln : Cond.fieldLink Y.1.cls index C n fd ∈ lw_good) (d : decode Y.2.1 pc = .ok (.getstatic index, 3)) (k : WQ Z Y I0 gr (pc + 3) lv (v :: st) I e κ) : WQ Z Y I0 gr pc lv st I e κ :=
  WQ.go (fun X B _ _ _ ls _ _ hH hl kk => by
    obtain ⟨cf, kf, fi, f, a, cell, h1, h2, h3, h4, h5, h6, h7, h8⟩ := (hS _ B.2.2.2.2.2.1.2).kept (old_kept hH)
    exact W.gets B.1 B.2.1 B.2.2.2.1 (B.2.2.2.2.1 _ hln) h1 h2 h3 h4 h5 (fun e => by rw [e] at h6; cases h6) h7 rfl d (kk ls hl)) k
theorem sta_word (j : Nat) (hj : j < 15) (U : State) (h : Sta Z U) : va_Z RX11 (wNames.getD j "") "LPairRules$Word;" (vr Z 11 j) (zN Z) U (zH Z) := (h.1.1 j hj).1
theorem sta_WORDS (U : State) (h : Sta Z U) : va_Z RX8 "WORDS" "[LPairRules$Word;" (vr Z 32 0) (zN Z) U (zH Z) := h.2.2.2.1
theorem sta_smap (U : State) (h : Sta Z U) : va_Z RX0 "$SwitchMap$PairRules$Word" "[I" (vr Z 33 0) (zN Z) U (zH Z) := h.2.2.2.2.2.1
/-- a field of an enum constant, through a nest link -/
theorem wq_word {j index q : Nat} {host fo fn fd : String} {l : List Int32} {x : Int} (hq : wFld[q]? = some (fo, fn, fd, l)) (hj : j < 15) (hx : l.getD j 0 = Int32.ofInt x) (hln : Cond.fieldLinkNest Y.1.cls index fo fn fd host ∈ lw_nw) (d : decode Y.2.1 pc = .ok (.getfield index, 3)) (k : WQ Z Y I0 gr (pc + 3) lv (vi x :: st) I e κ) : WQ Z Y I0 gr pc lv (vr Z 11 j :: st) I e κ :=
  WQ.go (fun X B _ _ _ ls _ _ hH hl kk => by
    have hS := B.2.2.2.2.2.1.2
    obtain ⟨cf, kf, fi, f, cell, h1, h2, h3, h4, h5, h6⟩ := ((hS.1.1 j hj).2.2 _ (List.mem_of_getElem? hq)).kept (old_kept hH)
    refine va_Wgetf (v := vi x) B.1 B.2.1 B.2.2.2.1 (va_Nw.use rfl (hS.2.2.2.2.2.2.2.2.2 _ hln)) h1 h2 h3 h4 ?_ rfl rfl d (kk ls hl)
    rw [h5]; exact congrArg (fun z => some (Value.int z)) hx) k
theorem wq_wtext {j index : Nat} {host : String} (hj : j < 15) (hln : Cond.fieldLinkNest Y.1.cls index RX11 "text" "Ljava/lang/String;" host ∈ lw_nw) (d : decode Y.2.1 pc = .ok (.getfield index, 3)) (k : WQ Z Y I0 gr (pc + 3) lv (vr Z 34 j :: st) I e κ) : WQ Z Y I0 gr pc lv (vr Z 11 j :: st) I e κ :=
  WQ.go (fun X B _ _ _ ls _ _ hH hl kk => by
    have hS := B.2.2.2.2.2.1.2
    obtain ⟨cf, kf, fi, f, cell, h1, h2, h3, h4, h5, h6⟩ := (hS.2.1 j hj).kept (old_kept hH)
    exact va_Wgetf (v := vr Z 34 j) B.1 B.2.1 B.2.2.2.1 (va_Nw.use rfl (hS.2.2.2.2.2.2.2.2.2 _ hln)) h1 h2 h3 h4 h5 rfl rfl d (kk ls hl)) k
/-- the switch's table, the row of all words -/
theorem wq_smap {j j' : Int} (hj : w32 j = j') (hin : 0 ≤ j' ∧ j' < 15) (d : decode Y.2.1 pc = .ok (.iaload, 1)) (k : WQ Z Y I0 gr (pc + 1) lv (vi (wSm.getD j'.toNat 0) :: st) I e κ) : WQ Z Y I0 gr pc lv (vi j :: vr Z 33 0 :: st) I e κ :=
  WQ.go (fun X B _ _ _ ls _ _ hH hl kk => by
    obtain ⟨cell, h1, h2, h3, h4, h5, h6, h7⟩ := (B.2.2.2.2.2.1.2.2.2.2.2.2.2.1).kept (old_kept hH)
    have hi := w_in (n := 15) hj hin (Nat.le_refl _)
    have hlt : (Int32.ofInt j).toNatClampNeg < 15 := Nat.not_le.mp fun q => hi (Or.inr q)
    refine W.iald (v := vi (wSm.getD j'.toNat 0)) B.1 B.2.1 h1 h2 h3 (fun q => hi (q.elim Or.inl (fun z => Or.inr (Nat.le_trans h4 z)))) ?_ rfl rfl d (kk ls hl)
    rw [h6 _ hlt, w_nat hj]) k
theorem wq_WORDS {j j' : Int} (hj : w32 j = j') (hin : 0 ≤ j' ∧ j' < 15) (d : decode Y.2.1 pc = .ok (.aaload, 1)) (k : WQ Z Y I0 gr (pc + 1) lv (vr Z 11 j'.toNat :: st) I e κ) : WQ Z Y I0 gr pc lv (vi j :: vr Z 32 0 :: st) I e κ :=
  WQ.go (fun X B _ _ _ ls _ _ hH hl kk => by
    obtain ⟨cell, h1, h2, h3, h4, h5, h6, h7⟩ := (B.2.2.2.2.2.1.2.2.2.2.2.1).kept (old_kept hH)
    have hi := w_in (n := 15) hj hin (Nat.le_refl _)
    have hlt : (Int32.ofInt j).toNatClampNeg < 15 := Nat.not_le.mp fun q => hi (Or.inr q)
    refine W.aald (ty := .object RX11) (v := vr Z 11 j'.toNat) B.1 B.2.1 h1 h2 rfl h3 (fun q => hi (q.elim Or.inl (fun z => Or.inr (Nat.le_trans h4 z)))) ?_ rfl rfl d (kk ls hl)
    rw [h6 _ hlt, w_nat hj]) k
theorem wq_WORDSlen (d : decode Y.2.1 pc = .ok (.arraylength, 1)) (k : WQ Z Y I0 gr (pc + 1) lv (vi 15 :: st) I e κ) : WQ Z Y I0 gr pc lv (vr Z 32 0 :: st) I e κ :=
  WQ.go (fun X B _ _ _ ls _ _ hH hl kk => by
    obtain ⟨cell, h1, h2, h3, h4, h5, h6, h7⟩ := (B.2.2.2.2.2.1.2.2.2.2.2.1).kept (old_kept hH)
    exact W.alen (n := Int32.ofInt 15) B.1 B.2.1 h1 h2 (by rw [h5]; rfl) rfl rfl d (kk ls hl)) k
/-! enum constants are told apart; null -/
theorem word_inj {U : State} (h : Sta Z U) {i j : Nat} (hi : i < 15) (hj : j < 15) : some (zA Z 11 i) = some (zA Z 11 j) ↔ i = j := ⟨fun q => h.1.2 i j hi hj (Option.some.inj q), fun q => by rw [q]⟩
theorem wq_acmp_eq {off : Int} {i j : Nat} (tgt : Nat) (d : decode Y.2.1 pc = .ok (.if_acmp .eq off, 3)) (ht : (pc : Int) + off = (tgt : Int)) (hi : i < 15) (hj : j < 15) (k1 : i = j → WQ Z Y I0 gr tgt lv st I e1 κ) (k2 : ¬ i = j → WQ Z Y I0 gr (pc + 3) lv st I e2 κ) : WQ Z Y I0 gr pc lv (vr Z 11 j :: vr Z 11 i :: st) I (if i = j then e1 else e2) κ :=
  WQ.br (fun _ B _ _ _ ls _ _ _ _ h1 h2 => lv_acmp_eq (rx := some (zA Z 11 i)) (ry := some (zA Z 11 j)) B.1 B.2.1 d ht (fun q => h1 ((word_inj B.2.2.2.2.2.1.2 hi hj).mp q)) (fun q => h2 (fun r => q ((word_inj B.2.2.2.2.2.1.2 hi hj).mpr r)))) k1 k2
theorem wq_acmp_ne {off : Int} {i j : Nat} (tgt : Nat) (d : decode Y.2.1 pc = .ok (.if_acmp .ne off, 3)) (ht : (pc : Int) + off = (tgt : Int)) (hi : i < 15) (hj : j < 15) (k1 : i = j → WQ Z Y I0 gr (pc + 3) lv st I e1 κ) (k2 : ¬ i = j → WQ Z Y I0 gr tgt lv st I e2 κ) : WQ Z Y I0 gr pc lv (vr Z 11 j :: vr Z 11 i :: st) I (if i = j then e1 else e2) κ :=
  WQ.br (fun _ B _ _ _ ls _ _ _ _ h1 h2 => lv_acmp_ne (rx := some (zA Z 11 i)) (ry := some (zA Z 11 j)) B.1 B.2.1 d ht (fun q => h2 (fun r => q ((word_inj B.2.2.2.2.2.1.2 hi hj).mpr r))) (fun q => h1 ((word_inj B.2.2.2.2.2.1.2 hi hj).mp q))) k1 k2
theorem wq_ifnull {off x : Int} {kk : Nat} (tgt : Nat) (d : decode Y.2.1 pc = .ok (.ifnull off, 3)) (ht : (pc : Int) + off = (tgt : Int)) (k1 : x < 0 → WQ Z Y I0 gr tgt lv st I e1 κ) (k2 : ¬ x < 0 → WQ Z Y I0 gr (pc + 3) lv st I e2 κ) : WQ Z Y I0 gr pc lv (vrn Z kk x :: st) I (if x < 0 then e1 else e2) κ :=
  WQ.br (fun _ B _ _ _ ls _ _ _ _ h1 h2 => by
    unfold vrn
    by_cases hx : x < 0
    · rw [if_pos hx]; exact lv_ifnullN B.1 B.2.1 d ht (h1 hx)
    · rw [if_neg hx]; exact lv_ifnull B.1 B.2.1 d (h2 hx)) k1 k2
theorem WQ.nn {x : Int} {kk : Nat} (hx : 0 ≤ x) (k : WQ Z Y I0 gr pc lv (vr Z kk x.toNat :: st) I e κ) : WQ Z Y I0 gr pc lv (vrn Z kk x :: st) I e κ := by
  unfold vrn; rw [if_neg (by omega)]; exact k
/-! Math -/
def imx (x y : Int) : Int := if w32 x < w32 y then y else x
def imn (x y : Int) : Int := if w32 y < w32 x then y else x
def iab (x : Int) : Int := if w32 x < 0 then 0 - x else x
theorem lhs_sum {rest : List Value} {h : Nat} (hw : (rest.map fun v => v.category).sum ≤ 8) (hh : 1 ≤ h) : (rest.map fun v => v.category).sum + 13 ≤ 35 * h := by omega
theorem wq_max {x y : Int} {index : Nat} (hh : 1 ≤ Y.2.2.2.2) (hw : (st.map fun v => v.category).sum ≤ 8) (hln : Cond.methodLink Y.1.cls index Lib.Math.max.name ∈ lw_good) (hst : Cond.static Lib.Math.max.name ∈ lw_good) (hin : Cond.initialized "java/lang/Math" ∈ lw_good) (hco : Cond.code Lib.Math.max.name Lib.Math.max.code 2 (some .int) ∈ lw_good) (d : decode Y.2.1 pc = .ok (.invokestatic index, 3)) (k : WQ Z Y I0 gr (pc + 3) lv (vi (imx x y) :: st) I e κ) : WQ Z Y I0 gr pc lv (vi y :: vi x :: st) I e κ := by
  intro o ho
  have k := k o ho
  refine ⟨k.1, fun X B hc H locs ls hH hlo hl => ?_⟩
  have hw1 := fun w (hw : w ∈ lw_good) => B.2.2.2.2.1 w hw
  have hle : dC I0 I ≤ dC I0 o.2 ∧ dS I0 I ≤ dS I0 o.2 := by
    unfold dC dS; obtain ⟨q1, q2⟩ := k.1; constructor <;> omega
  refine va_mmax B.1 B.2.1 (B.2.2.1.trans hl.1.symm) B.2.2.2.1 (hw1 _ hln) (hw1 _ hst) (hw1 _ hin) (hw1 _ hco) hh (lhs_sum hw hh) hle.1 hle.2 d ?_
  have h := k.2 X B hc H locs ls hH hlo hl
  have e1 : (if Int32.ofInt x < Int32.ofInt y then Int32.ofInt y else Int32.ofInt x) = Int32.ofInt (imx x y) := by
    unfold imx; by_cases q : w32 x < w32 y
    · rw [if_pos q, if_pos ((w_lt x y).mpr q)]
    · rw [if_neg q, if_neg (fun r => q ((w_lt x y).mp r))]
  rw [e1]; exact h
theorem wq_min {x y : Int} {index : Nat} (hh : 1 ≤ Y.2.2.2.2) (hw : (st.map fun v => v.category).sum ≤ 8) (hln : Cond.methodLink Y.1.cls index Lib.Math.min.name ∈ lw_good) (hst : Cond.static Lib.Math.min.name ∈ lw_good) (hin : Cond.initialized "java/lang/Math" ∈ lw_good) (hco : Cond.code Lib.Math.min.name Lib.Math.min.code 2 (some .int) ∈ lw_good) (d : decode Y.2.1 pc = .ok (.invokestatic index, 3)) (k : WQ Z Y I0 gr (pc + 3) lv (vi (imn x y) :: st) I e κ) : WQ Z Y I0 gr pc lv (vi y :: vi x :: st) I e κ := by
  intro o ho
  have k := k o ho
  refine ⟨k.1, fun X B hc H locs ls hH hlo hl => ?_⟩
  have hw1 := fun w (hw : w ∈ lw_good) => B.2.2.2.2.1 w hw
  have hle : dC I0 I ≤ dC I0 o.2 ∧ dS I0 I ≤ dS I0 o.2 := by
    unfold dC dS; obtain ⟨q1, q2⟩ := k.1; constructor <;> omega
  refine va_mmin B.1 B.2.1 (B.2.2.1.trans hl.1.symm) B.2.2.2.1 (hw1 _ hln) (hw1 _ hst) (hw1 _ hin) (hw1 _ hco) hh (lhs_sum hw hh) hle.1 hle.2 d ?_
  have h := k.2 X B hc H locs ls hH hlo hl
  have e1 : (if Int32.ofInt y < Int32.ofInt x then Int32.ofInt y else Int32.ofInt x) = Int32.ofInt (imn x y) := by
    unfold imn; by_cases q : w32 y < w32 x
    · rw [if_pos q, if_pos ((w_lt y x).mpr q)]
    · rw [if_neg q, if_neg (fun r => q ((w_lt y x).mp r))]
  rw [e1]; exact h
theorem wq_abs {x : Int} {index : Nat} (hh : 1 ≤ Y.2.2.2.2) (hw : (st.map fun v => v.category).sum ≤ 8) (hln : Cond.methodLink Y.1.cls index Lib.Math.abs.name ∈ lw_good) (hst : Cond.static Lib.Math.abs.name ∈ lw_good) (hin : Cond.initialized "java/lang/Math" ∈ lw_good) (hco : Cond.code Lib.Math.abs.name Lib.Math.abs.code 1 (some .int) ∈ lw_good) (d : decode Y.2.1 pc = .ok (.invokestatic index, 3)) (k : WQ Z Y I0 gr (pc + 3) lv (vi (iab x) :: st) I e κ) : WQ Z Y I0 gr pc lv (vi x :: st) I e κ := by
  intro o ho
  have k := k o ho
  refine ⟨k.1, fun X B hc H locs ls hH hlo hl => ?_⟩
  have hw1 := fun w (hw : w ∈ lw_good) => B.2.2.2.2.1 w hw
  have hle : dC I0 I ≤ dC I0 o.2 ∧ dS I0 I ≤ dS I0 o.2 := by
    unfold dC dS; obtain ⟨q1, q2⟩ := k.1; constructor <;> omega
  refine va_mabs B.1 B.2.1 (B.2.2.1.trans hl.1.symm) B.2.2.2.1 (hw1 _ hln) (hw1 _ hst) (hw1 _ hin) (hw1 _ hco) hh (lhs_sum hw hh) hle.1 hle.2 d ?_
  have h := k.2 X B hc H locs ls hH hlo hl
  have e1 : (if 0 ≤ Int32.ofInt x then Int32.ofInt x else 0 - Int32.ofInt x) = Int32.ofInt (iab x) := by
    have h0 : (0 : Int32) = Int32.ofInt 0 := rfl
    unfold iab; by_cases q : w32 x < 0
    · rw [if_pos q, if_neg (fun r => (w_le 0 x).mp (by rw [← h0]; exact r) (by rw [w_0]; exact q)), h0, i_sub]
    · rw [if_neg q, if_pos (by rw [h0]; exact (w_le 0 x).mpr (by rw [w_0]; exact q))]
  rw [e1]; exact h
/-! an object of the heap, for a call on it; calls of methods that only answer -/
def Ob (Z : ZT) (gr : Nat → Nat) (I : Mem) (a : Nat) (C : String) : Prop := ∃ (k i ci N : Nat) (T : u_T) (fs : List Value), ent Z gr I k i = .inr (ci, fs) ∧ i < ksz k ∧ adG Z gr k i = a ∧ cls[ci]? = some (C, T, N)
theorem wq_cV {β : Type} {rv : β → Option Value} {f : Option (β × Mem)} {K : β → Mem → Option (α × Mem)} {y' : MethodName} {cc' : ByteArray} {maxL' h' index n a : Nat} {ret' : Option FieldType} {As rest : List Value} (hM : MwV y' cc' maxL' ret' n) (hr : ∀ (r : β) (J : Mem), f = some (r, J) → Runs Z y' cc' maxL' ret' h' (.ref a :: As) I (rv r, J))
    (hO : Ob Z gr I a y'.cls) (hn : As.length = n) (hst : st = As.reverse ++ .ref a :: rest) (hh : h' < Y.2.2.2.2) (hm : maxL' ≤ 16) (hw : (rest.map fun v => v.category).sum ≤ 8)
    (hlink : Cond.methodLink Y.1.cls index y' ∈ lw_good) (d : decode Y.2.1 pc = .ok (.invokevirtual index, 3))
    (kk : ∀ (gr' : Nat → Nat) (r : β) (J : Mem), WQ Z Y I0 gr' (pc + 3) lv ((rv r).toList ++ rest) J (K r J) κ) : WQ Z Y I0 gr pc lv st I (bnd f K) κ := by
  obtain ⟨k, i, ci, N, T, fs, h1, h2, h3, h4⟩ := hO
  exact wq_callV hM hr h1 h2 h3 h4 hn hst hh hm hw hlink d kk
theorem wq_cVi {f : Option (Int × Mem)} {K : Int → Mem → Option (α × Mem)} {y' : MethodName} {cc' : ByteArray} {maxL' h' index n a : Nat} {ret' : Option FieldType} {As rest : List Value} (hM : MwV y' cc' maxL' ret' n) (hr : ∀ (r : Int) (J : Mem), f = some (r, J) → Runs Z y' cc' maxL' ret' h' (.ref a :: As) I (some (vi r), J))
    (hO : Ob Z gr I a y'.cls) (hn : As.length = n) (hst : st = As.reverse ++ .ref a :: rest) (hh : h' < Y.2.2.2.2) (hm : maxL' ≤ 16) (hw : (rest.map fun v => v.category).sum ≤ 8)
    (hlink : Cond.methodLink Y.1.cls index y' ∈ lw_good) (d : decode Y.2.1 pc = .ok (.invokevirtual index, 3))
    (kk : ∀ (gr' : Nat → Nat) (r : Int) (J : Mem), WQ Z Y I0 gr' (pc + 3) lv (vi r :: rest) J (K r J) κ) : WQ Z Y I0 gr pc lv st I (bnd f K) κ := wq_cV (rv := fun r => some (vi r)) hM hr hO hn hst hh hm hw hlink d kk
theorem wq_cVr {f : Option (Nat × Mem)} {K : Nat → Mem → Option (α × Mem)} {y' : MethodName} {cc' : ByteArray} {maxL' h' index n a : Nat} {ret' : Option FieldType} {As rest : List Value} (q : Nat) (hM : MwV y' cc' maxL' ret' n) (hr : ∀ (r : Nat) (J : Mem), f = some (r, J) → Runs Z y' cc' maxL' ret' h' (.ref a :: As) I (some (vr Z q r), J))
    (hO : Ob Z gr I a y'.cls) (hn : As.length = n) (hst : st = As.reverse ++ .ref a :: rest) (hh : h' < Y.2.2.2.2) (hm : maxL' ≤ 16) (hw : (rest.map fun v => v.category).sum ≤ 8)
    (hlink : Cond.methodLink Y.1.cls index y' ∈ lw_good) (d : decode Y.2.1 pc = .ok (.invokevirtual index, 3))
    (kk : ∀ (gr' : Nat → Nat) (r : Nat) (J : Mem), WQ Z Y I0 gr' (pc + 3) lv (vr Z q r :: rest) J (K r J) κ) : WQ Z Y I0 gr pc lv st I (bnd f K) κ := wq_cV (rv := fun r => some (vr Z q r)) hM hr hO hn hst hh hm hw hlink d kk
theorem wq_cVv {f : Option (Unit × Mem)} {K : Unit → Mem → Option (α × Mem)} {y' : MethodName} {cc' : ByteArray} {maxL' h' index n a : Nat} {ret' : Option FieldType} {As rest : List Value} (hM : MwV y' cc' maxL' ret' n) (hr : ∀ (r : Unit) (J : Mem), f = some (r, J) → Runs Z y' cc' maxL' ret' h' (.ref a :: As) I (none, J))
    (hO : Ob Z gr I a y'.cls) (hn : As.length = n) (hst : st = As.reverse ++ .ref a :: rest) (hh : h' < Y.2.2.2.2) (hm : maxL' ≤ 16) (hw : (rest.map fun v => v.category).sum ≤ 8)
    (hlink : Cond.methodLink Y.1.cls index y' ∈ lw_good) (d : decode Y.2.1 pc = .ok (.invokevirtual index, 3))
    (kk : ∀ (gr' : Nat → Nat) (r : Unit) (J : Mem), WQ Z Y I0 gr' (pc + 3) lv rest J (K r J) κ) : WQ Z Y I0 gr pc lv st I (bnd f K) κ := wq_cV (rv := fun _ => none) hM hr hO hn hst hh hm hw hlink d kk
theorem wq_pV {v : Value} {y' : MethodName} {cc' : ByteArray} {maxL' h' index n a : Nat} {ret' : Option FieldType} {As rest : List Value} (hM : MwV y' cc' maxL' ret' n) (hr : Runs Z y' cc' maxL' ret' h' (.ref a :: As) I (some v, I))
    (hO : Ob Z gr I a y'.cls) (hn : As.length = n) (hst : st = As.reverse ++ .ref a :: rest) (hh : h' < Y.2.2.2.2) (hm : maxL' ≤ 16) (hw : (rest.map fun v => v.category).sum ≤ 8)
    (hlink : Cond.methodLink Y.1.cls index y' ∈ lw_good) (d : decode Y.2.1 pc = .ok (.invokevirtual index, 3))
    (kk : ∀ gr' : Nat → Nat, WQ Z Y I0 gr' (pc + 3) lv (v :: rest) I e κ) : WQ Z Y I0 gr pc lv st I e κ := by
  intro o ho
  obtain ⟨k, i, ci, N, T, fs, h1, h2, h3, h4⟩ := hO
  exact WP.callV hr h1 h2 h3 h4 hn hst hh hm hw hM.1 hlink hM.2.1 hM.2.2.1 hM.2.2.2.1 hM.2.2.2.2 d (fun gr' => kk gr' o ho)
theorem wq_cSi {f : Option (Int × Mem)} {K : Int → Mem → Option (α × Mem)} {y' : MethodName} {cc' : ByteArray} {maxL' h' index n : Nat} {ret' : Option FieldType} {As rest : List Value} (hM : MwS y' cc' maxL' ret' n) (hr : ∀ (r : Int) (J : Mem), f = some (r, J) → Runs Z y' cc' maxL' ret' h' As I (some (vi r), J))
    (hcl : y'.cls = Y.1.cls) (hn : As.length = n) (hst : st = As.reverse ++ rest) (hh : h' < Y.2.2.2.2) (hm : maxL' ≤ 16) (hw : (rest.map fun v => v.category).sum ≤ 8)
    (hlink : Cond.methodLink Y.1.cls index y' ∈ lw_good) (d : decode Y.2.1 pc = .ok (.invokestatic index, 3))
    (kk : ∀ (gr' : Nat → Nat) (r : Int) (J : Mem), WQ Z Y I0 gr' (pc + 3) lv (vi r :: rest) J (K r J) κ) : WQ Z Y I0 gr pc lv st I (bnd f K) κ := wq_callS (rv := fun r => some (vi r)) hM hr hcl hn hst hh hm hw hlink d kk
theorem wq_cSv {f : Option (Unit × Mem)} {K : Unit → Mem → Option (α × Mem)} {y' : MethodName} {cc' : ByteArray} {maxL' h' index n : Nat} {ret' : Option FieldType} {As rest : List Value} (hM : MwS y' cc' maxL' ret' n) (hr : ∀ (r : Unit) (J : Mem), f = some (r, J) → Runs Z y' cc' maxL' ret' h' As I (none, J))
    (hcl : y'.cls = Y.1.cls) (hn : As.length = n) (hst : st = As.reverse ++ rest) (hh : h' < Y.2.2.2.2) (hm : maxL' ≤ 16) (hw : (rest.map fun v => v.category).sum ≤ 8)
    (hlink : Cond.methodLink Y.1.cls index y' ∈ lw_good) (d : decode Y.2.1 pc = .ok (.invokestatic index, 3))
    (kk : ∀ (gr' : Nat → Nat) (r : Unit) (J : Mem), WQ Z Y I0 gr' (pc + 3) lv rest J (K r J) κ) : WQ Z Y I0 gr pc lv st I (bnd f K) κ := wq_callS (rv := fun _ => none) hM hr hcl hn hst hh hm hw hlink d kk
theorem wq_cNi {f : Option (Int × Mem)} {K : Int → Mem → Option (α × Mem)} {y' : MethodName} {cc' : ByteArray} {maxL' h' index n : Nat} {host : String} {ret' : Option FieldType} {As rest : List Value} (hM : MwS y' cc' maxL' ret' n) (hr : ∀ (r : Int) (J : Mem), f = some (r, J) → Runs Z y' cc' maxL' ret' h' As I (some (vi r), J))
    (hn : As.length = n) (hst : st = As.reverse ++ rest) (hh : h' < Y.2.2.2.2) (hm : maxL' ≤ 16) (hw : (rest.map fun v => v.category).sum ≤ 8)
    (hlink : Cond.methodLinkNest Y.1.cls index y' host ∈ lw_nw) (d : decode Y.2.1 pc = .ok (.invokestatic index, 3))
    (kk : ∀ (gr' : Nat → Nat) (r : Int) (J : Mem), WQ Z Y I0 gr' (pc + 3) lv (vi r :: rest) J (K r J) κ) : WQ Z Y I0 gr pc lv st I (bnd f K) κ := wq_callSN (rv := fun r => some (vi r)) hM hr hn hst hh hm hw hlink d kk
theorem wq_pS {v : Value} {y' : MethodName} {cc' : ByteArray} {maxL' h' index n : Nat} {ret' : Option FieldType} {As rest : List Value} (hM : MwS y' cc' maxL' ret' n) (hr : Runs Z y' cc' maxL' ret' h' As I (some v, I))
    (hcl : y'.cls = Y.1.cls) (hn : As.length = n) (hst : st = As.reverse ++ rest) (hh : h' < Y.2.2.2.2) (hm : maxL' ≤ 16) (hw : (rest.map fun v => v.category).sum ≤ 8)
    (hlink : Cond.methodLink Y.1.cls index y' ∈ lw_good) (d : decode Y.2.1 pc = .ok (.invokestatic index, 3))
    (kk : ∀ gr' : Nat → Nat, WQ Z Y I0 gr' (pc + 3) lv (v :: rest) I e κ) : WQ Z Y I0 gr pc lv st I e κ := by
  intro o ho
  exact WP.callS hr hn hst hh hm hw hM.1 hlink hM.2.1 (by rw [← hcl]; exact hM.2.2.1) ⟨hcl, hM.2.2.2⟩ d (fun gr' => kk gr' o ho)
end PRIMS
