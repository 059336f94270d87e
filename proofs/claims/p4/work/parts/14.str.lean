/-! ===== strings that are constants, the enum's ordinal, wide constants, bytes ===== -/
theorem alen_ok {x : Int} (h : 0 ≤ x) : Int32.ofNat x.toNat = Int32.ofInt x := by
  have h1 : x = (x.toNat : Int) := by omega
  rw [h1]; rfl
theorem i2b_nar (x : Int) : narrow .byte (vi (i2b x)) = vi (i2b x) := by
  unfold i2b vi; rw [Int32.ofInt_toInt]; exact pk_nb (Int32.ofInt x)
def wLen (j : Nat) : Int := (((wText.getD j []).length : Nat) : Int)
def wAt (j k : Nat) : Int := (wText.getD j []).getD k 0
/-- a receiver that is at hand -/
def Rcv (Z : ZT) (gr : Nat → Nat) (I : Mem) (a : Nat) (C : String) : Prop := ∀ (X : XT) (Y : YT), Bd Z X Y → ∀ H : Heap, HHA Z gr I H → ∃ cellB : Cell, H[a]? = some cellB ∧ cellB.vm.isStatics = false ∧ X.2.2.2.1.vm.findClass C = some cellB.cls
theorem rcv_34 {Z : ZT} {gr : Nat → Nat} {I : Mem} {j : Nat} (hj : j < 15) : Rcv Z gr I (zA Z 34 j) "java/lang/String" := fun X Y B H hH => by
  obtain ⟨cell, h1, h2, h3, -⟩ := (B.2.2.2.2.2.1.2.2.2.1.1 j hj).1.kept (old_kept hH)
  exact ⟨cell, h1, h2, h3⟩
theorem rcv_11 {Z : ZT} {gr : Nat → Nat} {I : Mem} {j : Nat} (hj : j < 15) : Rcv Z gr I (zA Z 11 j) RX11 := fun X Y B H hH => by
  obtain ⟨cell, h1, h2, h3, -⟩ := (B.2.2.2.2.2.1.2.1.1 j hj).2.1.kept (old_kept hH)
  exact ⟨cell, h1, h2, h3⟩
section STRS
variable {Z : ZT} {Y : YT} {I0 : Mem} {gr : Nat → Nat} {pc : Nat} {lv : List (Nat × Value)} {st : List Value} {I : Mem} {α : Type} {e : Option (α × Mem)} {κ : α → Mem → Option OT}
theorem wq_ldc_w {index : Nat} {n : Int} (hw : Cond.constant Y.1.cls index (Int32.ofInt n) ∈ lw_good) (d : decode Y.2.1 pc = .ok (.ldc_w index, 3)) (k : WQ Z Y I0 gr (pc + 3) lv (vi n :: st) I e κ) : WQ Z Y I0 gr pc lv st I e κ :=
  WQ.go (fun _ B _ _ _ ls _ _ _ hl kk => lv_ldcw B.1 B.2.1 B.2.2.2.1 (B.2.2.2.2.1 _ hw) d (kk ls hl)) k
theorem my_ldcW {p : Program} {l : Launch} {e : Env} {R : Room} {s : State} {m : MethodId} {args : Array Value} {below : List Frame} {meth : Method} {c : Code} {T : State} {locs : List Loc} {cells slots : Nat}
    (X : Stand p l e R s m args below meth c T locs cells slots) (hexec : p.tables.exec = Jvm.exec) {own text : String} {index : Nat} {a : Addr} (hown : s.vm.findClass own = some m.cls)
    (hconst : (Cond.stringRef own index text).before args s = true) (hev : (Term.string own index).eval args s none [] s = some (.ref a)) {g : JFrame} (hg : g.method = m) (hdg : decode c.code g.pc = .ok (.ldc_w index, 3)) :
    ∀ target, Steps p.tables e below (T.setTop { g with pc := g.pc + 3, stack := .ref a :: g.stack }) target → Steps p.tables e below (T.setTop g) target := by
  obtain ⟨k, cf, i, a', hk, hcf, hcp, -, hr, hev'⟩ := Cond.stringRef_spec hown hconst
  cases hev.symm.trans hev'
  obtain ⟨k', hk', he⟩ := X.warmed.alike.2.2 _ _ hk
  have hr' : k'.resolved[index]? = some (some (.string a)) := by
    rcases X.warmed.entry hk hk' index with h | ⟨h, -⟩
    · rw [h]; exact hr
    · rw [hr] at h; cases h
  intro target hrest
  subst hg
  jvm_step X.here [hexec, hdg, ldc_w.wp_string (e := e) (s := T) (f := g) X.here.top hk' (by rw [he]; exact hcf) hcp hr']
  exact hrest
theorem wq_ldc_ws {q : Nat × String × Nat} (hq : q ∈ wLdc) (hY : Y.1.cls = RX13) (d : decode Y.2.1 pc = .ok (.ldc_w q.1, 3)) (k : WQ Z Y I0 gr (pc + 3) lv (vr Z 34 q.2.2 :: st) I e κ) : WQ Z Y I0 gr pc lv st I e κ :=
  WQ.go (fun X B _ H _ ls _ _ _ hl kk => by
    have hR := B.2.2.2.2.2.1.2.2.2.2.2.2.2.2.2.1 q hq
    have hown := B.2.2.2.1
    rw [hY] at hown
    intro T hT S
    obtain ⟨t, a1, b1⟩ := kk ls hl T hT S
    exact ⟨t, my_ldcW S B.1 hown (text := q.2.1) (a := zA Z 34 q.2.2) hR.1 hR.2 (g := F0 _ pc ls st) rfl (by rw [B.2.1]; exact d) t a1, b1⟩) k
theorem wq_bast {n : Nat} {j j' m x : Int} {f : Mem → Option (α × Mem)} (he : ∀ J : Mem, J 10 0 2 = I 10 0 2 → ent Z gr J 25 0 = arI (zC Z 2) n (J 25 0)) (hj : w32 j = j') (hin : 0 ≤ j' ∧ j' < m) (hm : m.toNat ≤ n) (hx : narrow .byte (vi x) = vi x) (d : decode Y.2.1 pc = .ok (.bastore, 1)) (kk : ∀ J : Mem, WQ Z Y I0 gr (pc + 1) lv st J (f J) κ) : WQ Z Y I0 gr pc lv (vi x :: vi j :: .ref (gr 516) :: st) I (ltI (sI I 25 0 j'.toNat x) f) κ := by
  refine WQ.mem (sI_30 (by decide)) (fun X B o H locs ls cells slots hH hlo hl k1 => ?_) (kk _)
  have hat := hH.at (k := 25) (i := 0) (by decide)
  rw [he I rfl] at hat
  have hat : H[gr 516]? = some (vp_cell (zC Z 2) (n, .inl fun j => Int32.ofInt (I 25 0 j))) := hat
  refine W.bast B.1 B.2.1 hat ((B.2.2.2.2.2.1.1.2 2 _ rfl).1 n (fun j => .int (Int32.ofInt (I 25 0 j)))) (fun q => by cases q) (by show ¬ (_ < 0 ∨ (arrV _ _ _).slots.size ≤ _); rw [arrV_size]; exact w_in hj hin hm) rfl rfl d fun H1 e1 z oq => ?_
  have hHn : HHA Z gr (sI I 25 0 j'.toNat x) H1 := by
    refine hH.upd (k := 25) (i := 0) (by decide) z oq ?_ (fun k' i' hi' hne => sI_ent (fun q => absurd q.1 (by decide)) (fun q => absurd q.1 (by decide)) hne)
    rw [he _ (sI_ne (fun q => absurd q.1 (by decide)))]
    show H1[gr 516]? = some (vp_cell _ _)
    rw [e1, vp_cell_i, vp_cell_i, arrV_store, w_nat hj, hx]
    congr 2
    funext q
    by_cases hq : q = j'.toNat
    · subst hq; simp [updV, sI]
    · simp [updV, hq, sI]
  exact k1 H1 _ ls hHn (locs_put hlo (hH.2.2.1 25 0 (by decide))) hl
/-- a call on any receiver, of a method that only answers -/
theorem wq_pR {v : Value} {y' : MethodName} {cc' : ByteArray} {maxL' h' index n a : Nat} {ret' : Option FieldType} {As rest : List Value} (hM : MwV y' cc' maxL' ret' n) (hr : Runs Z y' cc' maxL' ret' h' (.ref a :: As) I (some v, I))
    (hO : Rcv Z gr I a y'.cls) (hn : As.length = n) (hst : st = As.reverse ++ .ref a :: rest) (hh : h' < Y.2.2.2.2) (hm : maxL' ≤ 16) (hw : (rest.map fun v => v.category).sum ≤ 8)
    (hlink : Cond.methodLink Y.1.cls index y' ∈ lw_good) (d : decode Y.2.1 pc = .ok (.invokevirtual index, 3))
    (kk : ∀ gr' : Nat → Nat, WQ Z Y I0 gr' (pc + 3) lv (v :: rest) I e κ) : WQ Z Y I0 gr pc lv st I e κ := by
  intro o ho
  refine WP.call hr (fun X B H locs ls hH hls hroom => ?_) (fun gr' => kk gr' o ho)
  have hG : GoodIn lw_good (wsV Y.1.cls index y'.cls y' (wsAll y' cc' maxL' ret')) := by
    intro w hw
    rcases List.mem_append.mp hw with hw | hw
    · have hm : w ∈ lw_good := by
        simp only [List.mem_cons, List.mem_nil_iff, or_false] at hw
        rcases hw with rfl | rfl | rfl | rfl
        · exact hlink
        · exact hM.2.1
        · exact hM.2.2.1
        · exact hM.2.2.2.1
      exact ⟨hm, good_of_word (List.mem_filter.mp hm).2⟩
    · exact goodAll hM.1 w hw
  exact va_runV (cc := Y.2.1) (nL := Y.2.2.1) (Ts := lw_good) (own := Y.1.cls) (As := As) (n := n) ⟨B.1, B.2.1, B.2.2.1, B.2.2.2.1, B.2.2.2.2.1⟩ (hr.2 X.2.1 B.2.2.2.2.2.2.2.2.1) (cwV n B.2.2.2.2.1 hG rfl rfl rfl ⟨rfl, hM.2.2.2.2⟩ (room_ok hh hm)) ⟨fb_Pcz, hO X Y B H hH, pc_at B hH⟩ rfl hn hls hst (lv_room hw) d hroom
/-- .. of an inherited method -/
theorem wq_pU {v : Value} {C owner : String} {x y' : MethodName} {cc' : ByteArray} {maxL' h' index n a : Nat} {ret' : Option FieldType} {As rest : List Value} (hr : Runs Z y' cc' maxL' ret' h' (.ref a :: As) I (some v, I))
    (hO : Rcv Z gr I a C) (hyx : y' = ⟨owner, x.name, x.desc⟩) (hn : As.length = n) (hst : st = As.reverse ++ .ref a :: rest) (hh : h' < Y.2.2.2.2) (hm : maxL' ≤ 16) (hw : (rest.map fun v => v.category).sum ≤ 8)
    (hlink : Cond.methodLink Y.1.cls index x ∈ lw_good) (h1 : Cond.sameMethod x.cls owner x.name x.desc ∈ lw_good) (h2 : Cond.selects C x y' ∈ lw_good) (h3 : Cond.instanceMethod y' ∈ lw_good) (h4 : Cond.initialized y'.cls ∈ lw_good) (h5 : Cond.code y' cc' maxL' ret' ∈ lw_good)
    (hd : owner ≠ "java/lang/invoke/MethodHandle" ∧ owner ≠ "java/lang/invoke/VarHandle" ∧ (parseMethodDescriptor x.desc).map (fun d => d.parameters.length) = some n) (d : decode Y.2.1 pc = .ok (.invokevirtual index, 3))
    (kk : ∀ gr' : Nat → Nat, WQ Z Y I0 gr' (pc + 3) lv (v :: rest) I e κ) : WQ Z Y I0 gr pc lv st I e κ := by
  intro o ho
  refine WP.call hr (fun X B H locs ls hH hls hroom => ?_) (fun gr' => kk gr' o ho)
  have hG : GoodIn lw_good (va_wsU Y.1.cls index C owner x y' (wsAll y' cc' maxL' ret')) := by
    intro w hw
    rcases List.mem_append.mp hw with hw | hw
    · have hm : w ∈ lw_good := by
        simp only [List.mem_cons, List.mem_nil_iff, or_false] at hw
        rcases hw with rfl | rfl | rfl | rfl | rfl <;> assumption
      exact ⟨hm, good_of_word (List.mem_filter.mp hm).2⟩
    · exact goodAll h5 w hw
  exact va_runU (cc := Y.2.1) (nL := Y.2.2.1) (Ts := lw_good) (own := Y.1.cls) (As := As) (n := n) ⟨B.1, B.2.1, B.2.2.1, B.2.2.2.1, B.2.2.2.2.1⟩ (hr.2 X.2.1 B.2.2.2.2.2.2.2.2.1) (va_cwU n B.2.2.2.2.1 hG rfl rfl rfl hyx hd (room_ok hh hm)) ⟨fb_Pcz, hO X Y B H hH, pc_at B hH⟩ rfl hn hls hst (lv_room hw) d hroom
/-! a string's own fields -/
theorem wq_strF {j index : Nat} {n fd : String} {v : Value} (hS : ∀ U : State, Sta Z U → va_OF "java/lang/String" n fd v (zA Z 34 j) (zN Z) U (zH Z)) (hln : Cond.fieldLink Y.1.cls index "java/lang/String" n fd ∈ lw_good) (d : decode Y.2.1 pc = .ok (.getfield index, 3)) (k : WQ Z Y I0 gr (pc + 3) lv (v :: st) I e κ) : WQ Z Y I0 gr pc lv (vr Z 34 j :: st) I e κ :=
  WQ.go (fun X B _ _ _ ls _ _ hH hl kk => by
    obtain ⟨cf, kf, fi, f, cell, h1, h2, h3, h4, h5, h6⟩ := (hS _ B.2.2.2.2.2.1.2).kept (old_kept hH)
    exact W.getf (v := v) B.1 B.2.1 B.2.2.2.1 (B.2.2.2.2.1 _ hln) h1 h2 h3 h4 h5 rfl rfl d (kk ls hl)) k
theorem wq_word0 {j index q : Nat} {fo fn fd : String} {l : List Int32} {x : Int} (hq : wFld[q]? = some (fo, fn, fd, l)) (hj : j < 15) (hx : l.getD j 0 = Int32.ofInt x) (hln : Cond.fieldLink Y.1.cls index fo fn fd ∈ lw_good) (d : decode Y.2.1 pc = .ok (.getfield index, 3)) (k : WQ Z Y I0 gr (pc + 3) lv (vi x :: st) I e κ) : WQ Z Y I0 gr pc lv (vr Z 11 j :: st) I e κ :=
  WQ.go (fun X B _ _ _ ls _ _ hH hl kk => by
    have hS := B.2.2.2.2.2.1.2
    obtain ⟨cf, kf, fi, f, cell, h1, h2, h3, h4, h5, h6⟩ := ((hS.1.1 j hj).2.2 _ (List.mem_of_getElem? hq)).kept (old_kept hH)
    refine W.getf (v := vi x) B.1 B.2.1 B.2.2.2.1 (B.2.2.2.2.1 _ hln) h1 h2 h3 h4 ?_ rfl rfl d (kk ls hl)
    rw [h5]; exact congrArg (fun z => some (Value.int z)) hx) k
theorem wq_siob {index : Nat} (hln : Cond.fieldLink Y.1.cls index "jdk/internal/util/Preconditions" "SIOOBE_FORMATTER" "Ljava/util/function/BiFunction;" ∈ lw_good) (d : decode Y.2.1 pc = .ok (.getstatic index, 3)) (k : ∀ v : Value, v.category = 1 → WQ Z Y I0 gr (pc + 3) lv (v :: st) I e κ) : WQ Z Y I0 gr pc lv st I e κ := by
  intro o ho
  refine ⟨(k .null rfl o ho).1, fun X B hc H locs ls hH hlo hl => ?_⟩
  obtain ⟨v, hv, hZ⟩ := B.2.2.2.2.2.1.2.2.2.2.2.2.2.2.1.2.1
  obtain ⟨cf, kf, fi, f, a, cell, h1, h2, h3, h4, h5, h6, h7, h8⟩ := hZ.kept (old_kept hH)
  exact W.gets B.1 B.2.1 B.2.2.2.1 (B.2.2.2.2.1 _ hln) h1 h2 h3 h4 h5 (fun e => by rw [e] at h6; cases h6) h7 rfl d ((k v hv o ho).2 X B hc H locs ls hH hlo hl)
theorem sta_coder {j : Nat} (hj : j < 15) (U : State) (h : Sta Z U) : va_OF "java/lang/String" "coder" "B" (vi 0) (zA Z 34 j) (zN Z) U (zH Z) := (h.2.2.1.1 j hj).2.1
theorem sta_value {j : Nat} (hj : j < 15) (U : State) (h : Sta Z U) : va_OF "java/lang/String" "value" "[B" (vr Z 35 j) (zA Z 34 j) (zN Z) U (zH Z) := (h.2.2.1.1 j hj).2.2.1
theorem sta_compact (U : State) (h : Sta Z U) : va_Z "java/lang/String" "COMPACT_STRINGS" "Z" (vi 1) (zN Z) U (zH Z) := h.2.2.2.2.2.2.2.1.1
theorem txt_len : ∀ j, j < 15 → (wText.map List.length).getD j 0 = (wText.getD j []).length := by decide +kernel
theorem txt_len15 : ∀ j, j < 15 → (wText.getD j []).length < 100 := by decide +kernel
theorem txt_byt : ∀ j, j < 15 → ∀ k, k < 10 → ((wText.map (fun l => l.map Int32.ofInt)).getD j []).getD k 0 = Int32.ofInt (wAt j k) := by decide +kernel
theorem txt_chr : ∀ j, j < 15 → ∀ k, k < 10 → ian (wAt j k) 255 = wAt j k ∧ ((Int32.ofInt (wAt j k)).toUInt32 % 65536).toInt32 = Int32.ofInt (wAt j k) := by decide +kernel
theorem txt_len10 : ∀ j, j < 15 → (wText.getD j []).length < 10 := by decide +kernel
theorem sta_bytes {j : Nat} (hj : j < 15) (U : State) (h : Sta Z U) : va_T .byte (zA Z 35 j) (wText.getD j []).length (fun k => .int (((wText.map (fun l => l.map Int32.ofInt)).getD j []).getD k 0)) (zN Z) U (zH Z) := by
  have := (h.2.2.1.1 j hj).2.2.2
  rw [txt_len j hj] at this
  exact this
theorem wq_blen {j : Nat} (hj : j < 15) (d : decode Y.2.1 pc = .ok (.arraylength, 1)) (k : WQ Z Y I0 gr (pc + 1) lv (vi (wLen j) :: st) I e κ) : WQ Z Y I0 gr pc lv (vr Z 35 j :: st) I e κ :=
  WQ.go (fun X B _ _ _ ls _ _ hH hl kk => by
    obtain ⟨cell, h1, h2, h3, h4, h5, h6, h7⟩ := (sta_bytes hj _ B.2.2.2.2.2.1.2).kept (old_kept hH)
    exact W.alen (n := Int32.ofInt (wLen j)) B.1 B.2.1 h1 h2 (by rw [h5]; rfl) rfl rfl d (kk ls hl)) k
theorem wq_bget {j : Nat} {i i' : Int} (hj : j < 15) (hi : w32 i = i') (hin : 0 ≤ i' ∧ i' < wLen j) (d : decode Y.2.1 pc = .ok (.baload, 1)) (k : WQ Z Y I0 gr (pc + 1) lv (vi (wAt j i'.toNat) :: st) I e κ) : WQ Z Y I0 gr pc lv (vi i :: vr Z 35 j :: st) I e κ :=
  WQ.go (fun X B _ _ _ ls _ _ hH hl kk => by
    obtain ⟨cell, h1, h2, h3, h4, h5, h6, h7⟩ := (sta_bytes hj _ B.2.2.2.2.2.1.2).kept (old_kept hH)
    have hx := w_in (n := (wText.getD j []).length) hi hin (by unfold wLen; omega)
    have hlt : (Int32.ofInt i).toNatClampNeg < (wText.getD j []).length := Nat.not_le.mp fun q => hx (Or.inr q)
    refine W.bald (v := vi (wAt j i'.toNat)) B.1 B.2.1 h1 h2 h3 (fun q => hx (q.elim Or.inl (fun z => Or.inr (Nat.le_trans h4 z)))) ?_ rfl rfl d (kk ls hl)
    rw [h6 _ hlt, w_nat hi]
    exact congrArg (fun z => some (Value.int z)) (txt_byt j hj _ (by have := txt_len10 j hj; rw [w_nat hi] at hlt; omega))) k
theorem wq_nret {x : Int} {b : α} {ty : FieldType} (hr : Y.2.2.2.1 = some ty) (hx : narrow ty (vi x) = vi x) (h : κ b I = some (.inl (some (vi x)), I)) (d : decode Y.2.1 pc = .ok (.ireturn, 1)) : WQ Z Y I0 gr pc lv [vi x] I (some (b, I)) κ := by
  intro o ho
  have ho : some o = some (.inl (some (vi x)), I) := ho.symm.trans h
  cases ho
  refine ⟨cle.refl I, fun X B hcl H locs ls hH hlo hl => ?_⟩
  exact W.zret (hlocks := B.2.2.2.2.2.2.2.1) B.1 B.2.1 (B.2.2.2.2.2.2.1.trans hr) hx (fun t ht _ => ⟨rfl, gr, by rw [ht]; exact hH⟩) hlo d
theorem wq_i2c255 {x : Int} (d : decode Y.2.1 pc = .ok (.i2c, 1)) (k : WQ Z Y I0 gr (pc + 1) lv (vi (ian x 255) :: st) I e κ) : WQ Z Y I0 gr pc lv (vi (ian x 255) :: st) I e κ :=
  WQ.go (fun _ B _ _ _ ls _ _ _ hl kk => lv_i2c B.1 B.2.1 d (by unfold ian; rw [Int32.ofInt_toInt]; exact sc_c2 (Int32.ofInt x)) (kk ls hl)) k
theorem nar_255 (x : Int) : narrow .char (vi (ian x 255)) = vi (ian x 255) := by
  unfold ian vi; rw [Int32.ofInt_toInt]; exact sc_nar (Int32.ofInt x)
/-- a static call of any class -/
theorem WP.callSX {o : OT} {o1 : OV} {y' : MethodName} {cc' : ByteArray} {maxL' h' index n : Nat} {ret' : Option FieldType} {As rest : List Value} (hr : Runs Z y' cc' maxL' ret' h' As I o1) (hM : MwS y' cc' maxL' ret' n)
    (hn : As.length = n) (hst : st = As.reverse ++ rest) (hh : h' < Y.2.2.2.2) (hm : maxL' ≤ 16) (hw : (rest.map fun v => v.category).sum ≤ 8)
    (hlink : Cond.methodLink Y.1.cls index y' ∈ lw_good) (d : decode Y.2.1 pc = .ok (.invokestatic index, 3))
    (k : ∀ gr' : Nat → Nat, WP Z Y I0 o gr' (pc + 3) lv (o1.1.toList ++ rest) o1.2) : WP Z Y I0 o gr pc lv st I := by
  refine WP.call hr (fun X B H locs ls hH hls hroom => ?_) k
  have hG : GoodIn lw_good (va_wsS Y.1.cls index y' (wsAll y' cc' maxL' ret')) := by
    intro w hw
    rcases List.mem_append.mp hw with hw | hw
    · have hm : w ∈ lw_good := by
        simp only [List.mem_cons, List.mem_nil_iff, or_false] at hw
        rcases hw with rfl | rfl | rfl
        · exact hlink
        · exact hM.2.1
        · exact hM.2.2.1
      exact ⟨hm, good_of_word (List.mem_filter.mp hm).2⟩
    · exact goodAll hM.1 w hw
  exact va_runS (cc := Y.2.1) (nL := Y.2.2.1) (Ts := lw_good) (own := Y.1.cls) (As := As) (n := n) ⟨B.1, B.2.1, B.2.2.1, B.2.2.2.1, B.2.2.2.2.1⟩ (hr.2 X.2.1 B.2.2.2.2.2.2.2.2.1) (va_cwS n B.2.2.2.2.1 hG rfl rfl rfl hM.2.2.2 (room_ok hh hm)) ⟨fb_Pcz, pc_at B hH⟩ rfl hn hls hst (lv_room hw) d hroom
theorem wq_pSX {v : Option Value} {y' : MethodName} {cc' : ByteArray} {maxL' h' index n : Nat} {ret' : Option FieldType} {As rest : List Value} (hM : MwS y' cc' maxL' ret' n) (hr : Runs Z y' cc' maxL' ret' h' As I (v, I))
    (hn : As.length = n) (hst : st = As.reverse ++ rest) (hh : h' < Y.2.2.2.2) (hm : maxL' ≤ 16) (hw : (rest.map fun v => v.category).sum ≤ 8)
    (hlink : Cond.methodLink Y.1.cls index y' ∈ lw_good) (d : decode Y.2.1 pc = .ok (.invokestatic index, 3))
    (kk : ∀ gr' : Nat → Nat, WQ Z Y I0 gr' (pc + 3) lv (v.toList ++ rest) I e κ) : WQ Z Y I0 gr pc lv st I e κ :=
  fun o ho => WP.callSX hr hM hn hst hh hm hw hlink d (fun gr' => kk gr' o ho)
end STRS

theorem M_lengthS : MwV yJ0_length_8abf5 cJ0_length_8abf5 1 (some .int) 0 := ⟨li_2 189 (by decide +kernel) (by decide +kernel), li_2 187 (by decide +kernel) (by decide +kernel), li_2 188 (by decide +kernel) (by decide +kernel), li_1 17 (by decide +kernel) (by decide +kernel), by decide +kernel⟩
theorem M_coderS : MwV yJ0_coder_7d493 cJ0_coder_7d493 1 (some .byte) 0 := ⟨li_2 193 (by decide +kernel) (by decide +kernel), li_2 191 (by decide +kernel) (by decide +kernel), li_2 192 (by decide +kernel) (by decide +kernel), li_1 17 (by decide +kernel) (by decide +kernel), by decide +kernel⟩
theorem M_charAtS : MwV yJ0_charAt_5068e cJ0_charAt_5068e 2 (some .char) 1 := ⟨li_2 203 (by decide +kernel) (by decide +kernel), li_2 201 (by decide +kernel) (by decide +kernel), li_2 202 (by decide +kernel) (by decide +kernel), li_1 17 (by decide +kernel) (by decide +kernel), by decide +kernel⟩
theorem M_isLatin1S : MwV yJ0_isLatin1_aae02 cJ0_isLatin1_aae02 1 (some .boolean) 0 := ⟨li_2 207 (by decide +kernel) (by decide +kernel), li_2 205 (by decide +kernel) (by decide +kernel), li_2 206 (by decide +kernel) (by decide +kernel), li_1 17 (by decide +kernel) (by decide +kernel), by decide +kernel⟩
theorem M_checkIndexS : MwS yJ0_checkIndex_df160 cJ0_checkIndex_df160 2 (none) 2 := ⟨li_2 213 (by decide +kernel) (by decide +kernel), li_2 212 (by decide +kernel) (by decide +kernel), li_1 17 (by decide +kernel) (by decide +kernel), by decide +kernel⟩
theorem M_charAt1S : MwS yJ1_charAt_3b067 cJ1_charAt_3b067 2 (some .char) 2 := ⟨li_2 210 (by decide +kernel) (by decide +kernel), li_2 209 (by decide +kernel) (by decide +kernel), li_1 18 (by decide +kernel) (by decide +kernel), by decide +kernel⟩
theorem M_checkIndex3S : MwS yJ3_checkIndex_8e157 cJ3_checkIndex_8e157 3 (some .int) 3 := ⟨li_2 218 (by decide +kernel) (by decide +kernel), li_2 217 (by decide +kernel) (by decide +kernel), li_1 19 (by decide +kernel) (by decide +kernel), by decide +kernel⟩
theorem R_coder (Z : ZT) (j : Nat) (hj : j < 15) (I : Mem) : Runs Z yJ0_coder_7d493 cJ0_coder_7d493 1 (some .byte) 1 [vr Z 34 j] I (some (vi 0), I) := by
  refine Runs.of (rv := fun x => some (vi x)) (r := (0 : Int)) (f := some (0, I)) (by decide +kernel) (Nat.le_of_ble_eq_true rfl) rfl (fun gr => ?_)
  refine WQ.loc [0] (lv' := [(0, vr Z 34 j)]) rfl ?_
  refine wq_gets sta_compact (li_2 194 (by decide +kernel) (by decide +kernel) : Cond.fieldLink RJ0 38 RJ0 "COMPACT_STRINGS" "Z" ∈ lw_good) dJ0_coder_7d493_0 ?_
  refine WQ.both (((1 : Int)) = 0) ?_
  refine wq_if_eq 13 dJ0_coder_7d493_3 (by decide) rfl (fun h => absurd h (by decide)) (fun h => ?_)
  refine wq_aload_n dJ0_coder_7d493_6 0 rfl rfl ?_
  refine wq_strF (sta_coder hj) (li_10 20 (by decide +kernel) (by decide +kernel) : Cond.fieldLink RJ0 15 RJ0 "coder" "B" ∈ lw_good) dJ0_coder_7d493_7 ?_
  refine wq_goto 14 dJ0_coder_7d493_10 (by decide) ?_
  exact wq_nret rfl rfl rfl dJ0_coder_7d493_14
theorem R_length (Z : ZT) (j : Nat) (hj : j < 15) (I : Mem) : Runs Z yJ0_length_8abf5 cJ0_length_8abf5 1 (some .int) 2 [vr Z 34 j] I (some (vi (wLen j)), I) := by
  refine Runs.of (rv := fun x => some (vi x)) (r := wLen j) (f := some (wLen j, I)) (by decide +kernel) (Nat.le_of_ble_eq_true rfl) rfl (fun gr => ?_)
  refine WQ.loc [0] (lv' := [(0, vr Z 34 j)]) rfl ?_
  refine wq_aload_n dJ0_length_8abf5_0 0 rfl rfl ?_
  refine wq_strF (sta_value hj) (li_10 19 (by decide +kernel) (by decide +kernel) : Cond.fieldLink RJ0 9 RJ0 "value" "[B" ∈ lw_good) dJ0_length_8abf5_1 ?_
  refine wq_blen hj dJ0_length_8abf5_4 ?_
  refine wq_aload_n dJ0_length_8abf5_5 0 rfl rfl ?_
  refine wq_pR (v := vi 0) M_coderS (R_coder Z j hj _) (rcv_34 hj) rfl rfl (by decide) (by decide) (Nat.le_of_ble_eq_true rfl) (li_2 190 (by decide +kernel) (by decide +kernel) : Cond.methodLink RJ0 335 yJ0_coder_7d493 ∈ lw_good) dJ0_length_8abf5_6 (fun gr2 => ?_)
  refine wq_ishr dJ0_length_8abf5_9 ?_
  refine WQ.top (x := wLen j) ((by decide +kernel : ∀ j, j < 15 → wLen j = isr (wLen j) 0) j hj) ?_
  exact wq_iret rfl rfl dJ0_length_8abf5_10
theorem R_isLatin1 (Z : ZT) (j : Nat) (hj : j < 15) (I : Mem) : Runs Z yJ0_isLatin1_aae02 cJ0_isLatin1_aae02 1 (some .boolean) 1 [vr Z 34 j] I (some (vi 1), I) := by
  refine Runs.of (rv := fun x => some (vi x)) (r := (1 : Int)) (f := some (1, I)) (by decide +kernel) (Nat.le_of_ble_eq_true rfl) rfl (fun gr => ?_)
  refine WQ.loc [0] (lv' := [(0, vr Z 34 j)]) rfl ?_
  refine wq_gets sta_compact (li_2 194 (by decide +kernel) (by decide +kernel) : Cond.fieldLink RJ0 38 RJ0 "COMPACT_STRINGS" "Z" ∈ lw_good) dJ0_isLatin1_aae02_0 ?_
  refine WQ.both (((1 : Int)) = 0) ?_
  refine wq_if_eq 17 dJ0_isLatin1_aae02_3 (by decide) rfl (fun h => absurd h (by decide)) (fun h => ?_)
  refine wq_aload_n dJ0_isLatin1_aae02_6 0 rfl rfl ?_
  refine wq_strF (sta_coder hj) (li_10 20 (by decide +kernel) (by decide +kernel) : Cond.fieldLink RJ0 15 RJ0 "coder" "B" ∈ lw_good) dJ0_isLatin1_aae02_7 ?_
  refine WQ.both (((0 : Int)) = 0) ?_
  refine wq_if_ne 17 dJ0_isLatin1_aae02_10 (by decide) rfl (fun h => ?_) (fun h => absurd rfl h)
  refine wq_iconst dJ0_isLatin1_aae02_13 ?_
  refine wq_goto 18 dJ0_isLatin1_aae02_14 (by decide) ?_
  exact wq_zret rfl (by decide) rfl dJ0_isLatin1_aae02_18
theorem R_checkIndex3 (Z : ZT) (i n : Int) (v : Value) (hv : v.category = 1) (hi : 0 ≤ w32 i ∧ w32 i < w32 n) (I : Mem) : Runs Z yJ3_checkIndex_8e157 cJ3_checkIndex_8e157 3 (some .int) 1 [vi i, vi n, v] I (some (vi i), I) := by
  refine Runs.of (rv := fun x => some (vi x)) (r := i) (f := some (i, I)) (by decide +kernel) (by show (lg_sl [vi i, vi n, v]).length ≤ 3; cases v <;> first | (simp [lg_sl, Value.category]; done) | (simp [Value.category] at hv)) rfl (fun gr => ?_)
  refine WQ.loc [0, 1] (lv' := [(0, vi i), (1, vi n)]) rfl ?_
  refine wq_iload_n dJ3_checkIndex_8e157_0 0 rfl rfl ?_
  refine WQ.both (w32 i < 0) ?_
  refine wq_if_lt 9 dJ3_checkIndex_8e157_1 (by decide) rfl (fun h => absurd h (by omega)) (fun h => ?_)
  refine wq_iload_n dJ3_checkIndex_8e157_4 0 rfl rfl ?_
  refine wq_iload_n dJ3_checkIndex_8e157_5 1 rfl rfl ?_
  refine WQ.both (w32 i < w32 n) ?_
  refine wq_icmp_lt 16 dJ3_checkIndex_8e157_6 (by decide) rfl rfl (fun h => ?_) (fun h => absurd hi.2 h)
  refine wq_iload_n dJ3_checkIndex_8e157_16 0 rfl rfl ?_
  exact wq_iret rfl rfl dJ3_checkIndex_8e157_17

theorem R_checkIndex (Z : ZT) (i n : Int) (hi : 0 ≤ w32 i ∧ w32 i < w32 n) (I : Mem) : Runs Z yJ0_checkIndex_df160 cJ0_checkIndex_df160 2 none 2 [vi i, vi n] I (none, I) := by
  refine Runs.of (rv := fun _ => none) (r := ()) (f := some ((), I)) (by decide +kernel) (Nat.le_of_ble_eq_true rfl) rfl (fun gr => ?_)
  refine WQ.loc [0, 1] (lv' := [(0, vi i), (1, vi n)]) rfl ?_
  refine wq_iload_n dJ0_checkIndex_df160_0 0 rfl rfl ?_
  refine wq_iload_n dJ0_checkIndex_df160_1 1 rfl rfl ?_
  refine wq_siob (li_2 214 (by decide +kernel) (by decide +kernel) : Cond.fieldLink RJ0 1053 RJ3 "SIOOBE_FORMATTER" "Ljava/util/function/BiFunction;" ∈ lw_good) dJ0_checkIndex_df160_2 (fun v hv => ?_)
  refine wq_pSX M_checkIndex3S (R_checkIndex3 Z i n v hv hi _) rfl rfl (by decide) (by decide) (Nat.le_of_ble_eq_true rfl) (li_2 216 (by decide +kernel) (by decide +kernel) : Cond.methodLink RJ0 1059 yJ3_checkIndex_8e157 ∈ lw_good) dJ0_checkIndex_df160_5 (fun gr2 => ?_)
  refine wq_pop dJ0_checkIndex_df160_8 rfl ?_
  exact wq_vret rfl rfl dJ0_checkIndex_df160_9
theorem R_charAt1 (Z : ZT) (j : Nat) (hj : j < 15) (i : Int) (hi : 0 ≤ w32 i ∧ w32 i < wLen j) (I : Mem) : Runs Z yJ1_charAt_3b067 cJ1_charAt_3b067 2 (some .char) 3 [vr Z 35 j, vi i] I (some (vi (wAt j (w32 i).toNat)), I) := by
  have hl : (w32 i).toNat < 10 := by have := txt_len10 j hj; unfold wLen at hi; omega
  have hw : w32 (wLen j) = wLen j := (by decide +kernel : ∀ j, j < 15 → w32 (wLen j) = wLen j) j hj
  refine Runs.of (rv := fun x => some (vi x)) (r := wAt j (w32 i).toNat) (f := some (wAt j (w32 i).toNat, I)) (by decide +kernel) (Nat.le_of_ble_eq_true rfl) rfl (fun gr => ?_)
  refine WQ.loc [0, 1] (lv' := [(0, vr Z 35 j), (1, vi i)]) rfl ?_
  refine wq_iload_n dJ1_charAt_3b067_0 1 rfl rfl ?_
  refine wq_aload_n dJ1_charAt_3b067_1 0 rfl rfl ?_
  refine wq_blen hj dJ1_charAt_3b067_2 ?_
  refine wq_pSX M_checkIndexS (R_checkIndex Z i (wLen j) (by rw [hw]; exact hi) _) rfl rfl (by decide) (by decide) (Nat.le_of_ble_eq_true rfl) (li_2 211 (by decide +kernel) (by decide +kernel) : Cond.methodLink RJ1 9 yJ0_checkIndex_df160 ∈ lw_good) dJ1_charAt_3b067_3 (fun gr2 => ?_)
  refine wq_aload_n dJ1_charAt_3b067_6 0 rfl rfl ?_
  refine wq_iload_n dJ1_charAt_3b067_7 1 rfl rfl ?_
  refine wq_bget hj rfl hi dJ1_charAt_3b067_8 ?_
  refine wq_sipush dJ1_charAt_3b067_9 (by decide) ?_
  refine wq_iand dJ1_charAt_3b067_12 ?_
  refine wq_i2c255 dJ1_charAt_3b067_13 ?_
  have hz := (txt_chr j hj _ hl).1
  have hn := nar_255 (wAt j (w32 i).toNat)
  rw [hz] at hn ⊢
  exact wq_nret rfl hn rfl dJ1_charAt_3b067_14
theorem R_charAt (Z : ZT) (j : Nat) (hj : j < 15) (i : Int) (hi : 0 ≤ w32 i ∧ w32 i < wLen j) (I : Mem) : Runs Z yJ0_charAt_5068e cJ0_charAt_5068e 2 (some .char) 4 [vr Z 34 j, vi i] I (some (vi (wAt j (w32 i).toNat)), I) := by
  have hl : (w32 i).toNat < 10 := by have := txt_len10 j hj; unfold wLen at hi; omega
  refine Runs.of (rv := fun x => some (vi x)) (r := wAt j (w32 i).toNat) (f := some (wAt j (w32 i).toNat, I)) (by decide +kernel) (Nat.le_of_ble_eq_true rfl) rfl (fun gr => ?_)
  refine WQ.loc [0, 1] (lv' := [(0, vr Z 34 j), (1, vi i)]) rfl ?_
  refine wq_aload_n dJ0_charAt_5068e_0 0 rfl rfl ?_
  refine wq_pR (v := vi 1) M_isLatin1S (R_isLatin1 Z j hj _) (rcv_34 hj) rfl rfl (by decide) (by decide) (Nat.le_of_ble_eq_true rfl) (li_2 204 (by decide +kernel) (by decide +kernel) : Cond.methodLink RJ0 492 yJ0_isLatin1_aae02 ∈ lw_good) dJ0_charAt_5068e_1 (fun gr2 => ?_)
  refine WQ.both (((1 : Int)) = 0) ?_
  refine wq_if_eq 16 dJ0_charAt_5068e_4 (by decide) rfl (fun h => absurd h (by decide)) (fun h => ?_)
  refine wq_aload_n dJ0_charAt_5068e_7 0 rfl rfl ?_
  refine wq_strF (sta_value hj) (li_10 19 (by decide +kernel) (by decide +kernel) : Cond.fieldLink RJ0 9 RJ0 "value" "[B" ∈ lw_good) dJ0_charAt_5068e_8 ?_
  refine wq_iload_n dJ0_charAt_5068e_11 1 rfl rfl ?_
  refine wq_pSX M_charAt1S (R_charAt1 Z j hj i hi _) rfl rfl (by decide) (by decide) (Nat.le_of_ble_eq_true rfl) (li_2 208 (by decide +kernel) (by decide +kernel) : Cond.methodLink RJ0 495 yJ1_charAt_3b067 ∈ lw_good) dJ0_charAt_5068e_12 (fun gr3 => ?_)
  have hz := (txt_chr j hj _ hl).1
  have hn := nar_255 (wAt j (w32 i).toNat)
  rw [hz] at hn
  exact wq_nret rfl hn rfl dJ0_charAt_5068e_15
theorem R_ordinal (Z : ZT) (j : Nat) (hj : j < 15) (I : Mem) : Runs Z yJx29ce0_ordinal_8abf5 cJx29ce0_ordinal_8abf5 1 (some .int) 1 [vr Z 11 j] I (some (vi ((j : Nat) : Int)), I) := by
  refine Runs.of (rv := fun x => some (vi x)) (r := ((j : Nat) : Int)) (f := some (((j : Nat) : Int), I)) (by decide +kernel) (Nat.le_of_ble_eq_true rfl) rfl (fun gr => ?_)
  refine WQ.loc [0] (lv' := [(0, vr Z 11 j)]) rfl ?_
  refine wq_aload_n dJx29ce0_ordinal_8abf5_0 0 rfl rfl ?_
  refine wq_word0 (q := 0) rfl hj ((by decide +kernel : ∀ j, j < 15 → [0, 1, 2, 3, 4, 5, 6, 7, 8, 9, 10, 11, 12, 13, (14 : Int32)].getD j 0 = Int32.ofInt ((j : Nat) : Int)) j hj) (li_10 23 (by decide +kernel) (by decide +kernel) : Cond.fieldLink RJx29ce0 7 RJx29ce0 "ordinal" "I" ∈ lw_good) dJx29ce0_ordinal_8abf5_1 ?_
  exact wq_iret rfl rfl dJx29ce0_ordinal_8abf5_4
section STRS2
variable {Z : ZT} {Y : YT} {I0 : Mem} {gr : Nat → Nat} {pc : Nat} {lv : List (Nat × Value)} {st : List Value} {I : Mem} {α : Type} {e : Option (α × Mem)} {κ : α → Mem → Option OT}
theorem wq_strlen {j index : Nat} (hj : j < 15) (hh : 2 < Y.2.2.2.2) (hw : (st.map fun v => v.category).sum ≤ 8) (hln : Cond.methodLink Y.1.cls index yJ0_length_8abf5 ∈ lw_good) (d : decode Y.2.1 pc = .ok (.invokevirtual index, 3)) (kk : ∀ gr' : Nat → Nat, WQ Z Y I0 gr' (pc + 3) lv (vi (wLen j) :: st) I e κ) : WQ Z Y I0 gr pc lv (vr Z 34 j :: st) I e κ :=
  wq_pR (v := vi (wLen j)) (As := []) M_lengthS (R_length Z j hj _) (rcv_34 hj) rfl rfl hh (by decide) hw hln d kk
theorem wq_charAt {j index : Nat} {i i' : Int} (hj : j < 15) (hi : w32 i = i') (hin : 0 ≤ i' ∧ i' < wLen j) (hh : 4 < Y.2.2.2.2) (hw : (st.map fun v => v.category).sum ≤ 8) (hln : Cond.methodLink Y.1.cls index yJ0_charAt_5068e ∈ lw_good) (d : decode Y.2.1 pc = .ok (.invokevirtual index, 3)) (kk : ∀ gr' : Nat → Nat, WQ Z Y I0 gr' (pc + 3) lv (vi (wAt j i'.toNat) :: st) I e κ) : WQ Z Y I0 gr pc lv (vi i :: vr Z 34 j :: st) I e κ := by
  subst hi
  exact wq_pR (v := vi (wAt j (w32 i).toNat)) (As := [vi i]) M_charAtS (R_charAt Z j hj i hin _) (rcv_34 hj) rfl rfl hh (by decide) hw hln d kk
def yWordOrd : MethodName := ⟨RX11, "ordinal", "()I"⟩
theorem wq_ordinal {j index : Nat} (hj : j < 15) (hh : 1 < Y.2.2.2.2) (hw : (st.map fun v => v.category).sum ≤ 8) (hln : Cond.methodLink Y.1.cls index yWordOrd ∈ lw_good) (d : decode Y.2.1 pc = .ok (.invokevirtual index, 3)) (kk : ∀ gr' : Nat → Nat, WQ Z Y I0 gr' (pc + 3) lv (vi ((j : Nat) : Int) :: st) I e κ) : WQ Z Y I0 gr pc lv (vr Z 11 j :: st) I e κ :=
  wq_pU (C := RX11) (owner := "java/lang/Enum") (x := yWordOrd) (v := vi ((j : Nat) : Int)) (As := []) (R_ordinal Z j hj _) (rcv_11 hj) rfl rfl rfl hh (by decide) hw hln (li_3 97 (by decide +kernel) (by decide +kernel)) (li_3 99 (by decide +kernel) (by decide +kernel)) (li_3 100 (by decide +kernel) (by decide +kernel)) (li_1 10 (by decide +kernel) (by decide +kernel)) (li_3 101 (by decide +kernel) (by decide +kernel)) (by decide +kernel) d kk
end STRS2
