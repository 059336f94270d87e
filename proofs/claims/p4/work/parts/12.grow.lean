/-! ===== arrays copied, rows and reports that grow ===== -/
section ACOPY
variable {p : Program} {l : Launch} {e : Env} {R : Room} {s : State} {m : MethodId} {args : Array Value} {below : List Frame} {meth : Method} {c : Code} {H : Heap} {locs : List Loc} {cells slots : Nat} {Q : State → Prop}
theorem W_acopy {cc : ByteArray} {pc : Nat} {ls : Array Slot} {rest : List Value} (hexec : p.tables.exec = Jvm.exec) (hb : c.code = cc) (hml : c.maxLocals = ls.size) {own : String} {index : Nat} (hown : s.vm.findClass own = some m.cls) (hlink : (Cond.methodLink own index arraycopyName).before args s = true) (hnat : (Cond.native arraycopyName).before args s = true) (hstat : (Cond.static arraycopyName).before args s = true) (hini : (Cond.initialized "java/lang/System").before args s = true)
    {a0 a : Nat} {c0 c1 : ClassId} {n0 n1 : Nat} {f g : Nat → Int32} {ty : FieldType} (hc0 : H[a0]? = some (vp_cell c0 (n0, .inl f))) (hc1 : H[a]? = some (vp_cell c1 (n1, .inl g))) (hA0 : ArrOfT s c0 ty) (hA1 : ArrOfT s c1 ty) (hprim : refKind ty = false)
    {sp dp n : Int32} (h1 : ¬ sp < 0) (h2 : ¬ dp < 0) (h3 : ¬ n < 0) (h4 : sp.toNatClampNeg + n.toNatClampNeg ≤ n0) (h5 : dp.toNatClampNeg + n.toNatClampNeg ≤ n1) (hfit : ∀ i, i < n.toNatClampNeg → fits ty (.int (f (sp.toNatClampNeg + i))) = true)
    (hframes : 1 ≤ R.frames) (hlocals : (rest.map fun v => v.category).sum + (nativeFrameWords "java/lang/System" "arraycopy" 5 + 11) ≤ R.locals) (hdg : decode cc pc = .ok (.invokestatic index, 3))
    (kk : ∀ (H1 : Heap) (L : List Loc), H1[a]? = some (vp_cell c1 (n1, .inl (va_cpy f g sp.toNatClampNeg dp.toNatClampNeg n.toNatClampNeg))) → H1.size = H.size → (∀ q : Nat, q ≠ a → H1[q]? = H[q]?) → (∀ q ∈ L, q.base = a) → W p l e R s m args below meth c H1 (locs ++ L) cells slots Q (F0 m (pc + 3) ls rest)) : W p l e R s m args below meth c H locs cells slots Q (F0 m pc ls (.int n :: .int dp :: .ref a :: .int sp :: .ref a0 :: rest)) := by
  have nn : ∀ z : Int32, ¬ z < 0 → z.toInt = (z.toNatClampNeg : Int) := by
    intro z hz
    have hz0 : (0 : Int) ≤ z.toInt := by
      have := Int32.not_lt.mp hz
      simpa using Int32.le_iff_toInt_le.mp this
    show z.toInt = ((z.toInt.toNat : Nat) : Int)
    omega
  intro T hT X
  obtain ⟨-, k0, hk0, cm0, hkk0⟩ := hA0 n0 (fun j => .int (f j))
  obtain ⟨-, k1, hk1, cm1, hkk1⟩ := hA1 n1 (fun j => .int (g j))
  obtain ⟨vm', X', step⟩ := X.arraycopy hexec hown hlink hnat hstat hini (src := a0) (dst := a) (cs := vp_cell c0 (n0, .inl f)) (cd := vp_cell c1 (n1, .inl g)) (srcPos := sp) (destPos := dp) (n := n) (by rw [hT]; exact hc0) (by rw [hT]; exact hc1)
    (fun _ h => by cases h) (fun _ h => by cases h) (fun h => by cases h) (fun h => by cases h) hk0 hk1 hkk0 hkk1 (by simp [hprim]) h1 h2 h3
    (by rw [nn sp h1, nn n h3]; show ¬ _ > ((arrV c0 n0 (fun j => .int (f j))).slots.size : Int); rw [arrV_size]; omega)
    (by rw [nn dp h2, nn n h3]; show ¬ _ > ((arrV c1 n1 (fun j => .int (g j))).slots.size : Int); rw [arrV_size]; omega)
    (fun vm₁ _ i hi => by
      have e : (vp_cell c0 (n0, .inl f)).slots.getD (sp.toNatClampNeg + i) .null = .int (f (sp.toNatClampNeg + i)) := by
        show (arrV c0 n0 (fun j => .int (f j))).slots.getD _ _ = _
        rw [Array.getD_eq_getD_getElem?, arrV_read _ _ (by omega)]
        rfl
      refine ⟨?_, ?_⟩
      · rw [e]
        exact hfit i hi
      · rw [e]
        exact trivial)
    (g := F0 m pc ls (.int n :: .int dp :: .ref a :: .int sp :: .ref a0 :: rest)) rfl (by rw [hml]) (rest := rest) rfl (by rw [hb]; exact hdg) hframes (by show 2 * 0 + _ + _ ≤ _; omega)
  have e1 : copied (vp_cell c0 (n0, .inl f)) (vp_cell c1 (n1, .inl g)) sp dp n = vp_cell c1 (n1, .inl (va_cpy f g sp.toNatClampNeg dp.toNatClampNeg n.toNatClampNeg)) := va_copied (fun z => .int z) c0 c1 f g h4
  rw [e1] at X' step
  have hl : a < H.size := (Array.getElem?_eq_some_iff.mp hc1).1
  have hheap : ((T.setVm vm').setCell a (vp_cell c1 (n1, .inl (va_cpy f g sp.toNatClampNeg dp.toNatClampNeg n.toNatClampNeg)))).heap = H.setIfInBounds a (vp_cell c1 (n1, .inl (va_cpy f g sp.toNatClampNeg dp.toNatClampNeg n.toNatClampNeg))) := by rw [← hT]; rfl
  obtain ⟨t, a1, b1⟩ := kk (H.setIfInBounds a (vp_cell c1 (n1, .inl (va_cpy f g sp.toNatClampNeg dp.toNatClampNeg n.toNatClampNeg)))) _ (by simp [Array.getElem?_setIfInBounds, hl]) (by simp) (fun q hq => by simp [Array.getElem?_setIfInBounds, Ne.symm hq]) (fun q hq => by
      obtain ⟨z, -, hz⟩ := List.mem_map.mp hq
      rw [← hz]) _ hheap X'
  exact ⟨t, step t a1, b1⟩
end ACOPY
/-- cells copied from one array of kind k to another -/
def cpI (I : Mem) (k i sp i' dp n : Nat) : Mem := fun k' j s => if k' = k ∧ j = i' ∧ dp ≤ s ∧ s < dp + n then I k i (sp + (s - dp)) else I k' j s
section GROW
variable {Z : ZT} {Y : YT} {I0 : Mem} {gr : Nat → Nat} {pc : Nat} {lv : List (Nat × Value)} {st : List Value} {I : Mem} {α : Type} {e : Option (α × Mem)} {κ : α → Mem → Option OT}
theorem w_nn {x x' : Int} (hx : w32 x = x') (h : 0 ≤ x') : ¬ Int32.ofInt x < 0 := by
  intro q
  have := (w_lt x 0).mp q
  rw [hx, w_0] at this; omega
theorem ac_room {rest : List Value} {h : Nat} (hw : (rest.map fun v => v.category).sum ≤ 8) (hh : 1 ≤ h) : (rest.map fun v => v.category).sum + (nativeFrameWords "java/lang/System" "arraycopy" 5 + 11) ≤ 35 * h := by
  have : nativeFrameWords "java/lang/System" "arraycopy" 5 = 7 := by decide
  omega
theorem ac_nat : Cond.native arraycopyName ∈ lw_good := li_2 99 (by decide +kernel) (by decide +kernel)
theorem ac_stat : Cond.static arraycopyName ∈ lw_good := li_2 98 (by decide +kernel) (by decide +kernel)
theorem ac_ini : Cond.initialized "java/lang/System" ∈ lw_good := li_1 15 (by decide +kernel) (by decide +kernel)
theorem wq_acopy {r r2 index : Nat} {sp dp n sp' dp' n' : Int} {f : Mem → Option (α × Mem)} (hr : r < 516) (hr2 : r2 < 516) (hsp : w32 sp = sp') (hdp : w32 dp = dp') (hn : w32 n = n') (hg : 0 ≤ sp' ∧ 0 ≤ dp' ∧ 0 ≤ n' ∧ sp' + n' ≤ I 2 r 2 ∧ dp' + n' ≤ I 2 r2 2) (hh : 1 ≤ Y.2.2.2.2) (hw : (st.map fun v => v.category).sum ≤ 8)
    (hln : Cond.methodLink Y.1.cls index arraycopyName ∈ lw_good) (d : decode Y.2.1 pc = .ok (.invokestatic index, 3)) (kk : ∀ J : Mem, WQ Z Y I0 gr (pc + 3) lv st J (f J) κ) : WQ Z Y I0 gr pc lv (vi n :: vi dp :: .ref (gr r2) :: vi sp :: .ref (gr r) :: st) I (ltI (cpI I 12 r sp'.toNat r2 dp'.toNat n'.toNat) f) κ := by
  refine WQ.mem (J := cpI I 12 r sp'.toNat r2 dp'.toNat n'.toNat) (fun s => if_neg (fun q => absurd q.1 (by decide))) (fun X B o H locs ls cells slots hH hlo hl k1 => ?_) (kk _)
  obtain ⟨g1, g2, g3, g4, g5⟩ := hg
  have hat0 : H[gr r]? = some (vp_cell (zC Z 0) ((I 2 r 2).toNat, .inl fun j => Int32.ofInt (I 12 r j))) := hH.at (k := 12) (i := r) hr
  have hat1 : H[gr r2]? = some (vp_cell (zC Z 0) ((I 2 r2 2).toNat, .inl fun j => Int32.ofInt (I 12 r2 j))) := hH.at (k := 12) (i := r2) hr2
  have hw1 := fun w (hw : w ∈ lw_good) => B.2.2.2.2.1 w hw
  have hA := (B.2.2.2.2.2.1.1.2 0 _ rfl).1
  refine W_acopy B.1 B.2.1 (B.2.2.1.trans hl.1.symm) B.2.2.2.1 (hw1 _ hln) (hw1 _ ac_nat) (hw1 _ ac_stat) (hw1 _ ac_ini) hat0 hat1 hA hA rfl (w_nn hsp g1) (w_nn hdp g2) (w_nn hn g3) (by rw [w_nat hsp, w_nat hn]; omega) (by rw [w_nat hdp, w_nat hn]; omega) (fun _ _ => rfl) hh (ac_room hw hh) d (fun H1 L e1 z oq hL => ?_)
  have hHn : HHA Z gr (cpI I 12 r sp'.toNat r2 dp'.toNat n'.toNat) H1 := by
    refine hH.upd (k := 12) (i := r2) hr2 z oq ?_ (fun k' i' hi' hne => ent_congr (fun s => if_neg (fun q => hne ⟨q.1, q.2.1⟩)) (fun _ => if_neg (fun q => absurd q.1 (by decide))) (fun _ => if_neg (fun q => absurd q.1 (by decide))))
    show H1[gr r2]? = some (vp_cell (zC Z 0) (((cpI I 12 r sp'.toNat r2 dp'.toNat n'.toNat) 2 r2 2).toNat, .inl fun j => Int32.ofInt ((cpI I 12 r sp'.toNat r2 dp'.toNat n'.toNat) 12 r2 j)))
    rw [e1, show (cpI I 12 r sp'.toNat r2 dp'.toNat n'.toNat) 2 r2 2 = I 2 r2 2 from if_neg (fun q => absurd q.1 (by decide))]
    congr 4
    funext q
    rw [w_nat hsp, w_nat hdp, w_nat hn]
    unfold va_cpy cpI
    by_cases hq : dp'.toNat ≤ q ∧ q < dp'.toNat + n'.toNat
    · rw [if_pos hq, if_pos ⟨rfl, rfl, hq⟩]
    · rw [if_neg hq, if_neg (fun z => hq z.2.2)]
  refine k1 H1 _ ls hHn (fun q hq => ?_) hl
  rcases List.mem_append.mp hq with h | h
  · exact hlo q h
  · rw [hL q h]; exact hH.2.2.1 12 r2 hr2
/-- the array of kind kc, number i, is a new one of n places, the first many as they were; its length stands at (ko, i, 2) -/
def grw (I : Mem) (kc ko i : Nat) (n many : Int) : Mem := fun k' i' s => if k' = kc ∧ i' = i then (if s < many.toNat then I kc i s else 0) else if k' = ko ∧ i' = i ∧ s = 2 then n else if k' = 30 ∧ i' = 0 ∧ s = 0 then I 30 0 0 + 1 else if k' = 30 ∧ i' = 0 ∧ s = 1 then I 30 0 1 + n else I k' i' s
end GROW
