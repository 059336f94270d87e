/-! ===== the law from its entry to its loop ===== -/
def Zm (Z : ZT) (B : Nat) : ZT := (Z.1, Z.2.1, Z.2.2.1, Z.2.2.2.1, fun k i => match k with | 26 => B + mp 26 i | 27 => B + mp 27 i | 28 => B + mp 28 i | k => zA Z k i)
def Zo (Z : ZT) (B : Nat) : ZT := (Z.1, Z.2.1, Z.2.2.1, Z.2.2.2.1, fun k i => match k with | 29 => B | k => zA Z k i)
theorem KC_m {Z : ZT} {B : Nat} {U : State} (h : KC Z U) : KC (Zm Z B) U := h
theorem KC_o {Z : ZT} {B : Nat} {U : State} (h : KC Z U) : KC (Zo Z B) U := h
theorem AtM_m {Z : ZT} {B : Nat} : AtM (Zm Z B) B := by
  intro k i hk hi
  have h2 := kb_lt hi
  rcases (show k = 26 ∨ k = 27 ∨ k = 28 by omega) with rfl | rfl | rfl <;> rfl
theorem zA_m {Z : ZT} {B k i : Nat} (hk : k < 26) : zA (Zm Z B) k i = zA Z k i := by
  show (match k with | 26 => B + mp 26 i | 27 => B + mp 27 i | 28 => B + mp 28 i | k => zA Z k i) = _
  split <;> first | omega | rfl
theorem zA_o {Z : ZT} {B k i : Nat} (hk : k ≠ 29) : zA (Zo Z B) k i = zA Z k i := by
  show (match k with | 29 => B | k => zA Z k i) = _
  split <;> first | omega | rfl
theorem ad_m {Z : ZT} {gr : Nat → Nat} {B k i : Nat} (hk : k < 26) : adG (Zm Z B) gr k i = adG Z gr k i := by
  unfold adG
  rw [zA_m hk]
theorem ad_o {Z : ZT} {gr : Nat → Nat} {B k i : Nat} (hk : k ≠ 29) : adG (Zo Z B) gr k i = adG Z gr k i := by
  unfold adG
  rw [zA_o hk]
theorem ent_m {Z : ZT} {gr : Nat → Nat} {I : Mem} {B k i : Nat} (hk : k < 26) : ent (Zm Z B) gr I k i = ent Z gr I k i := by
  match k, hk with
  | 0, _ | 1, _ | 2, _ | 3, _ | 4, _ | 5, _ | 6, _ | 7, _ | 8, _ | 9, _ | 10, _ | 11, _ | 12, _ | 13, _ | 14, _ | 15, _ | 16, _ | 17, _ | 18, _ | 19, _ | 20, _ | 21, _ | 22, _ | 23, _ | 24, _ | 25, _ => rfl
  | k + 26, hk => exact absurd hk (by omega)
theorem ent_o {Z : ZT} {gr : Nat → Nat} {I : Mem} {B k i : Nat} (hk : k < 29) : ent (Zo Z B) gr I k i = ent Z gr I k i := by
  match k, hk with
  | 0, _ | 1, _ | 2, _ | 3, _ | 4, _ | 5, _ | 6, _ | 7, _ | 8, _ | 9, _ | 10, _ | 11, _ | 12, _ | 13, _ | 14, _ | 15, _ | 16, _ | 17, _ | 18, _ | 19, _ | 20, _ | 21, _ | 22, _ | 23, _ | 24, _ | 25, _ | 26, _ | 27, _ | 28, _ => rfl
  | k + 29, hk => exact absurd hk (by omega)
theorem re_m {Z : ZT} {gr : Nat → Nat} {I : Mem} {B : Nat} {H : Heap} (h : HHA_a Z gr I H) : HHA_a (Zm Z B) gr I H := by
  obtain ⟨h1, h2, h3, h4⟩ := h
  refine ⟨h1, fun k i k' i' hi hi' he => ?_, fun k i hi => ?_, fun k i hi => ?_⟩
  · rw [ad_m (ka_lt hi), ad_m (ka_lt hi')] at he
    exact h2 k i k' i' hi hi' he
  · rw [ad_m (ka_lt hi)]; exact h3 k i hi
  · rw [ad_m (ka_lt hi), ent_m (ka_lt hi)]; exact h4 k i hi
theorem k30 {k i : Nat} (h : i < ksz k) : k < 30 := by
  rcases Nat.lt_or_ge k 30 with q | q
  · exact q
  · exfalso
    unfold ksz at h
    split at h <;> first | omega | (rw [if_neg (by omega)] at h; omega)
theorem kz_b {k i : Nat} (hk : k ≠ 29) (h : i < ksz k) : i < ksz_b k := by
  have h30 := k30 h
  match k, h30, h with
  | 0, _, h | 1, _, h | 2, _, h | 3, _, h | 4, _, h | 5, _, h | 6, _, h | 7, _, h | 8, _, h | 9, _, h | 10, _, h | 11, _, h | 12, _, h | 13, _, h | 14, _, h | 15, _, h | 16, _, h | 17, _, h | 18, _, h | 19, _, h | 20, _, h | 21, _, h | 22, _, h | 23, _, h | 24, _, h | 25, _, h | 26, _, h | 27, _, h | 28, _, h => exact h
  | 29, _, _ => exact absurd rfl hk
  | k + 30, hk, _ => exact absurd hk (by omega)
theorem re_o {Z : ZT} {gr : Nat → Nat} {I : Mem} {E : Nat → va_E} {H1 H : Heap} (h : HHA_b Z gr I H1) (hI : I 29 0 = fun _ => 0) (hE : E 0 = .inl (zC Z 3, 1, .inr (.inl fun _ => Int64.ofInt 0))) (hH : CHp (zD Z) H1.size H1 1 E H) : HHA (Zo Z H1.size) gr I H := by
  obtain ⟨⟨a1, a2, a3⟩, a4, a5, a6⟩ := h
  obtain ⟨c1, c2, c3, c4⟩ := hH
  have lt : ∀ k i : Nat, k ≠ 29 → i < ksz k → adG Z gr k i < H1.size := fun k i hk hi => (a6 k i (kz_b hk hi)).lt
  have a29 : ∀ i : Nat, adG (Zo Z H1.size) gr 29 i = H1.size := fun i => rfl
  refine ⟨⟨a1, by show zB Z ≤ _; omega, fun q hq => (c3 q (by have hq : q < zB Z := hq; omega)).trans (a3 q hq)⟩, fun k i k' i' hi hi' he => ?_, fun k i hi => ?_, fun k i hi => ?_⟩
  · by_cases q : k = 29
    · subst q
      have hi : i < 1 := hi
      by_cases q' : k' = 29
      · subst q'
        have hi' : i' < 1 := hi'
        exact ⟨rfl, by omega⟩
      · rw [a29, ad_o q'] at he
        have := lt k' i' q' hi'
        omega
    · by_cases q' : k' = 29
      · subst q'
        rw [a29, ad_o q] at he
        have := lt k i q hi
        omega
      · rw [ad_o q, ad_o q'] at he
        exact a4 k i k' i' (kz_b q hi) (kz_b q' hi') he
  · by_cases q : k = 29
    · subst q
      rw [a29]
      exact a2
    · rw [ad_o q]; exact a5 k i (kz_b q hi)
  · by_cases q : k = 29
    · subst q
      rw [a29]
      have hz := c4 0 (by omega)
      rw [hE] at hz
      show va_at (zD Z) cls (H1.size, .inl (zC Z 3, 1, .inr (.inl fun j => Int64.ofInt (I 29 i j)))) H
      have hi : i < 1 := hi
      obtain rfl : i = 0 := by omega
      rw [hI]
      exact hz
    · have h30 := k30 hi
      rw [ad_o q, ent_o (by omega)]
      exact (a6 k i (kz_b q hi)).kept (c3 _ (lt k i q hi))
theorem cls_start {args : Array Value} {s : State} (hts : ∀ w ∈ lw_tbl, w.before args s = true) : ∃ (D : va_G) (zc : Nat → ClassId), ∀ Z : ZT, zD Z = D → zC Z = zc → va_K (zD Z) cls (tysOf Z) s := by
  have hg : ∀ w ∈ lw_good, w.before args s = true := fun w hw => hts w (List.mem_filter.mp hw).1
  obtain ⟨c0, iS0, hKn0⟩ := u_known (C := RX12) (T := TX12) (N := 10) (n := 10) hg in_0 (hg _ (li_1 31 (by decide +kernel) (by decide +kernel)))
  obtain ⟨c1, iS1, hKn1⟩ := u_known (C := RX1) (T := TX1) (N := 10) (n := 10) hg in_1 (hg _ (li_1 39 (by decide +kernel) (by decide +kernel)))
  obtain ⟨c2, iS2, hKn2⟩ := u_known (C := RX5) (T := TX5) (N := 2) (n := 2) hg in_2 (hg _ (li_1 45 (by decide +kernel) (by decide +kernel)))
  obtain ⟨c3, iS3, hKn3⟩ := u_known (C := RX9) (T := TX9) (N := 2) (n := 2) hg in_3 (hg _ (li_1 91 (by decide +kernel) (by decide +kernel)))
  obtain ⟨c4, iS4, hKn4⟩ := u_known (C := RX3) (T := TX3) (N := 10) (n := 10) hg in_4 (hg _ (li_1 97 (by decide +kernel) (by decide +kernel)))
  obtain ⟨c5, iS5, hKn5⟩ := u_known (C := RX10) (T := TX10) (N := 8) (n := 8) hg in_5 (hg _ (li_1 141 (by decide +kernel) (by decide +kernel)))
  obtain ⟨c6, iS6, hKn6⟩ := u_known (C := RX8) (T := TX8) (N := 8) (n := 8) hg in_6 (hg _ (li_1 172 (by decide +kernel) (by decide +kernel)))
  obtain ⟨c7, iS7, hKn7⟩ := u_known (C := RX7) (T := TX7) (N := 7) (n := 7) hg in_7 (hg _ (li_1 203 (by decide +kernel) (by decide +kernel)))
  obtain ⟨c8, iS8, hKn8⟩ := u_known (C := RX6) (T := TX6) (N := 11) (n := 11) hg in_8 (hg _ (li_1 231 (by decide +kernel) (by decide +kernel)))
  obtain ⟨c9, iS9, hKn9⟩ := u_known (C := RX2) (T := TX2) (N := 5) (n := 5) hg in_9 (hg _ (li_2 35 (by decide +kernel) (by decide +kernel)))
  obtain ⟨c10, iS10, hKn10⟩ := u_known (C := RX4) (T := TX4) (N := 2) (n := 2) hg in_10 (hg _ (li_2 61 (by decide +kernel) (by decide +kernel)))
  obtain ⟨c11, iS11, hKn11⟩ := u_known (C := RX13) (T := TX13) (N := 44) (n := 44) hg in_26 (hg _ (li_7 7 (by decide +kernel) (by decide +kernel)))
  have prim : ∀ ty : FieldType, (Cond.arrayClass ty).before args s = true → ∃ cA : ClassId, ArrOfT s cA ty ∧ s.vm.findClass ("[" ++ ty.toString) = some cA := fun ty h => by
    obtain ⟨cA, kA, comp, h1, h2, h3⟩ := Cond.arrayClass_spec h
    exact ⟨cA, fun n z => ⟨fun k h => (by cases h), kA, h2, comp, h3⟩, h1⟩
  have robj : ∀ C : String, (Cond.arrayOver (.object C)).before args s = true → ∃ cA : ClassId, ArrOfT s cA (.object C) ∧ va_RA s cA (.object C) := fun C h => by
    obtain ⟨comp, cA, kA, h1, -, h3, h4, h5⟩ := Cond.arrayOver_spec h
    exact ⟨cA, fun n z => ⟨fun k h => (by cases h), kA, h3, comp, h4⟩, kA, comp, h3, h4, h1, h5⟩
  obtain ⟨a0, p0, q0⟩ := prim .int (hg _ (li_1 57 (by decide +kernel) (by decide +kernel)))
  obtain ⟨a1, p1, q1⟩ := prim .boolean (hg _ (li_2 59 (by decide +kernel) (by decide +kernel)))
  obtain ⟨a2, p2, q2⟩ := prim .byte (hg _ (li_2 73 (by decide +kernel) (by decide +kernel)))
  obtain ⟨a3, p3, q3⟩ := prim .long (hg _ (li_9 238 (by decide +kernel) (by decide +kernel)))
  obtain ⟨a4, p4, q4⟩ := robj RX5 (tbk hts 195 (by decide +kernel))
  obtain ⟨a5, p5, q5⟩ := robj RX1 (tbk hts 418 (by decide +kernel))
  obtain ⟨a6, p6, q6⟩ := robj RX11 (tbk hts 374 (by decide +kernel))
  refine ⟨(fun k => [c0, c1, c2, c3, c4, c5, c6, c7, c8, c9, c10, c11].getD k 0, fun k => ([iS0, iS1, iS2, iS3, iS4, iS5, iS6, iS7, iS8, iS9, iS10, iS11] : List (Nat → Nat)).getD k (fun _ => 0)), fun k => [a0, a1, a2, a3, a4, a5, a6].getD k 0, fun Z e1 e2 => ?_⟩
  rw [e1]
  refine ⟨fun k q hq => ?_, fun k q hq => ?_⟩
  · match k, hq with
    | 0, hq => cases hq; exact hKn0
    | 1, hq => cases hq; exact hKn1
    | 2, hq => cases hq; exact hKn2
    | 3, hq => cases hq; exact hKn3
    | 4, hq => cases hq; exact hKn4
    | 5, hq => cases hq; exact hKn5
    | 6, hq => cases hq; exact hKn6
    | 7, hq => cases hq; exact hKn7
    | 8, hq => cases hq; exact hKn8
    | 9, hq => cases hq; exact hKn9
    | 10, hq => cases hq; exact hKn10
    | 11, hq => cases hq; exact hKn11
    | k + 12, hq => simp [cls] at hq
  · unfold tysOf at hq
    rw [e2] at hq
    match k, hq with
    | 0, hq => cases hq; exact ⟨p0, q0⟩
    | 1, hq => cases hq; exact ⟨p1, q1⟩
    | 2, hq => cases hq; exact ⟨p2, q2⟩
    | 3, hq => cases hq; exact ⟨p3, q3⟩
    | 4, hq => cases hq; exact ⟨p4, q4⟩
    | 5, hq => cases hq; exact ⟨p5, q5⟩
    | 6, hq => cases hq; exact ⟨p6, q6⟩
    | k + 7, hq => simp at hq
def R_law : String := "PairRulesLaw"
def lw_P (b : Addr) (xs : List Int32) (args : Array Value) (s : State) : Prop := args = #[.ref b] ∧ s.IntsAt b xs ∧ xs.length ≤ 3072 ∧ (Jvm.Cond.and given_1 narrow_1).before args s = true
/-- what a walk over the start with the record d0 says of its end, said of the start itself -/
theorem lw_closed {s t : State} {o : Outcome} {d0 : Drawn} {L : List Loc} {k n : Nat} (hd0 : s.drawn.sameBut d0 lw_cs) (hv : ∃ v, o = .returned v) (hW : (s.setDrawn d0).WarmedH t.vm) (hs : (s.setDrawn d0).sameButNew ({ t with vm := s.vm } : State) L k n) : State.butDraws s t lw_cs (fun t1 => Framed s o t1 L k n) := by
  have h2 : t.drawn = d0 := congrArg State.drawn hs.1
  refine ⟨⟨hv, hW, State.sameButNew.setDrawn hs s.drawn⟩, ?_, by decide⟩
  rw [h2]
  exact hd0
def lw_Q (_ : Array Value) (s : State) (o : Outcome) (t : State) : Prop := o = .returned (some (.int 1)) ∧ State.butDraws s t lw_cs (fun t1 => Framed s o t1 [] 601024 7293034)
def lw_Z (below : List Frame) (a : Array Value) (s : State) : State → Prop := fun t => ∃ o, t.status = .running ∧ Ended t below o ∧ lw_Q a s o t
/-- the law's own end, with 1 on the stack, nothing written that was there before, its room as the claim has it; d0: the record of draws at this point (at the entry s.drawn: begin with 'refine W.base ?_' and 'have hd0 := Drawn.sameBut.refl s.drawn lw_cs') -/
theorem lw_ret {p : Program} {l : Launch} {e : Env} {s : State} {m : MethodId} {below : List Frame} {meth : Method} {c : Code} {b : Nat} {d0 : Drawn} (hd0 : s.drawn.sameBut d0 lw_cs) (hx : p.tables.exec = Jvm.exec) (hb : c.code = code) (hr : meth.sig.returnType = ret) (hlocks : meth.locks = false) {pc : Nat} {H : Heap} {ls : Array Slot} (hdg : decode code pc = .ok (.ireturn, 1)) : W p l e room_1 (s.setDrawn d0) m #[Value.ref b] below meth c H [] 601024 7293034 (lw_Z below #[Value.ref b] s) (F0 m pc ls [.int 1]) := by
  intro T hT X
  obtain ⟨fs, hret, hrun, hended, hW, hframe⟩ := X.leave (v := some (.int 1)) (hlocks := hlocks) (fun h => by rw [hr] at h; cases h)
  have hmeth' : T.vm.method? m = some meth := X.method'
  refine ⟨T.setFrames fs, ?_, .returned (some (.int 1)), hrun, hended, rfl, lw_closed hd0 ⟨_, rfl⟩ hW hframe⟩
  jvm_step X.here [X.here.top, hx, hb, hdg, hmeth', hr, ret, narrow_b1]
  (try refine ⟨rfl, ?_⟩); (try refine ⟨rfl, ?_⟩)
  first | (intro acts; rw [hret _ acts rfl rfl rfl]) | rw [hret _ _ rfl rfl rfl]
  exact Steps.refl _
/-- what holds at the law's entry: the machine, the code, the tables' words (any of lw_tbl by 'hts w (by decide +kernel)'), the script of L ints xs at the cell b, what the Statement gives of the start (any of its parts by flat_of_before) -/
def lw_At (p : Program) (s : State) (m : MethodId) (meth : Method) (c : Code) (b L : Nat) (xs : Nat → Int32) : Prop :=
  p.tables.exec = Jvm.exec ∧ c.code = code ∧ meth.sig.returnType = ret ∧ c.maxLocals = 9 ∧ s.vm.findClass R_law = some m.cls ∧ (∀ w ∈ lw_tbl, w.before #[Value.ref b] s = true) ∧ va_X b L xs s s.heap ∧ b < s.heap.size ∧ meth.locks = false ∧ (Jvm.Cond.and given_1 narrow_1).before #[Value.ref b] s = true
set_option maxRecDepth 20000 in
set_option maxHeartbeats 8000000 in
/-- up to the loop's head: a fresh object, a fresh model, the array of one long -/
theorem law_head {p : Program} {e : Env} {s : State} {m : MethodId} {below : List Frame} {meth : Method} {c : Code} {l : Launch} (hfl : l.stackTraces = false) {b0 L : Nat} {xs : Nat → Int32} {Q : State → Prop} (C0 : lw_At p s m meth c b0 L xs)
    (kk : ∀ (Z : ZT) (I : Mem) (H : Heap) (locs : List Loc) (ls : Array Slot) (c0 s0 : Nat), BB p s m #[Value.ref b0] c RL cL_law 9 Z → zB Z = s.heap.size ∧ zH Z = s.heap → FS I → HH Z I H → (∀ q ∈ locs, zN Z q.base) → c0 ≤ 213000 → s0 ≤ 957200 → lv_has ls 9 [(0, .ref b0), (1, vr Z 0 0), (2, vr Z 26 0), (3, vr Z 29 0), (4, vi 0)] → W p l e room_1 s m #[Value.ref b0] below meth c H locs c0 s0 Q (F0 m 23 ls [])) :
    W p l e room_1 s m #[Value.ref b0] below meth c s.heap [] 0 0 Q (entryFrame m ([Value.ref b0] : List Value).toArray 9) := by
  obtain ⟨hx, hb, hr, hml, hown, hts, hX, hbl, hlocks, hgv⟩ := id C0
  have hg : ∀ w ∈ lw_good, w.before #[Value.ref b0] s = true := fun w hw => hts w (List.mem_filter.mp hw).1
  obtain ⟨D, zc, hK0⟩ := cls_start hts
  obtain ⟨a, hSta⟩ := sta_start hts hgv (Z0 := (s.heap.size, s.heap, D, zc, fun _ _ => 0)) ⟨rfl, rfl⟩
  obtain ⟨Z1, e1⟩ : ∃ Z1 : ZT, Z1 = (s.heap.size, s.heap, D, zc, fun k i => if k = 11 ∨ 32 ≤ k then a k i else s.heap.size + pos k i) := ⟨_, rfl⟩
  have hAt : AtF Z1 := by
    intro k i hi h12 h25
    have h26 := ka_lt hi
    have h11 : k ≠ 11 := fun z => by subst z; exact absurd hi (Nat.not_lt_zero _)
    rw [e1]
    show (if k = 11 ∨ 32 ≤ k then a k i else s.heap.size + pos k i) = s.heap.size + pos k i
    rw [if_neg (by omega)]
  have hZ1 : zB Z1 = s.heap.size ∧ zH Z1 = s.heap := by rw [e1]; exact ⟨rfl, rfl⟩
  have hKC1 : KC Z1 s := by
    refine ⟨⟨hK0 Z1 (by rw [e1]) (by rw [e1]), hSta Z1 (by rw [e1]) (by rw [e1]) (fun k i hk => by
      rw [e1]
      show (if k = 11 ∨ 32 ≤ k then a k i else s.heap.size + pos k i) = a k i
      rw [if_pos hk])⟩, fun C hC => ?_⟩
    simp only [aoC, List.mem_cons, List.mem_nil_iff, or_false] at hC
    rcases hC with rfl | rfl | rfl
    · exact va_AO.of (tbk hts 195 (by decide +kernel))
    · exact va_AO.of (tbk hts 418 (by decide +kernel))
    · exact va_AO.of (tbk hts 374 (by decide +kernel))
  clear e1 hK0 hSta
  have b : BB p s m #[Value.ref b0] c RL cL_law 9 Z1 := ⟨hx, hb, hown, hg, hKC1, hml⟩
  obtain ⟨JA, J1, J2, J3, f1, fA, f2, f3, f4, hFS, gr1, gr2⟩ := fs_all
  have hl := lv_entry ([.ref b0]) (n := 9) (Nat.le_of_ble_eq_true rfl)
  rw [lg_entry_eq]
  generalize (lg_sl ([.ref b0]) ++ List.replicate (9 - (lg_sl ([.ref b0])).length) Slot.unset).toArray = ls at hl ⊢
  have hl : lv_has ls 9 [(0, .ref b0)] := hl
  have hlo : ∀ q ∈ ([] : List Loc), zN Z1 q.base := fun q hq => by cases hq
  -- the object
  have hH0 : CHp (zD Z1) (zB Z1) (zH Z1) 0 (fun _ => .inr (0, [])) s.heap := ⟨by rw [hZ1.1, hZ1.2], by rw [hZ1.1]; rfl, fun q _ => by rw [hZ1.2], fun j hj => absurd hj (Nat.not_lt_zero j)⟩
  refine ch_new (ci := 0) tyX12 [.null, .null, .null, .null, .null, .null, .null, .null, .null, vi 0] b hH0 in_0 tyX12_ok (li_1 30 (by decide +kernel) (by decide +kernel)) (li_1 31 (by decide +kernel) (by decide +kernel)) (li_1 1 (by decide +kernel) (by decide +kernel)) rfl (fun j hj => by rcases (show j = 0 ∨ j = 1 ∨ j = 2 ∨ j = 3 ∨ j = 4 ∨ j = 5 ∨ j = 6 ∨ j = 7 ∨ j = 8 ∨ j = 9 by omega) with rfl | rfl | rfl | rfl | rfl | rfl | rfl | rfl | rfl | rfl <;> rfl) (show 0 + 1 ≤ 601024 by omega) (show 0 + 10 ≤ 7293034 by omega) dL_law_0 (fun H hH => ?_)
  refine lv_dup b.1 b.2.1 dL_law_3 rfl ?_
  have hcA := cap_room hFS gr1 gr2
  refine ch_call (y' := yX12_init) (cc' := cX12_init) (maxL' := 1) (h' := 4) (nA := 0) (a := zB Z1 + 0) (As := []) (rest := [.ref (zB Z1 + 0)]) b hl.1 (C_RX12 Z1 hAt f1) ⟨_, uE_self _ _ _, hH⟩ hfl (li_1 34 (by decide +kernel) (by decide +kernel)) (li_1 32 (by decide +kernel) (by decide +kernel)) (li_1 33 (by decide +kernel) (by decide +kernel)) (li_1 1 (by decide +kernel) (by decide +kernel)) rfl (by decide +kernel) rfl rfl ⟨Nat.le_of_ble_eq_true rfl, Nat.le_of_ble_eq_true rfl⟩ (Nat.le_of_ble_eq_true rfl) ⟨show 0 + 1 + (1111 + dC FR0 JA) ≤ 601024 by omega, show 0 + 10 + (21377 + dS FR0 JA) ≤ 7293034 by omega⟩ hlo dL_law_4 (fun H locs hH hlo => ?_)
  have e2 : (.ref (zB Z1 + 0) : Value) = vr Z1 0 0 := by
    unfold vr
    rw [hAt 0 0 (by decide) (by decide) (by decide)]
    rfl
  rw [e2]
  refine lv_astore_n (lv' := [(1, vr Z1 0 0), (0, .ref b0)]) b.1 b.2.1 dL_law_7 rfl hl (by decide) rfl (fun ls hl => ?_)
  -- the model
  obtain ⟨gr, hA⟩ := hH
  obtain ⟨Z2, e3⟩ : ∃ Z2 : ZT, Z2 = Zm Z1 H.size := ⟨_, rfl⟩
  have hA2 : HHA_a Z2 gr JA H := by rw [e3]; exact re_m hA
  have hM2 : AtM Z2 H.size := by rw [e3]; exact AtM_m
  have hZ2 : zB Z2 = s.heap.size ∧ zH Z2 = s.heap := by rw [e3]; exact hZ1
  have hKC2 : KC Z2 s := by rw [e3]; exact KC_m hKC1
  have hv2 : vr Z1 0 0 = vr Z2 0 0 := by rw [e3]; rfl
  rw [hv2] at hl
  have hlo : ∀ q ∈ locs, zN Z2 q.base := fun q hq => by
    have := hlo q hq
    show zB Z2 ≤ _
    rw [hZ2.1, ← hZ1.1]
    exact this
  clear e3
  have b : BB p s m #[Value.ref b0] c RL cL_law 9 Z2 := ⟨hx, hb, hown, hg, hKC2, hml⟩
  have hB2 : zB Z2 ≤ H.size := hA2.1.2.1
  obtain ⟨H1, eH1⟩ : ∃ H1, H1 = H := ⟨_, rfl⟩
  have hH0 : CHp (zD Z2) H.size H 0 (fun _ => .inr (0, [])) H := ⟨rfl, rfl, fun q _ => rfl, fun j hj => absurd hj (Nat.not_lt_zero j)⟩
  refine ch_new (ci := 11) tyX13 [.null, .null, .null, .null, .null, .null, vi 0, vi 0, .null, .null, vi 0, .null, .null, .null, .null, .null, .null, .null, vi 0, .null, vi 0, vi 0, vi 0, vi 0, vi 0, vi 0, vi 0, vi 0, vi 0, vi 0, vi 0, vi 0, .null, .null, .null, .null, .null, .null, vi 0, vi 0, vi 0, .null, .null, vi 0] b hH0 in_26 tyX13_ok (li_7 6 (by decide +kernel) (by decide +kernel)) (li_7 7 (by decide +kernel) (by decide +kernel)) (li_1 16 (by decide +kernel) (by decide +kernel)) rfl (fun j hj => by rcases (show j = 0 ∨ j = 1 ∨ j = 2 ∨ j = 3 ∨ j = 4 ∨ j = 5 ∨ j = 6 ∨ j = 7 ∨ j = 8 ∨ j = 9 ∨ j = 10 ∨ j = 11 ∨ j = 12 ∨ j = 13 ∨ j = 14 ∨ j = 15 ∨ j = 16 ∨ j = 17 ∨ j = 18 ∨ j = 19 ∨ j = 20 ∨ j = 21 ∨ j = 22 ∨ j = 23 ∨ j = 24 ∨ j = 25 ∨ j = 26 ∨ j = 27 ∨ j = 28 ∨ j = 29 ∨ j = 30 ∨ j = 31 ∨ j = 32 ∨ j = 33 ∨ j = 34 ∨ j = 35 ∨ j = 36 ∨ j = 37 ∨ j = 38 ∨ j = 39 ∨ j = 40 ∨ j = 41 ∨ j = 42 ∨ j = 43 by omega) with rfl | rfl | rfl | rfl | rfl | rfl | rfl | rfl | rfl | rfl | rfl | rfl | rfl | rfl | rfl | rfl | rfl | rfl | rfl | rfl | rfl | rfl | rfl | rfl | rfl | rfl | rfl | rfl | rfl | rfl | rfl | rfl | rfl | rfl | rfl | rfl | rfl | rfl | rfl | rfl | rfl | rfl | rfl | rfl <;> rfl) (show 0 + 1 + (1111 + dC FR0 JA) + 1 ≤ 601024 by omega) (show 0 + 10 + (21377 + dS FR0 JA) + 44 ≤ 7293034 by omega) dL_law_8 (fun H' hH => ?_)
  refine lv_dup b.1 b.2.1 dL_law_11 rfl ?_
  refine ch_call (y' := yX13_init) (cc' := cX13_init) (maxL' := 1) (h' := 6) (nA := 0) (a := H.size + 0) (As := []) (rest := [.ref (H.size + 0)]) b hl.1 (C_RX13 Z2 hB2 hM2 fA f2 f3 f4) ⟨_, H, rfl, ⟨gr, hA2⟩, uE_self _ _ _, hH⟩ hfl (li_7 10 (by decide +kernel) (by decide +kernel)) (li_7 8 (by decide +kernel) (by decide +kernel)) (li_7 9 (by decide +kernel) (by decide +kernel)) (li_1 16 (by decide +kernel) (by decide +kernel)) rfl (by decide +kernel) rfl rfl ⟨Nat.le_of_ble_eq_true rfl, Nat.le_of_ble_eq_true rfl⟩ (Nat.le_of_ble_eq_true rfl) ⟨show 0 + 1 + (1111 + dC FR0 JA) + 1 + (24 + dC JA J3) ≤ 601024 by omega, show 0 + 10 + (21377 + dS FR0 JA) + 44 + (304194 + dS JA J3) ≤ 7293034 by omega⟩ hlo dL_law_12 (fun H2 locs hH hlo => ?_)
  have e2 : (.ref (H.size + 0) : Value) = vr Z2 26 0 := by
    unfold vr
    rw [hM2 26 0 (by decide) (by decide)]
    rfl
  rw [e2]
  refine lv_astore_n (lv' := [(2, vr Z2 26 0), (1, vr Z2 0 0), (0, .ref b0)]) b.1 b.2.1 dL_law_15 rfl hl (by decide) rfl (fun ls hl => ?_)
  -- the array
  obtain ⟨gr3, hB⟩ := hH
  have hH0 : CHp (zD Z2) H2.size H2 0 (fun _ => .inr (0, [])) H2 := ⟨rfl, rfl, fun q _ => rfl, fun j hj => absurd hj (Nat.not_lt_zero j)⟩
  refine lv_iconst (v := Int32.ofInt 1) b.1 b.2.1 dL_law_16 rfl ?_
  refine ch_newl (t0 := 3) (N' := 1) (cA := zC Z2 3) b hH0 (li_9 238 (by decide +kernel) (by decide +kernel)) rfl (by decide) (by decide) (show 0 + 1 + (1111 + dC FR0 JA) + 1 + (24 + dC JA J3) + 1 ≤ 601024 by omega) (show 0 + 10 + (21377 + dS FR0 JA) + 44 + (304194 + dS JA J3) + 1 ≤ 7293034 by omega) dL_law_17 (fun H3 hH => ?_)
  have hO := re_o hB (funext fun q => (hFS.2.2.2 29 0 q (by decide) (fun z => by unfold FG at z; omega) (fun z => by unfold FMC FW at z; omega)).trans rfl) (uE_self _ _ _) hH
  obtain ⟨Z3, e3⟩ : ∃ Z3 : ZT, Z3 = Zo Z2 H2.size := ⟨_, rfl⟩
  rw [← e3] at hO
  have hZ3 : zB Z3 = s.heap.size ∧ zH Z3 = s.heap := by rw [e3]; exact hZ2
  have hKC3 : KC Z3 s := by rw [e3]; exact KC_o hKC2
  have e4 : (.ref (H2.size + 0) : Value) = vr Z3 29 0 := by rw [e3]; rfl
  have e5 : vr Z2 26 0 = vr Z3 26 0 := by rw [e3]; rfl
  have e6 : vr Z2 0 0 = vr Z3 0 0 := by rw [e3]; rfl
  rw [e4]
  rw [e5, e6] at hl
  refine lv_astore_n (lv' := [(3, vr Z3 29 0), (2, vr Z3 26 0), (1, vr Z3 0 0), (0, .ref b0)]) b.1 b.2.1 dL_law_19 rfl hl (by decide) rfl (fun ls hl => ?_)
  refine lv_iconst (v := Int32.ofInt 0) b.1 b.2.1 dL_law_20 rfl ?_
  refine lv_istore (lv' := [(4, vi 0), (3, vr Z3 29 0), (2, vr Z3 26 0), (1, vr Z3 0 0), (0, .ref b0)]) b.1 b.2.1 dL_law_21 hl (by decide) rfl (fun ls hl => ?_)
  exact kk Z3 J3 H3 locs ls _ _ ⟨hx, hb, hown, hg, hKC3, hml⟩ hZ3 hFS ⟨gr3, hO⟩ (fun q hq => by
    have := hlo q hq
    show zB Z3 ≤ _
    rw [hZ3.1, ← hZ2.1]
    exact this) (by omega) (by omega) (lv_sub hl [4, 3, 2, 1, 0] rfl)
section LTAB
variable {p : Program} {l : Launch} {e : Env} {R : Room} {s : State} {m : MethodId} {args : Array Value} {below : List Frame} {meth : Method} {c : Code} {H : Heap} {locs : List Loc} {cells slots : Nat} {Q : State → Prop} {cc : ByteArray} {pc nL : Nat} {ls : Array Slot} {rest : List Value} {own : String} {Z : ZT}
theorem lx_tin {x n dflt lo hi off : Int} {offs : Array Int} {len : Nat} (tgt : Nat) (b : BB p s m args c own cc nL Z) (d : decode cc pc = .ok (.tableswitch dflt lo hi offs, len)) (hx : w32 x = n) (h1 : lo ≤ n) (h2 : n ≤ hi) (ho : offs[(n - lo).toNat]? = some off) (ht : (pc : Int) + off = (tgt : Int)) (k : W p l e R s m args below meth c H locs cells slots Q (F0 m tgt ls rest)) : W p l e R s m args below meth c H locs cells slots Q (F0 m pc ls (vi x :: rest)) :=
  lv_tableIn b.1 b.2.1 d (by rw [w_toInt, hx]; omega) (by rw [w_toInt, hx]; omega) (by rw [w_toInt, hx]; exact ho) ht k
theorem lx_tout {x dflt lo hi : Int} {offs : Array Int} {len : Nat} (tgt : Nat) (b : BB p s m args c own cc nL Z) (d : decode cc pc = .ok (.tableswitch dflt lo hi offs, len)) (hx : w32 x < lo ∨ hi < w32 x) (ht : (pc : Int) + dflt = (tgt : Int)) (k : W p l e R s m args below meth c H locs cells slots Q (F0 m tgt ls rest)) : W p l e R s m args below meth c H locs cells slots Q (F0 m pc ls (vi x :: rest)) :=
  lv_tableOut b.1 b.2.1 d (by rw [w_toInt]; exact hx) ht k
end LTAB
