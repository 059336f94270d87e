/-! ===== decoding a piece of a method ===== -/
def AgB (P : Nat) (code C : ByteArray) : Prop := ∀ j : Nat, j < C.size → ∃ (h : P + j < code.size) (h2 : j < C.size), code[P + j] = C[j]
theorem agb_of {code C : ByteArray} {A D : List UInt8} {P : Nat} (h : code.data.toList = A ++ (C.data.toList ++ D)) (hA : A.length = P) : AgB P code C := by
  intro j hj
  have hj' : j < C.data.toList.length := by rw [Array.length_toList]; exact hj
  have hs : code.size = code.data.toList.length := by rw [Array.length_toList]; rfl
  have hl : P + j < code.size := by
    rw [hs, h, List.length_append, List.length_append]
    omega
  refine ⟨hl, hj, ?_⟩
  have e1 : code[P + j] = code.data.toList[P + j]'(by rw [← hs]; exact hl) := by
    rw [Array.getElem_toList]; rfl
  have e2 : C[j] = C.data.toList[j]'hj' := by
    rw [Array.getElem_toList]; rfl
  rw [e1, e2]
  have q : code.data.toList[P + j]? = C.data.toList[j]? := by
    rw [h, List.getElem?_append_right (by omega), show P + j - A.length = j by omega, List.getElem?_append_left hj']
  rw [List.getElem?_eq_getElem (by rw [← hs]; exact hl), List.getElem?_eq_getElem hj'] at q
  exact Option.some.inj q
def Shr {α : Type} (P : Nat) (code C : ByteArray) (r r' : Jvm.ClassFile.Decoder α) : Prop := ∀ (p : Nat) (a : α) (q : Nat), r.runAt C p = .ok (a, q) → r'.runAt code (P + p) = .ok (a, P + q)
section SHR
variable {α β : Type} {P : Nat} {code C : ByteArray}
theorem shr_pure (a : α) : Shr P code C (pure a) (pure a) := by
  intro p b q h
  cases h
  rfl
theorem shr_err {e : Jvm.ClassFile.DecodeError} {r' : Jvm.ClassFile.Decoder α} : Shr P code C (throw e) r' := by
  intro p b q h
  cases h
theorem shr_bind {r r' : Jvm.ClassFile.Decoder α} {f f' : α → Jvm.ClassFile.Decoder β} (hr : Shr P code C r r') (hf : ∀ a : α, Shr P code C (f a) (f' a)) : Shr P code C (r >>= f) (r' >>= f') := by
  intro p b q h
  have e : ∀ (r : Jvm.ClassFile.Decoder α) (f : α → Jvm.ClassFile.Decoder β) (D : ByteArray) (x : Nat), (r >>= f).runAt D x = (r.runAt D x).bind (fun y => (f y.1).runAt D y.2) := fun _ _ _ _ => rfl
  rw [e] at h ⊢
  cases h1 : r.runAt C p with
  | error z => rw [h1] at h; cases h
  | ok y =>
    obtain ⟨a, m⟩ := y
    rw [h1] at h
    rw [hr p a m h1]
    exact hf a m b q h
theorem shr_map {r r' : Jvm.ClassFile.Decoder α} {f : α → β} (hr : Shr P code C r r') : Shr P code C (f <$> r) (f <$> r') := by
  intro p b q h
  have e : ∀ (r : Jvm.ClassFile.Decoder α) (D : ByteArray) (x : Nat), (f <$> r).runAt D x = (r.runAt D x).bind (fun y => .ok (f y.1, y.2)) := fun _ _ _ => rfl
  rw [e] at h ⊢
  cases h1 : r.runAt C p with
  | error z => rw [h1] at h; cases h
  | ok y =>
    obtain ⟨a, m⟩ := y
    rw [h1] at h
    rw [hr p a m h1]
    cases h
    rfl
theorem u1_at (D : ByteArray) (p : Nat) : (Jvm.ClassFile.Reader.u1 : Jvm.ClassFile.Decoder Nat).runAt D p = if h : p < D.size then .ok (D[p].toNat, p + 1) else .error (.truncated p) := by
  have e : (Jvm.ClassFile.Reader.u1 : Jvm.ClassFile.Decoder Nat).runAt D p = (dite (p < D.size) (fun h => (do set (p + 1); pure D[p].toNat : Jvm.ClassFile.Decoder Nat)) (fun _ => throw (.truncated p))) D p := rfl
  rw [e]
  by_cases h : p < D.size
  · rw [dif_pos h, dif_pos h]; rfl
  · rw [dif_neg h, dif_neg h]; rfl
theorem shr_u1 (H : AgB P code C) : Shr P code C Jvm.ClassFile.Reader.u1 Jvm.ClassFile.Reader.u1 := by
  intro p b q h
  rw [u1_at] at h ⊢
  by_cases z : p < C.size
  · rw [dif_pos z] at h
    obtain ⟨h1, h2, h3⟩ := H p z
    rw [dif_pos h1, h3]
    cases h
    rfl
  · rw [dif_neg z] at h
    cases h
theorem shr_u2 (H : AgB P code C) : Shr P code C Jvm.ClassFile.Reader.u2 Jvm.ClassFile.Reader.u2 := shr_bind (shr_u1 H) (fun _ => shr_bind (shr_u1 H) (fun _ => shr_pure _))
theorem shr_s1 (H : AgB P code C) : Shr P code C Jvm.ClassFile.Reader.s1 Jvm.ClassFile.Reader.s1 := shr_map (shr_u1 H)
theorem shr_s2 (H : AgB P code C) : Shr P code C Jvm.ClassFile.Reader.s2 Jvm.ClassFile.Reader.s2 := shr_map (shr_u2 H)
/-- those whose reading is followed here -/
def opK (b : Nat) : Bool := decide (b ∈ [2, 3, 4, 5, 6, 7, 8, 9, 10, 12, 13, 14, 16, 17, 18, 19, 20, 21, 22, 24, 25, 26, 27, 28, 29, 30, 31, 32, 33, 34, 35, 38, 39, 40, 41, 42, 43, 44, 45, 46, 47, 50, 51, 54, 55, 57, 58, 60, 61, 62, 63, 64, 68, 71, 72, 73, 74, 76, 77, 78, 79, 80, 83, 84, 87, 88, 89, 92, 96, 97, 100, 102, 104, 105, 106, 108, 110, 111, 112, 116, 120, 122, 124, 126, 128, 132, 133, 134, 135, 139, 145, 146, 148, 149, 150, 151, 152, 153, 154, 155, 156, 157, 158, 159, 160, 161, 162, 163, 164, 165, 166, 167, 172, 173, 174, 175, 176, 177, 178, 180, 181, 182, 183, 184, 187, 189, 190, 191, 198])
theorem run_bind (r : Jvm.ClassFile.Decoder α) (f : α → Jvm.ClassFile.Decoder β) (D : ByteArray) (x : Nat) : Jvm.ClassFile.Reader.runAt (r >>= f) D x = (Jvm.ClassFile.Reader.runAt r D x).bind (fun y => Jvm.ClassFile.Reader.runAt (f y.1) D y.2) := rfl
set_option maxRecDepth 20000 in
set_option maxHeartbeats 4000000 in
theorem shr_instr (H : AgB P code C) {p m : Nat} {a : Jvm.ClassFile.Instr} (hp : p < C.size) (ho : opK C[p].toNat = true) (h : (Jvm.ClassFile.Decoder.instr p).runAt C p = .ok (a, m)) : (Jvm.ClassFile.Decoder.instr (P + p)).runAt code (P + p) = .ok (a, P + m) := by
  obtain ⟨h1, h2, h3⟩ := H p hp
  unfold Jvm.ClassFile.Decoder.instr at h ⊢
  rw [run_bind, u1_at, dif_pos hp] at h
  rw [run_bind, u1_at, dif_pos h1, h3]
  generalize C[p].toNat = b at h ho ⊢
  have hm : b ∈ [2, 3, 4, 5, 6, 7, 8, 9, 10, 12, 13, 14, 16, 17, 18, 19, 20, 21, 22, 24, 25, 26, 27, 28, 29, 30, 31, 32, 33, 34, 35, 38, 39, 40, 41, 42, 43, 44, 45, 46, 47, 50, 51, 54, 55, 57, 58, 60, 61, 62, 63, 64, 68, 71, 72, 73, 74, 76, 77, 78, 79, 80, 83, 84, 87, 88, 89, 92, 96, 97, 100, 102, 104, 105, 106, 108, 110, 111, 112, 116, 120, 122, 124, 126, 128, 132, 133, 134, 135, 139, 145, 146, 148, 149, 150, 151, 152, 153, 154, 155, 156, 157, 158, 159, 160, 161, 162, 163, 164, 165, 166, 167, 172, 173, 174, 175, 176, 177, 178, 180, 181, 182, 183, 184, 187, 189, 190, 191, 198] := of_decide_eq_true ho
  simp only [List.mem_cons, List.mem_nil_iff, or_false] at hm
  rcases hm with rfl | rfl | rfl | rfl | rfl | rfl | rfl | rfl | rfl | rfl | rfl | rfl | rfl | rfl | rfl | rfl | rfl | rfl | rfl | rfl | rfl | rfl | rfl | rfl | rfl | rfl | rfl | rfl | rfl | rfl | rfl | rfl | rfl | rfl | rfl | rfl | rfl | rfl | rfl | rfl | rfl | rfl | rfl | rfl | rfl | rfl | rfl | rfl | rfl | rfl | rfl | rfl | rfl | rfl | rfl | rfl | rfl | rfl | rfl | rfl | rfl | rfl | rfl | rfl | rfl | rfl | rfl | rfl | rfl | rfl | rfl | rfl | rfl | rfl | rfl | rfl | rfl | rfl | rfl | rfl | rfl | rfl | rfl | rfl | rfl | rfl | rfl | rfl | rfl | rfl | rfl | rfl | rfl | rfl | rfl | rfl | rfl | rfl | rfl | rfl | rfl | rfl | rfl | rfl | rfl | rfl | rfl | rfl | rfl | rfl | rfl | rfl | rfl | rfl | rfl | rfl | rfl | rfl | rfl | rfl | rfl | rfl | rfl | rfl | rfl | rfl | rfl | rfl | rfl
  · exact shr_pure (P := P) (code := code) (C := C) _ (p + 1) a m h
  · exact shr_pure (P := P) (code := code) (C := C) _ (p + 1) a m h
  · exact shr_pure (P := P) (code := code) (C := C) _ (p + 1) a m h
  · exact shr_pure (P := P) (code := code) (C := C) _ (p + 1) a m h
  · exact shr_pure (P := P) (code := code) (C := C) _ (p + 1) a m h
  · exact shr_pure (P := P) (code := code) (C := C) _ (p + 1) a m h
  · exact shr_pure (P := P) (code := code) (C := C) _ (p + 1) a m h
  · exact shr_pure (P := P) (code := code) (C := C) _ (p + 1) a m h
  · exact shr_pure (P := P) (code := code) (C := C) _ (p + 1) a m h
  · exact shr_pure (P := P) (code := code) (C := C) _ (p + 1) a m h
  · exact shr_pure (P := P) (code := code) (C := C) _ (p + 1) a m h
  · exact shr_pure (P := P) (code := code) (C := C) _ (p + 1) a m h
  · exact shr_bind (shr_s1 H) (fun _ => shr_pure _) (p + 1) a m h
  · exact shr_bind (shr_s2 H) (fun _ => shr_pure _) (p + 1) a m h
  · exact shr_bind (shr_u1 H) (fun _ => shr_pure _) (p + 1) a m h
  · exact shr_bind (shr_u2 H) (fun _ => shr_pure _) (p + 1) a m h
  · exact shr_bind (shr_u2 H) (fun _ => shr_pure _) (p + 1) a m h
  · exact shr_bind (shr_u1 H) (fun _ => shr_pure _) (p + 1) a m h
  · exact shr_bind (shr_u1 H) (fun _ => shr_pure _) (p + 1) a m h
  · exact shr_bind (shr_u1 H) (fun _ => shr_pure _) (p + 1) a m h
  · exact shr_bind (shr_u1 H) (fun _ => shr_pure _) (p + 1) a m h
  · exact shr_pure (P := P) (code := code) (C := C) _ (p + 1) a m h
  · exact shr_pure (P := P) (code := code) (C := C) _ (p + 1) a m h
  · exact shr_pure (P := P) (code := code) (C := C) _ (p + 1) a m h
  · exact shr_pure (P := P) (code := code) (C := C) _ (p + 1) a m h
  · exact shr_pure (P := P) (code := code) (C := C) _ (p + 1) a m h
  · exact shr_pure (P := P) (code := code) (C := C) _ (p + 1) a m h
  · exact shr_pure (P := P) (code := code) (C := C) _ (p + 1) a m h
  · exact shr_pure (P := P) (code := code) (C := C) _ (p + 1) a m h
  · exact shr_pure (P := P) (code := code) (C := C) _ (p + 1) a m h
  · exact shr_pure (P := P) (code := code) (C := C) _ (p + 1) a m h
  · exact shr_pure (P := P) (code := code) (C := C) _ (p + 1) a m h
  · exact shr_pure (P := P) (code := code) (C := C) _ (p + 1) a m h
  · exact shr_pure (P := P) (code := code) (C := C) _ (p + 1) a m h
  · exact shr_pure (P := P) (code := code) (C := C) _ (p + 1) a m h
  · exact shr_pure (P := P) (code := code) (C := C) _ (p + 1) a m h
  · exact shr_pure (P := P) (code := code) (C := C) _ (p + 1) a m h
  · exact shr_pure (P := P) (code := code) (C := C) _ (p + 1) a m h
  · exact shr_pure (P := P) (code := code) (C := C) _ (p + 1) a m h
  · exact shr_pure (P := P) (code := code) (C := C) _ (p + 1) a m h
  · exact shr_pure (P := P) (code := code) (C := C) _ (p + 1) a m h
  · exact shr_pure (P := P) (code := code) (C := C) _ (p + 1) a m h
  · exact shr_pure (P := P) (code := code) (C := C) _ (p + 1) a m h
  · exact shr_bind (shr_u1 H) (fun _ => shr_pure _) (p + 1) a m h
  · exact shr_bind (shr_u1 H) (fun _ => shr_pure _) (p + 1) a m h
  · exact shr_bind (shr_u1 H) (fun _ => shr_pure _) (p + 1) a m h
  · exact shr_bind (shr_u1 H) (fun _ => shr_pure _) (p + 1) a m h
  · exact shr_pure (P := P) (code := code) (C := C) _ (p + 1) a m h
  · exact shr_pure (P := P) (code := code) (C := C) _ (p + 1) a m h
  · exact shr_pure (P := P) (code := code) (C := C) _ (p + 1) a m h
  · exact shr_pure (P := P) (code := code) (C := C) _ (p + 1) a m h
  · exact shr_pure (P := P) (code := code) (C := C) _ (p + 1) a m h
  · exact shr_pure (P := P) (code := code) (C := C) _ (p + 1) a m h
  · exact shr_pure (P := P) (code := code) (C := C) _ (p + 1) a m h
  · exact shr_pure (P := P) (code := code) (C := C) _ (p + 1) a m h
  · exact shr_pure (P := P) (code := code) (C := C) _ (p + 1) a m h
  · exact shr_pure (P := P) (code := code) (C := C) _ (p + 1) a m h
  · exact shr_pure (P := P) (code := code) (C := C) _ (p + 1) a m h
  · exact shr_pure (P := P) (code := code) (C := C) _ (p + 1) a m h
  · exact shr_pure (P := P) (code := code) (C := C) _ (p + 1) a m h
  · exact shr_pure (P := P) (code := code) (C := C) _ (p + 1) a m h
  · exact shr_pure (P := P) (code := code) (C := C) _ (p + 1) a m h
  · exact shr_pure (P := P) (code := code) (C := C) _ (p + 1) a m h
  · exact shr_pure (P := P) (code := code) (C := C) _ (p + 1) a m h
  · exact shr_pure (P := P) (code := code) (C := C) _ (p + 1) a m h
  · exact shr_pure (P := P) (code := code) (C := C) _ (p + 1) a m h
  · exact shr_pure (P := P) (code := code) (C := C) _ (p + 1) a m h
  · exact shr_pure (P := P) (code := code) (C := C) _ (p + 1) a m h
  · exact shr_pure (P := P) (code := code) (C := C) _ (p + 1) a m h
  · exact shr_pure (P := P) (code := code) (C := C) _ (p + 1) a m h
  · exact shr_pure (P := P) (code := code) (C := C) _ (p + 1) a m h
  · exact shr_pure (P := P) (code := code) (C := C) _ (p + 1) a m h
  · exact shr_pure (P := P) (code := code) (C := C) _ (p + 1) a m h
  · exact shr_pure (P := P) (code := code) (C := C) _ (p + 1) a m h
  · exact shr_pure (P := P) (code := code) (C := C) _ (p + 1) a m h
  · exact shr_pure (P := P) (code := code) (C := C) _ (p + 1) a m h
  · exact shr_pure (P := P) (code := code) (C := C) _ (p + 1) a m h
  · exact shr_pure (P := P) (code := code) (C := C) _ (p + 1) a m h
  · exact shr_pure (P := P) (code := code) (C := C) _ (p + 1) a m h
  · exact shr_pure (P := P) (code := code) (C := C) _ (p + 1) a m h
  · exact shr_pure (P := P) (code := code) (C := C) _ (p + 1) a m h
  · exact shr_pure (P := P) (code := code) (C := C) _ (p + 1) a m h
  · exact shr_pure (P := P) (code := code) (C := C) _ (p + 1) a m h
  · exact shr_pure (P := P) (code := code) (C := C) _ (p + 1) a m h
  · exact shr_pure (P := P) (code := code) (C := C) _ (p + 1) a m h
  · exact shr_bind (shr_u1 H) (fun _ => shr_bind (shr_s1 H) (fun _ => shr_pure _)) (p + 1) a m h
  · exact shr_pure (P := P) (code := code) (C := C) _ (p + 1) a m h
  · exact shr_pure (P := P) (code := code) (C := C) _ (p + 1) a m h
  · exact shr_pure (P := P) (code := code) (C := C) _ (p + 1) a m h
  · exact shr_pure (P := P) (code := code) (C := C) _ (p + 1) a m h
  · exact shr_pure (P := P) (code := code) (C := C) _ (p + 1) a m h
  · exact shr_pure (P := P) (code := code) (C := C) _ (p + 1) a m h
  · exact shr_pure (P := P) (code := code) (C := C) _ (p + 1) a m h
  · exact shr_pure (P := P) (code := code) (C := C) _ (p + 1) a m h
  · exact shr_pure (P := P) (code := code) (C := C) _ (p + 1) a m h
  · exact shr_pure (P := P) (code := code) (C := C) _ (p + 1) a m h
  · exact shr_pure (P := P) (code := code) (C := C) _ (p + 1) a m h
  · exact shr_bind (shr_s2 H) (fun _ => shr_pure _) (p + 1) a m h
  · exact shr_bind (shr_s2 H) (fun _ => shr_pure _) (p + 1) a m h
  · exact shr_bind (shr_s2 H) (fun _ => shr_pure _) (p + 1) a m h
  · exact shr_bind (shr_s2 H) (fun _ => shr_pure _) (p + 1) a m h
  · exact shr_bind (shr_s2 H) (fun _ => shr_pure _) (p + 1) a m h
  · exact shr_bind (shr_s2 H) (fun _ => shr_pure _) (p + 1) a m h
  · exact shr_bind (shr_s2 H) (fun _ => shr_pure _) (p + 1) a m h
  · exact shr_bind (shr_s2 H) (fun _ => shr_pure _) (p + 1) a m h
  · exact shr_bind (shr_s2 H) (fun _ => shr_pure _) (p + 1) a m h
  · exact shr_bind (shr_s2 H) (fun _ => shr_pure _) (p + 1) a m h
  · exact shr_bind (shr_s2 H) (fun _ => shr_pure _) (p + 1) a m h
  · exact shr_bind (shr_s2 H) (fun _ => shr_pure _) (p + 1) a m h
  · exact shr_bind (shr_s2 H) (fun _ => shr_pure _) (p + 1) a m h
  · exact shr_bind (shr_s2 H) (fun _ => shr_pure _) (p + 1) a m h
  · exact shr_bind (shr_s2 H) (fun _ => shr_pure _) (p + 1) a m h
  · exact shr_pure (P := P) (code := code) (C := C) _ (p + 1) a m h
  · exact shr_pure (P := P) (code := code) (C := C) _ (p + 1) a m h
  · exact shr_pure (P := P) (code := code) (C := C) _ (p + 1) a m h
  · exact shr_pure (P := P) (code := code) (C := C) _ (p + 1) a m h
  · exact shr_pure (P := P) (code := code) (C := C) _ (p + 1) a m h
  · exact shr_pure (P := P) (code := code) (C := C) _ (p + 1) a m h
  · exact shr_bind (shr_u2 H) (fun _ => shr_pure _) (p + 1) a m h
  · exact shr_bind (shr_u2 H) (fun _ => shr_pure _) (p + 1) a m h
  · exact shr_bind (shr_u2 H) (fun _ => shr_pure _) (p + 1) a m h
  · exact shr_bind (shr_u2 H) (fun _ => shr_pure _) (p + 1) a m h
  · exact shr_bind (shr_u2 H) (fun _ => shr_pure _) (p + 1) a m h
  · exact shr_bind (shr_u2 H) (fun _ => shr_pure _) (p + 1) a m h
  · exact shr_bind (shr_u2 H) (fun _ => shr_pure _) (p + 1) a m h
  · exact shr_bind (shr_u2 H) (fun _ => shr_pure _) (p + 1) a m h
  · exact shr_pure (P := P) (code := code) (C := C) _ (p + 1) a m h
  · exact shr_pure (P := P) (code := code) (C := C) _ (p + 1) a m h
  · exact shr_bind (shr_s2 H) (fun _ => shr_pure _) (p + 1) a m h
def opA (C : ByteArray) (p : Nat) : Bool := match C.data.toList[p]? with
  | some b => opK b.toNat
  | none => false
theorem dec_sh {p n : Nat} {i : Jvm.ClassFile.Instr} (H : AgB P code C) (ho : opA C p = true) (d : decode C p = .ok (i, n)) : decode code (P + p) = .ok (i, n) := by
  have hp : p < C.data.toList.length := by
    rcases Nat.lt_or_ge p C.data.toList.length with z | z
    · exact z
    · rw [opA, List.getElem?_eq_none z] at ho
      cases ho
  have hp' : p < C.size := by
    have := hp
    rw [Array.length_toList] at this
    exact this
  have ho2 : opK C[p].toNat = true := by
    unfold opA at ho
    rw [List.getElem?_eq_getElem hp, Array.getElem_toList] at ho
    exact ho
  have e : ∀ (D : ByteArray) (x : Nat), decode D x = ((Jvm.ClassFile.Decoder.instr x).runAt D x).bind (fun y => .ok (y.1, y.2 - x)) := fun _ _ => rfl
  rw [e] at d ⊢
  cases h1 : (Jvm.ClassFile.Decoder.instr p).runAt C p with
  | error z => rw [h1] at d; cases d
  | ok y =>
    obtain ⟨a, m⟩ := y
    rw [h1] at d
    cases d
    rw [shr_instr H hp' ho2 h1]
    show Except.ok (a, P + m - (P + p)) = Except.ok (a, m - p)
    rw [Nat.add_sub_add_left]
end SHR
