/-! ===== the logical memory, and the heap that holds it ===== -/
def w32 (x : Int) : Int := x.bmod 4294967296
abbrev vi (x : Int) : Value := .int (Int32.ofInt x)
abbrev Mem : Type := Nat → Nat → Nat → Int
def sI (I : Mem) (k i s : Nat) (v : Int) : Mem := fun k' i' s' => if k' = k ∧ i' = i ∧ s' = s then v else I k' i' s'
theorem sI_self (I : Mem) (k i s : Nat) (v : Int) : sI I k i s v k i s = v := if_pos ⟨rfl, rfl, rfl⟩
theorem sI_ne {I : Mem} {k i s : Nat} {v : Int} {k' i' s' : Nat} (h : ¬ (k' = k ∧ i' = i ∧ s' = s)) : sI I k i s v k' i' s' = I k' i' s' := if_neg h
/-- the places: how many cells there were at the law's start, that heap, the classes' numbers and slots, the array classes, where each object lies -/
abbrev ZT : Type := Nat × Heap × va_G × (Nat → ClassId) × (Nat → Nat → Nat)
abbrev zB (Z : ZT) : Nat := Z.1
abbrev zH (Z : ZT) : Heap := Z.2.1
abbrev zD (Z : ZT) : va_G := Z.2.2.1
abbrev zC (Z : ZT) : Nat → ClassId := Z.2.2.2.1
abbrev zA (Z : ZT) : Nat → Nat → Nat := Z.2.2.2.2
abbrev vr (Z : ZT) (k i : Nat) : Value := .ref (zA Z k i)
/-- a reference that may be null: below 0 it is -/
def vrn (Z : ZT) (k : Nat) (x : Int) : Value := if x < 0 then .null else .ref (zA Z k x.toNat)
abbrev cls : List vw_C := [(RX12, TX12, 10), (RX1, TX1, 10), (RX5, TX5, 2), (RX9, TX9, 2), (RX3, TX3, 10), (RX10, TX10, 8), (RX8, TX8, 8), (RX7, TX7, 7), (RX6, TX6, 11), (RX2, TX2, 5), (RX4, TX4, 2), (RX13, TX13, 44)]
abbrev tysOf (Z : ZT) : List (ClassId × FieldType) := [(zC Z 0, .int), (zC Z 1, .boolean), (zC Z 2, .byte), (zC Z 3, .long), (zC Z 4, .object RX5), (zC Z 5, .object RX1), (zC Z 6, .object RX11)]
def svLen (i : Nat) : Nat := if i < 3 then 40 else if i = 3 then 400 else 41
def scLen (i : Nat) : Nat := if i = 5 then 2 else 60
def mLen (i : Nat) : Nat := if i < 3 then 16860 else if i = 3 then 134880 else if i = 4 then 33720 else if i < 7 then 66 else if i < 9 then 401 else if i < 11 then 42 else if i < 14 then 4356 else if i = 14 then 600 else if i < 19 then 64 else if i < 21 then 2 else if i = 21 then 66 else 70000
abbrev arI (c n : Nat) (f : Nat → Int) : va_E := .inl (c, n, .inl fun j => Int32.ofInt (f j))
abbrev arR (c n : Nat) (f : Nat → Nat) : va_E := .inl (c, n, .inr (.inr (.inr (.inr fun j => some (f j)))))
/-- what the cell of kind k, number i is, where the rows' arrays lie at gr -/
def ent (Z : ZT) (gr : Nat → Nat) (I : Mem) (k i : Nat) : va_E := match k with
  | 0 => .inr (0, [vr Z 1 0, vr Z 1 1, vr Z 3 0, vr Z 5 0, vr Z 6 0, vr Z 7 0, vr Z 8 0, vr Z 9 0, vr Z 10 0, vi (I 0 i 9)])
  | 1 => .inr (1, [vr Z 2 (43 * i), vr Z 2 (43 * i + 1), vr Z 13 i, vr Z 2 (43 * i + 2), vr Z 14 i, vr Z 15 i, vi (I 1 i 6), vi (I 1 i 7), vi (I 1 i 8), vi (I 1 i 9)])
  | 2 => .inr (2, [.ref (gr i), vi (I 2 i 1)])
  | 3 => .inr (3, [vr Z 4 0, vr Z 17 0])
  | 4 => .inr (4, [vr Z 16 0, vr Z 16 1, vr Z 16 2, vr Z 16 3, vi (I 4 i 4), vrn Z 1 (I 4 i 5), vi (I 4 i 6), vi (I 4 i 7), vi (I 4 i 8), vi (I 4 i 9)])
  | 5 => .inr (5, [vr Z 18 0, vr Z 18 1, vr Z 18 2, vr Z 18 3, vr Z 18 4, vr Z 18 5, vi (I 5 i 6), vi (I 5 i 7)])
  | 6 => .inr (6, [vr Z 19 0, vi (I 6 i 1), vi (I 6 i 2), vi (I 6 i 3), vi (I 6 i 4), vi (I 6 i 5), vi (I 6 i 6), vi (I 6 i 7)])
  | 7 => .inr (7, [vr Z 6 0, vr Z 1 1, vi (I 7 i 2), vi (I 7 i 3), vi (I 7 i 4), vi (I 7 i 5), vi (I 7 i 6)])
  | 8 => .inr (8, [vr Z 6 0, vr Z 20 0, vr Z 21 0, vr Z 21 1, vr Z 21 2, vr Z 21 3, vr Z 21 4, vr Z 21 5, vi (I 8 i 8), vi (I 8 i 9), vi (I 8 i 10)])
  | 9 => .inr (9, [vr Z 22 0, vr Z 23 0, vr Z 24 0, vi (I 9 i 3), vi (I 9 i 4)])
  | 10 => .inr (10, [.ref (gr 516), vi (I 10 i 1)])
  | 12 => arI (zC Z 0) (I 2 i 2).toNat (I 12 i)
  | 13 => arR (zC Z 4) 40 (fun j => zA Z 2 (43 * i + 3 + j))
  | 14 => arI (zC Z 0) 40 (I 14 i)
  | 15 => arI (zC Z 0) 9 (I 15 i)
  | 16 => arI (zC Z 0) 4356 (I 16 i)
  | 17 => arI (zC Z 0) 40 (I 17 i)
  | 18 => arI (zC Z 0) (svLen i) (I 18 i)
  | 19 => arI (zC Z 0) 600 (I 19 i)
  | 20 => arR (zC Z 6) 60 (fun j => zA Z 11 (I 20 i j).toNat)
  | 21 => arI (zC Z 0) (scLen i) (I 21 i)
  | 22 => arR (zC Z 5) 8 (fun j => zA Z 1 (2 + j))
  | 23 => arR (zC Z 5) 2 (fun j => zA Z 1 (10 + j))
  | 24 => arI (zC Z 1) 2 (I 24 i)
  | 25 => arI (zC Z 2) (I 10 0 2).toNat (I 25 i)
  | 26 => .inr (11, [vr Z 27 0, vr Z 27 1, vr Z 27 2, vr Z 27 3, vr Z 27 4, vr Z 28 0, vi (I 26 i 6), vi (I 26 i 7), vr Z 27 5, vr Z 27 6, vi (I 26 i 10), vr Z 27 7, vr Z 27 8, vr Z 27 9, vr Z 27 10, vr Z 27 11, vr Z 27 12, vr Z 27 13, vi (I 26 i 18), vr Z 27 14, vi (I 26 i 20), vi (I 26 i 21), vi (I 26 i 22), vi (I 26 i 23), vi (I 26 i 24), vi (I 26 i 25), vi (I 26 i 26), vi (I 26 i 27), vi (I 26 i 28), vi (I 26 i 29), vi (I 26 i 30), vi (I 26 i 31), vr Z 27 15, vr Z 27 16, vr Z 27 17, vr Z 27 18, vr Z 27 19, vr Z 27 20, vi (I 26 i 38), vi (I 26 i 39), vi (I 26 i 40), vr Z 27 21, vr Z 27 22, vi (I 26 i 43)])
  | 27 => arI (zC Z 0) (mLen i) (I 27 i)
  | 28 => arI (zC Z 1) 2 (I 28 i)
  | 29 => .inl (zC Z 3, 1, .inr (.inl fun j => Int64.ofInt (I 29 i j)))
  | _ => .inl (0, 0, .inl fun _ => 0)
def ksz : Nat → Nat
  | 1 => 12 | 2 => 516 | 11 => 0 | 12 => 516 | 13 => 12 | 14 => 12 | 15 => 12 | 16 => 4 | 18 => 6 | 21 => 6 | 27 => 23 | k => if k < 30 then 1 else 0
def adG (Z : ZT) (gr : Nat → Nat) (k i : Nat) : Nat := if k = 12 then gr i else if k = 25 then gr 516 else zA Z k i
def HHA (Z : ZT) (gr : Nat → Nat) (I : Mem) (H : Heap) : Prop :=
  ((zH Z).size = zB Z ∧ zB Z ≤ H.size ∧ ∀ q : Nat, q < zB Z → H[q]? = (zH Z)[q]?) ∧
  (∀ k i k' i' : Nat, i < ksz k → i' < ksz k' → adG Z gr k i = adG Z gr k' i' → k = k' ∧ i = i') ∧
  (∀ k i : Nat, i < ksz k → zB Z ≤ adG Z gr k i) ∧
  ∀ k i : Nat, i < ksz k → va_at (zD Z) cls (adG Z gr k i, ent Z gr I k i) H
def HH (Z : ZT) (I : Mem) (H : Heap) : Prop := ∃ gr : Nat → Nat, HHA Z gr I H
theorem ent_congr {Z : ZT} {gr : Nat → Nat} {I I' : Mem} {k i : Nat} (h : ∀ s : Nat, I' k i s = I k i s) (h12 : k = 12 → I' 2 i 2 = I 2 i 2) (h25 : k = 25 → I' 10 0 2 = I 10 0 2) : ent Z gr I' k i = ent Z gr I k i := by
  have hf : I' k i = I k i := funext h
  unfold ent
  split <;> first | rfl | (simp only [hf]; done) | (simp only [hf, h12 rfl]; done) | (simp only [hf, h25 rfl]; done) | (simp only [h]; done)
theorem HHA.upd {Z : ZT} {gr : Nat → Nat} {I I' : Mem} {H H1 : Heap} {k i : Nat} (h : HHA Z gr I H) (hi : i < ksz k) (hz : H1.size = H.size) (ho : ∀ q : Nat, q ≠ adG Z gr k i → H1[q]? = H[q]?)
    (he : va_at (zD Z) cls (adG Z gr k i, ent Z gr I' k i) H1) (hI : ∀ k' i' : Nat, i' < ksz k' → ¬ (k' = k ∧ i' = i) → ent Z gr I' k' i' = ent Z gr I k' i') : HHA Z gr I' H1 := by
  obtain ⟨⟨h1, h2, h3⟩, h4, h5, h6⟩ := h
  refine ⟨⟨h1, by rw [hz]; exact h2, fun q hq => ?_⟩, h4, h5, fun k' i' hi' => ?_⟩
  · rw [ho q (fun e => by have := h5 k i hi; omega)]; exact h3 q hq
  · by_cases hk : k' = k ∧ i' = i
    · obtain ⟨rfl, rfl⟩ := hk; exact he
    · rw [hI k' i' hi' hk]
      exact (h6 k' i' hi').kept (ho _ (fun e => hk (h4 k' i' k i hi' hi e)))
/-- a plain store: of no length -/
theorem sI_ent {Z : ZT} {gr : Nat → Nat} {I : Mem} {k i s : Nat} {v : Int} (h2 : ¬ (k = 2 ∧ s = 2)) (h10 : ¬ (k = 10 ∧ s = 2)) {k' i' : Nat} (h : ¬ (k' = k ∧ i' = i)) : ent Z gr (sI I k i s v) k' i' = ent Z gr I k' i' :=
  ent_congr (fun s' => sI_ne (fun e => h ⟨e.1, e.2.1⟩)) (fun _ => sI_ne (fun e => h2 ⟨e.1.symm, e.2.2.symm⟩)) (fun _ => sI_ne (fun e => h10 ⟨e.1.symm, e.2.2.symm⟩))
theorem HHA.at {Z : ZT} {gr : Nat → Nat} {I : Mem} {H : Heap} (h : HHA Z gr I H) {k i : Nat} (hi : i < ksz k) : va_at (zD Z) cls (adG Z gr k i, ent Z gr I k i) H := h.2.2.2 k i hi
theorem va_P1 {D : va_G} {cl : List vw_C} {q : Nat × va_E} {H : Heap} (h : va_at D cl q H) : va_P D cl [q] H := fun k q' hk => by
  match k, hk with
  | 0, hk => cases hk; exact h
  | k + 1, hk => simp at hk
