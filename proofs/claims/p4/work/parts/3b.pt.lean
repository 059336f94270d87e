/-! ===== pairs: what is found, and the class's table ===== -/
theorem nodup_len : ∀ (n : Nat) (l : List Nat), l.Nodup → (∀ x ∈ l, x < n) → l.length ≤ n
  | 0, l, _, h => by
    cases l with
    | nil => exact Nat.le_refl _
    | cons x l => exact absurd (h x List.mem_cons_self) (Nat.not_lt_zero x)
  | n + 1, l, hd, h => by
    have h1 := nodup_len n (l.erase n) (hd.erase n) (fun x hx => by
      have h2 := hd.mem_erase_iff.mp hx
      have h3 := h x h2.2
      have h4 := h2.1
      omega)
    by_cases q : n ∈ l
    · have := List.length_erase_of_mem q
      omega
    · rw [List.erase_of_not_mem q] at h1
      omega
theorem fF_snoc {p : Nat → Bool} : ∀ (n k : Nat), fF p (n + 1) k = if fF p n k = -1 then (if p (k + n) = true then ((k + n : Nat) : Int) else -1) else fF p n k
  | 0, k => by
    have e : fF p 0 k = -1 := rfl
    rw [e, if_pos rfl]
    rfl
  | n + 1, k => by
    rw [fF]
    by_cases q : p k = true
    · rw [if_pos q]
      have e : fF p (n + 1) k = (k : Int) := by rw [fF, if_pos q]
      rw [e, if_neg (by omega)]
    · rw [if_neg q, fF_snoc n (k + 1)]
      have e : fF p (n + 1) k = fF p n (k + 1) := by rw [fF, if_neg q]
      rw [e, show k + 1 + n = k + (n + 1) by omega]
def nt (l : List Int) : Nat → Bool
  | 0 => true
  | k + 1 => !(decide (l.getD (k + 1) (-1) = l.getD (k + 2) (-1)) && (decide (l.getD k (-1) = l.getD (k + 1) (-1)) && nt l k))
def gAl (g : GS) (i : Nat) : Bool := decide (i ≠ 0 ∧ (gR g i).length = 2)
def nz (g : GS) (x : Nat) : Bool := !gAl g (x / 400) && (decide (x % 400 + 1 < (gR g (x / 400)).length) && nt (gR g (x / 400)) (x % 400))
def pz (g : GS) (x : Nat) : Int := (gR g (x / 400)).getD (x % 400) (-1) * 66 + (gR g (x / 400)).getD (x % 400 + 1) (-1)
def cz (g : GS) (p c : Nat) : Int := sT (fun x => bI (nz g x = true ∧ pz g x = (p : Int))) c
def fz (g : GS) (p c : Nat) : Int := fF (fun x => nz g x && decide (pz g x = (p : Int))) c 0
def kz (g : GS) (p c : Nat) : Int := fF (fun r => decide (gR g (r + 1) = [((p / 66 : Nat) : Int), ((p % 66 : Nat) : Int)])) c 0
theorem cz_succ (g : GS) (p c : Nat) : cz g p (c + 1) = cz g p c + bI (nz g c = true ∧ pz g c = (p : Int)) := rfl
theorem cz_rng (g : GS) (p c : Nat) : 0 ≤ cz g p c ∧ cz g p c ≤ c := by
  have := sT_rng (f := fun x => bI (nz g x = true ∧ pz g x = (p : Int))) (c := 1) (n := c) (fun k _ => by have := bI_01 (nz g k = true ∧ pz g k = (p : Int)); omega)
  unfold cz
  omega
theorem cz_ext {g : GS} {p c c' : Nat} (hc : c ≤ c') (h : ∀ x : Nat, c ≤ x → x < c' → nz g x = false) : cz g p c' = cz g p c ∧ fz g p c' = fz g p c := by
  induction c' with
  | zero =>
    have : c = 0 := by omega
    subst this
    exact ⟨rfl, rfl⟩
  | succ n ih =>
    by_cases e : c = n + 1
    · subst e; exact ⟨rfl, rfl⟩
    · obtain ⟨h1, h2⟩ := ih (by omega) (fun x a b => h x a (by omega))
      have hn := h n (by omega) (by omega)
      constructor
      · rw [cz_succ, h1, bI_neg (by rw [hn]; simp), Int.add_zero]
      · have h2 : fF (fun x => nz g x && decide (pz g x = (p : Int))) n 0 = fz g p c := h2
        unfold fz at h2 ⊢
        rw [fF_snoc, h2]
        simp only [Nat.zero_add, hn, Bool.false_and]
        by_cases q : fF (fun x => nz g x && decide (pz g x = (p : Int))) c 0 = -1
        · rw [if_pos q, q]; rfl
        · rw [if_neg q]
theorem cz_fz {g : GS} {p : Nat} : ∀ {c : Nat}, cz g p c = 0 ↔ fz g p c = -1
  | 0 => ⟨fun _ => rfl, fun _ => rfl⟩
  | c + 1 => by
    have ih := cz_fz (g := g) (p := p) (c := c)
    have h0 := cz_rng g p c
    have e : fz g p (c + 1) = if fz g p c = -1 then (if (nz g c && decide (pz g c = (p : Int))) = true then (c : Int) else -1) else fz g p c := by
      unfold fz; rw [fF_snoc]; simp only [Nat.zero_add]
    rw [cz_succ, e]
    by_cases q : fz g p c = -1
    · rw [if_pos q, ih.mpr q]
      by_cases k : nz g c = true ∧ pz g c = (p : Int)
      · rw [bI_pos k, if_pos (by simp [k])]; omega
      · rw [bI_neg k, if_neg (by simpa using k)]; simp
    · rw [if_neg q]
      have := bI_01 (nz g c = true ∧ pz g c = (p : Int))
      have : cz g p c ≠ 0 := fun z => q (ih.mp z)
      constructor
      · intro; omega
      · intro z; exact absurd z q
theorem fz_succ (g : GS) (p c : Nat) : fz g p (c + 1) = if cz g p c = 0 then (if nz g c = true ∧ pz g c = (p : Int) then (c : Int) else -1) else fz g p c := by
  have e : fz g p (c + 1) = if fz g p c = -1 then (if (nz g c && decide (pz g c = (p : Int))) = true then (c : Int) else -1) else fz g p c := by
    unfold fz; rw [fF_snoc]; simp only [Nat.zero_add]
  rw [e]
  by_cases q : cz g p c = 0
  · rw [if_pos q, if_pos (cz_fz.mp q)]
    by_cases k : nz g c = true ∧ pz g c = (p : Int)
    · rw [if_pos k, if_pos (by simp [k])]
    · rw [if_neg k, if_neg (by simpa using k)]
  · rw [if_neg q, if_neg (fun z => q (cz_fz.mpr z))]
theorem nz_at {g : GS} {i k : Nat} (hk : k < 400) : nz g (400 * i + k) = (!gAl g i && (decide (k + 1 < (gR g i).length) && nt (gR g i) k)) := by
  unfold nz
  rw [show (400 * i + k) / 400 = i by omega, show (400 * i + k) % 400 = k by omega]
theorem pz_at {g : GS} {i k : Nat} (hk : k < 400) : pz g (400 * i + k) = (gR g i).getD k (-1) * 66 + (gR g i).getD (k + 1) (-1) := by
  unfold pz
  rw [show (400 * i + k) / 400 = i by omega, show (400 * i + k) % 400 = k by omega]
/-- the class's last twins ahead of a place -/
def tw (l : List Int) : Nat → Int
  | 0 => -2
  | k + 1 => if l.getD k (-1) = l.getD (k + 1) (-1) ∧ nt l k = true then (k : Int) else tw l k
theorem tw_succ (l : List Int) (k : Nat) : tw l (k + 1) = if l.getD k (-1) = l.getD (k + 1) (-1) ∧ nt l k = true then (k : Int) else tw l k := rfl
theorem nt_succ (l : List Int) (k : Nat) : nt l (k + 1) = !(decide (l.getD (k + 1) (-1) = l.getD (k + 2) (-1)) && (decide (l.getD k (-1) = l.getD (k + 1) (-1)) && nt l k)) := rfl
theorem tw_lt (l : List Int) : ∀ k : Nat, -2 ≤ tw l k ∧ tw l k < k
  | 0 => by simp [tw]
  | k + 1 => by
    have := tw_lt l k
    unfold tw
    split <;> omega
theorem tw_iff (l : List Int) (k : Nat) : (l.getD k (-1) = l.getD (k + 1) (-1) ∧ tw l k = (k : Int) - 1) ↔ nt l k = false := by
  cases k with
  | zero => simp [tw, nt]
  | succ k =>
    have h := tw_lt l k
    rw [tw_succ, nt_succ]
    by_cases q : l.getD k (-1) = l.getD (k + 1) (-1) ∧ nt l k = true
    · rw [if_pos q]
      simp [q.2]
      exact fun _ => by simpa using q.1
    · rw [if_neg q]
      constructor
      · rintro ⟨_, h2⟩; omega
      · intro h2
        simp at h2
        exact absurd ⟨h2.2.1, h2.2.2⟩ q
def TLs (I : Mem) (S : Nat → Prop) : Prop := ∃ tl : List Nat, tl.Nodup ∧ (∀ p : Nat, p ∈ tl ↔ S p) ∧ I 4 0 4 = (tl.length : Int) ∧ ∀ j : Nat, j < tl.length → I 16 3 j = ((tl.getD j 0 : Nat) : Int)
def PTa (I : Mem) (c kf pl : Nat → Int) : Prop := ∀ p : Nat, p < 4356 → I 16 0 p = c p ∧ I 16 2 p = kf p ∧ (c p ≠ 0 → I 16 1 p = pl p)
def PTs (c kf : Nat → Int) : Nat → Prop := fun p => p < 4356 ∧ (c p ≠ 0 ∨ kf p ≠ -1)
def PTp (I : Mem) (c kf pl : Nat → Int) : Prop := PTa I c kf pl ∧ TLs I (PTs c kf) ∧ ∀ p : Nat, p < 4356 → (0 ≤ c p ∧ c p ≤ 1000000) ∧ -1 ≤ kf p ∧ kf p ≤ 100
abbrev FPT : FP := fun k _ s => (k = 4 ∧ s = 4) ∨ k = 16
abbrev FPA : FP := fun k _ _ => k = 4 ∨ k = 16
theorem FPT_FPA : ∀ a b c : Nat, FPT a b c → FPA a b c := fun a b c z => z.elim (fun y => Or.inl y.1) Or.inr
theorem TLs.congr {I : Mem} {S S' : Nat → Prop} (h : TLs I S) (k : ∀ p : Nat, S p ↔ S' p) : TLs I S' := by
  obtain ⟨tl, h1, h2, h3, h4⟩ := h
  exact ⟨tl, h1, fun p => (h2 p).trans (k p), h3, h4⟩
theorem TLs.fm {F : FP} {I J : Mem} {S : Nat → Prop} (h : TLs I S) (f : Fm F I J) (h1 : ¬ F 4 0 4) (h2 : ∀ j : Nat, ¬ F 16 3 j) : TLs J S := by
  obtain ⟨tl, k1, k2, k3, k4⟩ := h
  exact ⟨tl, k1, k2, by rw [f.at (by decide) h1]; exact k3, fun j hj => by rw [f.at (by decide) (h2 j)]; exact k4 j hj⟩
section PT
variable {I : Mem} {c kf pl : Nat → Int}
theorem PTp.fm {F : FP} {J : Mem} (h : PTp I c kf pl) (f : Fm F I J) (hn : ∀ i s : Nat, ¬ F 4 i s ∧ ¬ F 16 i s) : PTp J c kf pl := by
  obtain ⟨h1, h2, h3⟩ := h
  refine ⟨fun p hp => ?_, h2.fm f (hn 0 4).1 (fun j => (hn 3 j).2), h3⟩
  rw [f.at (by decide) (hn 0 p).2, f.at (by decide) (hn 2 p).2, f.at (by decide) (hn 1 p).2]
  exact h1 p hp
abbrev FTL : FP := fun k i s => (k = 16 ∧ i = 3) ∨ (k = 4 ∧ i = 0 ∧ s = 4)
theorem t_touch (h : PTp I c kf pl) {p : Nat} (hp : p < 4356) : Tr (f_PT_touch (p : Int) I) (fun _ J => TLs J (fun q => PTs c kf q ∨ q = p) ∧ Fm FTL I J) := by
  obtain ⟨ha, ht, hr⟩ := h
  obtain ⟨a1, a2, -⟩ := ha p hp
  obtain ⟨r1, r2⟩ := hr p hp
  have same : (c p ≠ 0 ∨ kf p ≠ -1) → TLs I (fun q => PTs c kf q ∨ q = p) := fun z => ht.congr (fun q => ⟨Or.inl, fun y => by
    rcases y with y | y
    · exact y
    · subst y; exact ⟨hp, z⟩⟩)
  unfold f_PT_touch
  rw [w32_of (x := (p : Int)) (by omega) (by omega), if_pos (by omega), Int.toNat_natCast, a1, a2, w32_of (x := c p) (by omega) (by omega), w32_of (x := kf p) (by omega) (by omega)]
  by_cases q0 : c p = 0
  · rw [if_pos q0]
    by_cases q1 : kf p = -1
    · obtain ⟨tl, k1, k2, k3, k4⟩ := ht
      have hnot : p ∉ tl := fun z => by
        rcases ((k2 p).mp z).2 with y | y
        · exact y q0
        · exact y q1
      have hlen := nodup_len 4356 (p :: tl) (List.nodup_cons.mpr ⟨hnot, k1⟩) (fun x hx => by
        rcases List.mem_cons.mp hx with z | z
        · omega
        · exact ((k2 x).mp z).1)
      rw [List.length_cons] at hlen
      rw [if_pos q1, k3, w32_of (x := (tl.length : Int)) (by omega) (by omega), if_pos (by omega), if_pos (by omega), Int.toNat_natCast]
      refine tr_ret ⟨⟨tl ++ [p], ?_, fun q => ?_, ?_, fun j hj => ?_⟩, (Fm.sI (by decide) (by omega) (by omega) (Or.inl ⟨rfl, rfl⟩)).trans (Fm.sI (by decide) (by omega) (by omega) (Or.inr ⟨rfl, rfl, rfl⟩))⟩
      · rw [List.nodup_append]
        exact ⟨k1, by simp, fun a ha b hb e => by
          rw [List.mem_singleton] at hb
          subst hb
          exact hnot (by rw [← e]; exact ha)⟩
      · rw [List.mem_append, List.mem_singleton, k2]
      · rw [sI_self, sI_ne (by omega), k3, List.length_append]; rfl
      · rw [sI_ne (by omega)]
        rw [List.length_append, List.length_singleton] at hj
        by_cases e : j = tl.length
        · subst e; rw [sI_self]; simp [List.getD_eq_getElem?_getD]
        · rw [sI_ne (by omega), k4 j (by omega)]
          simp [List.getD_eq_getElem?_getD, List.getElem?_append, show j < tl.length by omega]
    · rw [if_neg q1]; exact tr_ret ⟨same (Or.inr q1), Fm.refl _ _⟩
  · rw [if_neg q0]; exact tr_ret ⟨same (Or.inl q0), Fm.refl _ _⟩
theorem t_notePair (h : PTp I c kf pl) {p : Nat} (hp : p < 4356) (hc : c p < 1000000) (place : Int) : Tr (f_PT_notePair (p : Int) place I) (fun _ J => PTp J (up c p (c p + 1)) kf (if c p = 0 then up pl p place else pl) ∧ Fm FPT I J) := by
  have h' := h
  obtain ⟨ha, ht, hr⟩ := h
  have hrp := hr p hp
  unfold f_PT_notePair
  rw [w32_of (x := (p : Int)) (by omega) (by omega), if_neg (by omega)]
  refine tr_call (t_touch h' hp) ?_
  rintro _ J ⟨t1, f1⟩
  have a0 : ∀ q : Nat, J 16 0 q = I 16 0 q := fun q => f1.at (by decide) (by unfold FTL; omega)
  have a1 : ∀ q : Nat, J 16 1 q = I 16 1 q := fun q => f1.at (by decide) (by unfold FTL; omega)
  have a2 : ∀ q : Nat, J 16 2 q = I 16 2 q := fun q => f1.at (by decide) (by unfold FTL; omega)
  have F1 : Fm FPT I J := f1.mono (fun a b c z => by unfold FPT FTL at *; omega)
  rw [if_pos (by omega), Int.toNat_natCast, a0, (ha p hp).1, w32_of (x := c p) (by omega) (by omega)]
  have fin : ∀ K : Mem, (∀ q : Nat, K 16 0 q = I 16 0 q) → (∀ q : Nat, K 16 2 q = I 16 2 q) → (∀ q : Nat, q < 4356 → up c p (c p + 1) q ≠ 0 → K 16 1 q = (if c p = 0 then up pl p place else pl) q) → TLs K (fun q => PTs c kf q ∨ q = p) → Fm FPT I K → Tr (f_PT_notePair_j27 (p : Int) K) (fun _ J => PTp J (up c p (c p + 1)) kf (if c p = 0 then up pl p place else pl) ∧ Fm FPT I J) := by
    intro K k0 k2 k1 kt kF
    unfold f_PT_notePair_j27
    rw [w32_of (x := (p : Int)) (by omega) (by omega), if_pos (by omega), Int.toNat_natCast, k0, (ha p hp).1]
    have f2 : Fm (fun a b d => a = 16 ∧ b = 0) K (sI K 16 0 p (c p + 1)) := Fm.sI (by decide) (by omega) (by omega) ⟨rfl, rfl⟩
    refine tr_ret ⟨⟨fun q hq => ⟨?_, ?_, fun z => ?_⟩, (kt.fm f2 (by omega) (fun j => by omega)).congr (fun q => ?_), fun q hq => ?_⟩, kF.trans (f2.mono (fun a b c z => Or.inr z.1))⟩
    · by_cases e : q = p
      · subst e; rw [sI_self, up_self]
      · rw [sI_ne (by omega), up_ne e, k0]; exact (ha q hq).1
    · rw [sI_ne (by omega), k2]; exact (ha q hq).2.1
    · rw [sI_ne (by omega)]; exact k1 q hq z
    · show (q < 4356 ∧ (c q ≠ 0 ∨ kf q ≠ -1)) ∨ q = p ↔ q < 4356 ∧ (up c p (c p + 1) q ≠ 0 ∨ kf q ≠ -1)
      by_cases e : q = p
      · subst e; rw [up_self]; omega
      · rw [up_ne e]; omega
    · by_cases e : q = p
      · subst e; rw [up_self]; omega
      · rw [up_ne e]; exact hr q hq
  by_cases q0 : c p = 0
  · rw [if_pos q0]
    have f2 : Fm (fun a b d => a = 16 ∧ b = 1) J (sI J 16 1 p place) := Fm.sI (by decide) (by omega) (by omega) ⟨rfl, rfl⟩
    refine fin _ (fun q => by rw [sI_ne (by omega), a0]) (fun q => by rw [sI_ne (by omega), a2]) (fun q hq z => ?_) (t1.fm f2 (by omega) (fun j => by omega)) (F1.trans (f2.mono (fun a b c z => Or.inr z.1)))
    rw [if_pos q0]
    by_cases e : q = p
    · subst e; rw [sI_self, up_self]
    · rw [up_ne e] at z
      rw [sI_ne (by omega), up_ne e, a1]; exact (ha q hq).2.2 z
  · rw [if_neg q0]
    refine fin _ a0 a2 (fun q hq z => ?_) t1 F1
    rw [if_neg q0, a1]
    by_cases e : q = p
    · subst e; exact (ha q hq).2.2 q0
    · rw [up_ne e] at z; exact (ha q hq).2.2 z
theorem p_pairOf {a b : Int} (ha : 0 ≤ a ∧ a < 66) (hb : 0 ≤ b ∧ b < 66) : f_PT_pairOf a b I = some (a * 66 + b, I) := by
  unfold f_PT_pairOf
  rw [p_isSymbol (by omega) (by omega), bnd_some, if_neg (wb_pos ha), p_isSymbol (by omega) (by omega), bnd_some, if_neg (wb_pos hb)]
theorem t_noteKept {r : Nat} {l : List Int} (h : PTp I c kf pl) (hl : RW I r l) (hs : SY l) (h2 : l.length = 2) {i : Nat} (hi : i < 40) {p : Nat} (hp : (p : Int) = l.getD 0 (-1) * 66 + l.getD 1 (-1)) : Tr (f_PT_noteKept (i : Int) r I) (fun _ J => PTp J c (if kf p = -1 then up kf p (i : Int) else kf) pl ∧ Fm FPT I J) := by
  have h' := h
  obtain ⟨ha, ht, hr⟩ := h
  have s0 := hs.at (j := 0) (by omega)
  have s1 := hs.at (j := 1) (by omega)
  have hp4 : p < 4356 := by omega
  have hrp := hr p hp4
  unfold f_PT_noteKept
  have e0 : f_Row_at r 0 I = some (l.getD 0 (-1), I) := row_at hl (j := 0) (by omega)
  have e1 : f_Row_at r 1 I = some (l.getD 1 (-1), I) := row_at hl (j := 1) (by omega)
  rw [if_pos hl.1, e0, bnd_some, e1, bnd_some, p_pairOf s0 s1, bnd_some, ← hp, w32_of (x := (p : Int)) (by omega) (by omega), if_neg (by omega), if_pos (by omega), Int.toNat_natCast, (ha p hp4).2.1, w32_of (x := kf p) (by omega) (by omega)]
  by_cases q : kf p = -1
  · rw [if_pos (by simpa using q), if_pos q]
    refine tr_call (t_touch h' hp4) ?_
    rintro _ J ⟨t1, f1⟩
    have f2 : Fm (fun a b d => a = 16 ∧ b = 2) J (sI J 16 2 p (i : Int)) := Fm.sI (by decide) (by omega) (by omega) ⟨rfl, rfl⟩
    refine tr_ret ⟨⟨fun q hq => ⟨?_, ?_, fun z => ?_⟩, (t1.fm f2 (by omega) (fun j => by omega)).congr (fun q => ?_), fun q hq => ?_⟩, (f1.mono (fun a b c z => by unfold FPT FTL at *; omega)).trans (f2.mono (fun a b c z => Or.inr z.1))⟩
    · rw [sI_ne (by omega), f1.at (by decide) (by unfold FTL; omega)]; exact (ha q hq).1
    · by_cases e : q = p
      · subst e; rw [sI_self, up_self]
      · rw [sI_ne (by omega), up_ne e, f1.at (by decide) (by unfold FTL; omega)]; exact (ha q hq).2.1
    · rw [sI_ne (by omega), f1.at (by decide) (by unfold FTL; omega)]; exact (ha q hq).2.2 z
    · show (q < 4356 ∧ (c q ≠ 0 ∨ kf q ≠ -1)) ∨ q = p ↔ q < 4356 ∧ (c q ≠ 0 ∨ up kf p (i : Int) q ≠ -1)
      by_cases e : q = p
      · subst e; rw [up_self]; omega
      · rw [up_ne e]; omega
    · by_cases e : q = p
      · subst e; rw [up_self]; omega
      · rw [up_ne e]; exact hr q hq
  · rw [if_neg (by simpa using q), if_neg q]
    exact tr_ret ⟨h', Fm.refl _ _⟩
theorem t_pclear (h : PTp I c kf pl) : Tr (f_PT_clear I) (fun _ J => PTp J (fun _ => 0) (fun _ => -1) (fun _ => 0) ∧ Fm FPT I J) := by
  obtain ⟨ha, ⟨tl, k1, k2, k3, k4⟩, hr⟩ := h
  have hlen := nodup_len 4356 tl k1 (fun x hx => ((k2 x).mp hx).1)
  unfold f_PT_clear
  refine tr_call (P := fun _ J => (∀ p : Nat, p < 4356 → J 16 0 p = 0 ∧ J 16 2 p = -1) ∧ Fm FPT I J) (tr_cnt (fun k => (k : Int)) (fun k J => (∀ p : Nat, p < 4356 → (p ∈ tl.take k ∨ p ∉ tl) → J 16 0 p = 0 ∧ J 16 2 p = -1) ∧ Fm (fun a b _ => a = 16 ∧ (b = 0 ∨ b = 2)) I J) tl.length rfl ⟨fun p hp z => ?_, Fm.refl _ _⟩ ?_ ?_) ?_
  · rcases z with z | z
    · simp at z
    · have : ¬ PTs c kf p := fun y => z ((k2 p).mpr y)
      obtain ⟨b1, b2, -⟩ := ha p hp
      rw [b1, b2]
      unfold PTs at this
      omega
  · rintro k J hk ⟨h1, h2⟩
    have hmem : tl.getD k 0 ∈ tl := by simp [List.getD_eq_getElem?_getD, hk]
    have hlt := ((k2 _).mp hmem).1
    have e3 : J 16 3 k = ((tl.getD k 0 : Nat) : Int) := by rw [h2.at (by decide) (by omega)]; exact k4 k hk
    have e4 : J 4 0 4 = (tl.length : Int) := by rw [h2.at (by decide) (by omega)]; exact k3
    unfold f_PT_clear_w2
    rw [w32_of (x := (k : Int)) (by omega) (by omega), e4, w32_of (x := (tl.length : Int)) (by omega) (by omega), if_pos (by omega), if_pos (by omega), Int.toNat_natCast, e3, w32_of (x := ((tl.getD k 0 : Nat) : Int)) (by omega) (by omega), if_pos (by omega), Int.toNat_natCast]
    show Tr (if 0 ≤ w32 (sI J 16 0 (tl.getD k 0) 0 16 3 k) ∧ w32 (sI J 16 0 (tl.getD k 0) 0 16 3 k) < 4356 then ltI (sI (sI J 16 0 (tl.getD k 0) 0) 16 2 (w32 (sI J 16 0 (tl.getD k 0) 0 16 3 k)).toNat (-1)) fun J5 => some (Sum.inl ((k : Int) + 1), J5) else none) _
    rw [sI_ne (by omega), e3, w32_of (x := ((tl.getD k 0 : Nat) : Int)) (by omega) (by omega), if_pos (by omega), Int.toNat_natCast]
    refine tr_ret ⟨rfl, fun p hp z => ?_, h2.trans ((Fm.sI (by decide) (by omega) (by omega) ⟨rfl, Or.inl rfl⟩).trans (Fm.sI (by decide) (by omega) (by omega) ⟨rfl, Or.inr rfl⟩))⟩
    by_cases e : p = tl.getD k 0
    · subst e; exact ⟨by rw [sI_ne (by omega), sI_self], by rw [sI_self]⟩
    · rw [sI_ne (by omega), sI_ne (by omega), sI_ne (by omega), sI_ne (by omega)]
      refine h1 p hp ?_
      rcases z with z | z
      · left
        rw [List.take_add_one, List.mem_append] at z
        rcases z with z | z
        · exact z
        · exfalso
          simp [hk] at z
          exact e (by simp [List.getD_eq_getElem?_getD, hk, z])
      · exact Or.inr z
  · rintro J ⟨h1, h2⟩
    have e4 : J 4 0 4 = (tl.length : Int) := by rw [h2.at (by decide) (by omega)]; exact k3
    unfold f_PT_clear_w2
    rw [w32_of (x := (tl.length : Int)) (by omega) (by omega), e4, w32_of (x := (tl.length : Int)) (by omega) (by omega), if_neg (by omega)]
    rw [List.take_length] at h1
    exact tr_ret ⟨fun p hp => h1 p hp (Classical.em _), h2.mono (fun a b c z => Or.inr z.1)⟩
  rintro _ J ⟨h1, h2⟩
  refine tr_ret ⟨⟨fun p hp => ?_, ⟨[], List.nodup_nil, fun p => ?_, ?_, fun j hj => absurd hj (Nat.not_lt_zero j)⟩, fun p _ => (by show ((0 : Int) ≤ 0 ∧ (0 : Int) ≤ 1000000) ∧ (-1 : Int) ≤ -1 ∧ (-1 : Int) ≤ 100; omega)⟩, h2.trans (Fm.sI (by decide) (by omega) (by omega) (Or.inl ⟨rfl, rfl⟩))⟩
  · rw [sI_ne (by omega), sI_ne (by omega), sI_ne (by omega)]
    exact ⟨(h1 p hp).1, (h1 p hp).2, fun z => absurd rfl z⟩
  · unfold PTs; simp
  · rw [sI_self]; rfl
end PT
