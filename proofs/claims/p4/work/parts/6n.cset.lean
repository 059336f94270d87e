/-! ===== setups, second part: rules, start, statements; the class's reading ===== -/
def NR (g : GS) : Prop := (2 ≤ gN g 0 ∧ gN g 0 ≤ 9) ∧ (0 ≤ gN g 1 ∧ gN g 1 ≤ 2) ∧ (0 ≤ gN g 2 ∧ gN g 2 ≤ 1)
def PG (g : GS) (k : Nat) : Prop := k ≤ 40 ∧ (∀ r : Nat, r < k → 2 ≤ (gR g (r + 1)).length ∧ gL g r = ll (gL g) (gR g (r + 1)) ∧ gL g r ≤ 400 ∧ 1 ≤ gL g r ∧ ∀ x ∈ gR g (r + 1), 0 ≤ x ∧ x < 26 + (r : Int)) ∧ (∀ r : Nat, k ≤ r → r < 40 → gR g (r + 1) = []) ∧ gR g 0 = [] ∧ NR g
theorem PG.lr {g : GS} {k : Nat} (h : PG g k) : LR (gL g) k := ⟨h.1, fun r hr => ⟨(h.2.1 r hr).2.2.2.1, (h.2.1 r hr).2.2.1⟩⟩
theorem PG.ne {g : GS} {k : Nat} (h : PG g k) : ∀ r : Nat, r < k → gR g (r + 1) ≠ [] := fun r hr e => by
  have := (h.2.1 r hr).1
  rw [e] at this
  exact absurd this (by decide)
/-- a grammar whose rules are told, with a row at its start -/
theorem PG.wpS {g : GS} {k : Nat} (h : PG g k) {l : List Int} (hI : LI (gL g) k l) : PWF (gsR g 0 l) := by
  have sym : ∀ (n : Nat) (x : Int), n ≤ k → 0 ≤ x → x < 26 + (n : Int) → SYr (gR (gsR g 0 l)) x := fun n x hn h0 h1 => by
    have hk := h.1
    refine ⟨h0, by omega, fun h26 => ?_⟩
    show up (gR g) 0 l ((x - 26).toNat + 1) ≠ []
    rw [up_ne (by omega)]
    exact h.ne _ (by omega)
  refine ⟨fun i hi x hx => ?_, fun r hr hn => ?_, ?_⟩
  · have hx : x ∈ up (gR g) 0 l i := hx
    by_cases q : i = 0
    · subst q
      rw [up_self] at hx
      have := hI.1 x hx
      exact sym k x (Nat.le_refl _) this.1 this.2
    · rw [up_ne q] at hx
      obtain ⟨r, rfl⟩ : ∃ r : Nat, i = r + 1 := ⟨i - 1, by omega⟩
      by_cases hrk : r < k
      · have := (h.2.1 r hrk).2.2.2.2 x hx
        exact sym r x (by omega) this.1 this.2
      · rw [h.2.2.1 r (by omega) (by omega)] at hx
        exact absurd hx List.not_mem_nil
  · have e : gR (gsR g 0 l) (r + 1) = gR g (r + 1) := up_ne (f := gR g) (k := 0) (v := l) (j := r + 1) (by omega)
    rw [e] at hn ⊢
    have hrk : r < k := by
      refine Classical.byContradiction fun q => hn (h.2.2.1 r (by omega) hr)
    obtain ⟨a, b, c, d, -⟩ := h.2.1 r hrk
    exact ⟨a, b, c, d⟩
  · show ll (gL g) (up (gR g) 0 l 0) ≤ 400
    rw [up_self]
    exact hI.2
theorem PG.wp {g : GS} {k : Nat} (h : PG g k) : PWF g := by
  have hw := h.wpS (l := []) ⟨fun x hx => absurd hx List.not_mem_nil, by rw [ll_nil]; decide⟩
  have e : gsR g 0 [] = g := by
    unfold gsR
    have : up (gR g) 0 [] = gR g := funext (fun j => by
      by_cases q : j = 0
      · subst q; rw [up_self, h.2.2.2.1]
      · rw [up_ne q])
    rw [this]
  rw [e] at hw
  exact hw
theorem itm_grow {bs : List Int} {L : Nat → Int} {k : Nat} {l : List Int} {p : Nat} {s : List Int × Nat} (hp : p ≤ bs.length) (ht : tK bs p = 1 ∨ tK bs p = 4) (e : itm bs L k l p = some s) : l.length < s.1.length := by
  have hG := tE_gt (bs := bs) (p := p) (by omega) hp
  unfold itm at e
  by_cases q : tK bs p = 1
  · rw [if_pos q] at e
    by_cases c : 400 < ll L l + ((tE bs p - tF bs p : Nat) : Int)
    · rw [if_pos c] at e; cases e
    · rw [if_neg c] at e
      cases e
      show l.length < (l ++ letL (tkL bs p)).length
      rw [List.length_append, letL_len, tkL_len hp]
      omega
  · rw [if_neg q] at e
    by_cases c : nbE bs (tE bs p) 0 39 = 0 ∧ l.length < 400 ∧ nV bs (tE bs p) < (k : Int) ∧ ll L l + L (nV bs (tE bs p)).toNat ≤ 400 ∧ tK bs (tE bs (tE bs p)) = 5
    · rw [if_pos c] at e
      cases e
      show l.length < (l ++ [26 + nV bs (tE bs p)]).length
      rw [List.length_append]
      show l.length < l.length + 1
      omega
    · rw [if_neg c] at e; cases e
theorem itL_inv {bs : List Int} {L : Nat → Int} {k : Nat} (hL : LR L k) : ∀ (n : Nat) (l : List Int) (p : Nat) (s : List Int × Nat), p ≤ bs.length → LI L k l → itL bs L k n l p = some s → LI L k s.1 ∧ p ≤ s.2 ∧ s.2 ≤ bs.length ∧ l.length ≤ s.1.length
  | 0, l, p, s, hp, hI, e => by cases e; exact ⟨hI, Nat.le_refl _, hp, Nat.le_refl _⟩
  | n + 1, l, p, s, hp, hI, e => by
    have e : (if tK bs p = 1 ∨ tK bs p = 4 then (match itm bs L k l p with
      | none => none
      | some s => itL bs L k n s.1 s.2) else some (l, p)) = some s := e
    by_cases q : tK bs p = 1 ∨ tK bs p = 4
    · rw [if_pos q] at e
      cases hc : itm bs L k l p with
      | none => rw [hc] at e; cases e
      | some s' =>
        rw [hc] at e
        obtain ⟨i1, i2, i3⟩ := itm_inv hL hp hI q hc
        have i4 := itm_grow hp q hc
        obtain ⟨j1, j2, j3, j4⟩ := itL_inv hL n s'.1 s'.2 s i3 i1 e
        exact ⟨j1, by omega, j3, by omega⟩
    · rw [if_neg q] at e
      cases e
      exact ⟨hI, Nat.le_refl _, hp, Nat.le_refl _⟩
theorem items_inv {bs : List Int} {L : Nat → Int} {k p : Nat} {s : List Int × Nat} (hL : LR L k) (hp : p ≤ bs.length) (e : items bs L k p = some s) : LI L k s.1 ∧ p < s.2 ∧ s.2 ≤ bs.length ∧ 1 ≤ s.1.length := by
  have hI : LI L k [] := ⟨fun x hx => absurd hx List.not_mem_nil, by rw [ll_nil]; decide⟩
  unfold items at e
  by_cases q : tK bs p = 1 ∨ tK bs p = 4
  · rw [if_pos q] at e
    have e : (if tK bs p = 1 ∨ tK bs p = 4 then (match itm bs L k [] p with
      | none => none
      | some s => itL bs L k 600 s.1 s.2) else some ([], p)) = some s := e
    rw [if_pos q] at e
    cases hc : itm bs L k [] p with
    | none => rw [hc] at e; cases e
    | some s' =>
      rw [hc] at e
      obtain ⟨i1, i2, i3⟩ := itm_inv hL hp hI q hc
      have i4 := itm_grow hp q hc
      obtain ⟨j1, j2, j3, j4⟩ := itL_inv hL 600 s'.1 s'.2 s i3 i1 e
      exact ⟨j1, by omega, j3, by omega⟩
  · rw [if_neg q] at e; cases e
/-- a rule's line -/
def rlN (bs : List Int) (g : GS) (k p : Nat) : Option (GS × Nat) := match items bs (gL g) k (tE bs p) with
  | none => none
  | some s => if tK bs s.2 = 3 ∧ 2 ≤ s.1.length then some (gsL (gsR g (k + 1) s.1) k (ll (gL g) s.1), tE bs s.2) else none
def rls (bs : List Int) : Nat → GS → Nat → Nat → Option (GS × Nat × Nat)
  | 0, _, _, _ => none
  | n + 1, g, k, p => if wd bs p = 0 then (if k = 40 then none else (match rlN bs g k p with
      | none => none
      | some s => rls bs n s.1 (k + 1) s.2)) else some (g, k, p)
theorem PG.rl {bs : List Int} {g : GS} {k p : Nat} {l : List Int} (h : PG g k) (hk : k < 40) (hI : LI (gL g) k l) (h2 : 2 ≤ l.length) : PG (gsL (gsR g (k + 1) l) k (ll (gL g) l)) (k + 1) := by
  have hlen := hI.len h.lr
  have hl4 := hI.2
  have slc : ∀ x : Int, 0 ≤ x → x < 26 + (k : Int) → sl (up (gL g) k (ll (gL g) l)) x = sl (gL g) x := fun x h0 h1 => sl_up (by omega) h0
  refine ⟨by omega, fun r hr => ?_, fun r h1 h3 => ?_, ?_, h.2.2.2.2⟩
  · show 2 ≤ (up (gR g) (k + 1) l (r + 1)).length ∧ up (gL g) k (ll (gL g) l) r = ll (up (gL g) k (ll (gL g) l)) (up (gR g) (k + 1) l (r + 1)) ∧ up (gL g) k (ll (gL g) l) r ≤ 400 ∧ 1 ≤ up (gL g) k (ll (gL g) l) r ∧ ∀ x ∈ up (gR g) (k + 1) l (r + 1), 0 ≤ x ∧ x < 26 + (r : Int)
    by_cases q : r = k
    · subst q
      rw [up_self, up_self]
      exact ⟨h2, (ll_congr (fun x hx => slc x (hI.1 x hx).1 (hI.1 x hx).2)).symm, hl4, by omega, fun x hx => hI.1 x hx⟩
    · rw [up_ne (by omega), up_ne q]
      obtain ⟨a, b, c, d, e⟩ := h.2.1 r (by omega)
      refine ⟨a, ?_, c, d, e⟩
      rw [ll_congr (fun x hx => slc x (e x hx).1 (by have := (e x hx).2; omega))]
      exact b
  · show up (gR g) (k + 1) l (r + 1) = []
    rw [up_ne (by omega)]
    exact h.2.2.1 r (by omega) h3
  · show up (gR g) (k + 1) l 0 = []
    rw [up_ne (by omega)]
    exact h.2.2.2.1
def stP (bs : List Int) (g : GS) (k p : Nat) : Option (GS × Nat) := if wd bs p = 1 then (match items bs (gL g) k (tE bs p) with
  | none => none
  | some s => some (gsR g 0 s.1, s.2)) else none
def wj (w : Nat) : Nat := if w = 3 then 0 else if w = 4 then 1 else 2
def stm (bs : List Int) (g : GS) (f : Nat → Bool) (q : Nat) : Option (GS × (Nat → Bool) × Nat) :=
  if (wd bs q = 3 ∨ wd bs q = 4 ∨ wd bs q = 2) ∧ f (wj (wd bs q)) = false ∧ nbE bs (tE bs q) (wLow (wd bs q)) (wHig (wd bs q)) = 0 then some (gsN g (wj (wd bs q)) (nV bs (tE bs q)), (fun j => if j = wj (wd bs q) then true else f j), tE bs (tE bs q)) else none
def sts (bs : List Int) : Nat → GS → (Nat → Bool) → Nat → Option GS
  | 0, _, _, _ => none
  | n + 1, g, f, p => if tK bs p = 0 then some g else if tK bs p = 3 then (match stm bs g f (tE bs p) with
      | none => none
      | some s => sts bs n s.1 s.2.1 s.2.2) else none
def setP (bs : List Int) : Option GS := match rls bs 41 g0 0 0 with
  | none => none
  | some s => match stP bs s.1 s.2.1 s.2.2 with
    | none => none
    | some t => sts bs 601 t.1 (fun _ => false) t.2
/-- a grammar as it is told, but for its text -/
def TG (g : GS) : Prop := PWF g ∧ NR g ∧ 1 ≤ (gR g 0).length
theorem TG.stmP {bs : List Int} {g : GS} {f : Nat → Bool} {q : Nat} {s : GS × (Nat → Bool) × Nat} (h : TG g) (hq : q ≤ bs.length) (e : stm bs g f q = some s) : TG s.1 ∧ q ≤ s.2.2 ∧ s.2.2 ≤ bs.length := by
  unfold stm at e
  by_cases c : (wd bs q = 3 ∨ wd bs q = 4 ∨ wd bs q = 2) ∧ f (wj (wd bs q)) = false ∧ nbE bs (tE bs q) (wLow (wd bs q)) (wHig (wd bs q)) = 0
  · rw [if_pos c] at e
    cases e
    have hE := tE_le hq
    have hE2 := tE_le hE.2.1
    obtain ⟨c1, -, c3⟩ := c
    obtain ⟨-, v1, v2⟩ := nb_val c3
    refine ⟨⟨h.1, ?_, h.2.2⟩, by show q ≤ tE bs (tE bs q); omega, by show tE bs (tE bs q) ≤ bs.length; omega⟩
    obtain ⟨n0, n1, n2⟩ := h.2.1
    show (2 ≤ up (gN g) (wj (wd bs q)) (nV bs (tE bs q)) 0 ∧ up (gN g) (wj (wd bs q)) (nV bs (tE bs q)) 0 ≤ 9) ∧ (0 ≤ up (gN g) (wj (wd bs q)) (nV bs (tE bs q)) 1 ∧ up (gN g) (wj (wd bs q)) (nV bs (tE bs q)) 1 ≤ 2) ∧ (0 ≤ up (gN g) (wj (wd bs q)) (nV bs (tE bs q)) 2 ∧ up (gN g) (wj (wd bs q)) (nV bs (tE bs q)) 2 ≤ 1)
    rcases c1 with c1 | c1 | c1 <;> rw [c1] at v1 v2 ⊢
    · rw [show wj 3 = 0 from rfl, up_self, up_ne (by decide), up_ne (by decide)]
      exact ⟨⟨v1, v2⟩, n1, n2⟩
    · rw [show wj 4 = 1 from rfl, up_self, up_ne (by decide), up_ne (by decide)]
      exact ⟨n0, ⟨v1, v2⟩, n2⟩
    · rw [show wj 2 = 2 from rfl, up_self, up_ne (by decide), up_ne (by decide)]
      exact ⟨n0, n1, ⟨v1, v2⟩⟩
  · rw [if_neg c] at e; cases e
theorem TG.wf {g : GS} (h : TG g) : WF (gBegin g (gTx g)) := by
  obtain ⟨w, n, h1⟩ := h
  have hl := w.lle (i := 0) (by decide)
  have ht := gTx_lenP w
  refine ⟨w.1, w.2.1, ?_, ?_, ?_, n.1, n.2.1, n.2.2⟩
  · show ll (gL g) (gR g 0) = ((gTx g).length : Int)
    omega
  · show 1 ≤ (gTx g).length
    omega
  · show (gTx g).length ≤ 400
    omega
theorem tr_step {σ ρ : Type} {step : σ → Mem → Option ((σ ⊕ ρ) × Mem)} {s : σ} {I : Mem} {Q : ρ → Mem → Prop} (h : Tr (step s I) (LQ (fun s' J => Tr (whl step s' J) Q) Q)) : Tr (whl step s I) Q := by
  obtain ⟨y, K, e, hy⟩ := h
  rw [whl_eq, e]
  cases y with
  | inl s => exact hy
  | inr r => exact tr_ret (Q := Q) hy
section CSET
variable {I J : Mem} {bs : List Int} {g : GS} {i k p : Nat} {l : List Int}
abbrev FRr : FP := fun k i s => FG 1 k i s ∨ FSx k i s ∨ (k = 7 ∧ (s = 2 ∨ s = 3))
theorem frd_r : ∀ k i s : Nat, FRd k i s → FRr k i s := fun k i s z => by unfold FRd at z; unfold FRr; omega
theorem fsx_r : ∀ k i s : Nat, FSx k i s → FRr k i s := fun k i s z => Or.inr (Or.inl z)
theorem BfC.rr (h : BfC I bs) (f : Fm FRr I J) : BfC J bs := h.fm f (by unfold FRr FG FSx; omega) (fun s => by unfold FRr FG FSx; omega)
def OKR (K : Mem) (bs : List Int) (x : Int) : Option (GS × Nat × Nat) → Prop
  | some s => x = 1 ∧ BfC K bs ∧ GC K 1 s.1 ∧ TC K bs s.2.2 ∧ K 7 0 2 = (s.2.1 : Int) ∧ PG s.1 s.2.1 ∧ s.2.2 ≤ bs.length
  | none => x = 0 ∧ ∃ g' : GS, GC K 1 g'
theorem t_readRules (hl : bs.length ≤ 600) (hr : ∀ b ∈ bs, 1 ≤ b ∧ b ≤ 255) : ∀ (n k p : Nat) (g : GS) (I : Mem), k + n = 41 → p ≤ bs.length → PG g k → BfC I bs → GC I 1 g → TC I bs p → I 7 0 2 = (k : Int) → Tr (whl f_Set_readRules_w2 (k : Int) I) (fun x K => OKR K bs x (rls bs n g k p) ∧ Fm FRr I K) := by
  intro n
  induction n with
  | zero => intro k p g I h _ hP; have := hP.1; omega
  | succ n ih =>
    intro k p g I hkn hp hP hB hG hT h2
    have hE := tE_le hp
    have hk40 := hP.1
    refine tr_step ?_
    unfold f_Set_readRules_w2
    rw [w32_of (x := (k : Int)) (by omega) (by omega), if_neg (by omega), c_word hB hl hr hp hT, bnd_some, if_pos (wd_lt bs p)]
    have e0 : rls bs (n + 1) g k p = if wd bs p = 0 then (if k = 40 then none else (match rlN bs g k p with
      | none => none
      | some s => rls bs n s.1 (k + 1) s.2)) else some (g, k, p) := rfl
    rw [e0]
    by_cases q : wd bs p = 0
    · rw [if_pos q, if_pos q]
      by_cases q40 : k = 40
      · rw [if_pos (by omega), if_pos q40]
        refine tr_call (t_fail 5) ?_
        rintro x K ⟨rfl, g1, g2⟩
        rw [if_pos (Or.inl rfl)]
        exact tr_ret ⟨⟨rfl, _, hG.sx (g2.mono fec_sx)⟩, g2.mono (fun a b c z => fsx_r _ _ _ (fec_sx _ _ _ z))⟩
      · rw [if_neg (by omega), if_neg q40]
        refine tr_call (t_advS hB hl hr hp hT) ?_
        rintro _ J1 ⟨t1, f1⟩
        rw [g_body (by decide) (by omega), bnd_some, if_pos (rix_lt (by decide) (by omega))]
        refine tr_call (t_readItems hl hr hP.lr (i := k + 1) (by omega) hE.2.1 (hB.sx f1) (hG.sx f1) (hP.2.2.1 k (Nat.le_refl _) (by omega)) t1 (by rw [f1.at (by decide) (by unfold FSx; omega)]; exact h2)) ?_
        rintro x J2 ⟨ok, f2⟩
        have f12 : Fm FRr I J2 := (f1.mono fsx_r).trans (f2.mono frd_r)
        unfold rlN
        cases hc : items bs (gL g) k (tE bs p) with
        | none =>
          rw [hc] at ok
          obtain ⟨rfl, hg⟩ := ok
          rw [if_pos (by decide)]
          exact tr_ret ⟨⟨rfl, hg⟩, f12⟩
        | some s =>
          rw [hc] at ok
          obtain ⟨rfl, cB, cG, cT, c3, c2⟩ := ok
          obtain ⟨i1, i2, i3, i4⟩ := items_inv hP.lr hE.2.1 hc
          have hE2 := tE_le i3
          rw [if_neg (by decide), c_is cT (by omega), bnd_some]
          -- the end of a line
          have j95 : Tr (f_Set_readRules_j95 (k : Int) J2) (LQ (fun s' J => Tr (whl f_Set_readRules_w2 s' J) (fun x K => OKR K bs x (match (if tK bs s.2 = 3 ∧ 2 ≤ s.1.length then some (gsL (gsR g (k + 1) s.1) k (ll (gL g) s.1), tE bs s.2) else none) with
              | none => none
              | some s => rls bs n s.1 (k + 1) s.2) ∧ Fm FRr I K)) (fun x K => OKR K bs x (match (if tK bs s.2 = 3 ∧ 2 ≤ s.1.length then some (gsL (gsR g (k + 1) s.1) k (ll (gL g) s.1), tE bs s.2) else none) with
              | none => none
              | some s => rls bs n s.1 (k + 1) s.2) ∧ Fm FRr I K)) ∨ (tK bs s.2 = 3 ∧ s.1.length < 2) := by
            by_cases hbad : tK bs s.2 = 3 ∧ s.1.length < 2
            · exact Or.inr hbad
            refine Or.inl ?_
            unfold f_Set_readRules_j95
            refine tr_call (t_pass cB hl hr i3 cT (a := 3) (by omega)) ?_
            rintro x J3 ⟨rfl, y1, y2, f3⟩
            by_cases q3 : tK bs s.2 = 3
            · rw [if_neg (wb_pos q3), if_pos ⟨q3, by omega⟩]
              have hG3 := cG.sx f3
              refine tr_call (t_putLength hG3 (r := k) (by omega) (J3 7 0 3)) ?_
              rintro _ J4 ⟨hG4, f4⟩
              try dsimp only [ltI]
              have e3 : J3 7 0 3 = ll (gL g) s.1 := by rw [f3.at (by decide) (by unfold FSx; omega)]; exact c3
              rw [e3] at hG4
              have f5 : Fm (fun k _ s => k = 7 ∧ s = 2) J4 (sI J4 7 0 2 ((k : Int) + 1)) := Fm.sI (by decide) (by omega) (by omega) ⟨rfl, rfl⟩
              have a2 : (sI J4 7 0 2 ((k : Int) + 1)) 7 0 2 = ((k + 1 : Nat) : Int) := by rw [sI_self]; rfl
              generalize sI J4 7 0 2 ((k : Int) + 1) = J5 at f5 a2
              have f345 : Fm FRr J2 J5 := (f3.mono fsx_r).trans ((f4.mono (fun a b c z => Or.inl z)).trans (f5.mono (fun a b c z => Or.inr (Or.inr (by omega)))))
              have hT5 : TC J5 bs (tE bs s.2) := ((y1 q3).fm f4 (fun s _ _ => by unfold FG; omega)).fm f5 (fun s _ _ => by omega)
              refine tr_ret ?_
              show Tr (whl f_Set_readRules_w2 ((k : Int) + 1) J5) _
              refine tr_mono (ih (k + 1) (tE bs s.2) (gsL (gsR g (k + 1) s.1) k (ll (gL g) s.1)) J5 (by omega) hE2.2.1 (hP.rl (bs := bs) (p := p) (by omega) i1 (by omega)) (cB.rr f345) (hG4.fm f5 (fun k i s z q => by unfold FG at z; omega)) hT5 a2) ?_
              rintro x K ⟨a, b⟩
              exact ⟨a, f12.trans (f345.trans b)⟩
            · rw [if_pos (wb_neg q3), if_neg (fun z => q3 z.1)]
              refine tr_ret ?_
              show OKR J3 bs 0 none ∧ Fm FRr I J3
              exact ⟨⟨rfl, _, cG.sx f3⟩, f12.trans (f3.mono fsx_r)⟩
          by_cases q3 : tK bs s.2 = 3
          · rw [if_neg (wb_pos q3), g_body (by decide) (by omega), bnd_some, if_pos (rix_lt (by decide) (by omega))]
            have hrow := cG.2.1 (k + 1) (by omega)
            rw [show gR (gsR g (k + 1) s.1) (k + 1) = s.1 from up_self _ _ _] at hrow
            have h400 := hrow.len
            rw [hrow.2.1, w32_of (x := (s.1.length : Int)) (by omega) (by omega)]
            by_cases ql : s.1.length < 2
            · rw [if_pos (by omega)]
              refine tr_call (t_fail 3) ?_
              rintro x K ⟨rfl, g1, g2⟩
              rw [if_pos (Or.inl rfl)]
              refine tr_ret ?_
              show OKR K bs 0 (match (if tK bs s.2 = 3 ∧ 2 ≤ s.1.length then some (gsL (gsR g (k + 1) s.1) k (ll (gL g) s.1), tE bs s.2) else none) with
                | none => none
                | some s => rls bs n s.1 (k + 1) s.2) ∧ Fm FRr I K
              rw [if_neg (fun z => by omega)]
              exact ⟨⟨rfl, _, cG.sx (g2.mono fec_sx)⟩, f12.trans (g2.mono (fun a b c z => fsx_r _ _ _ (fec_sx _ _ _ z)))⟩
            · rw [if_neg (by omega)]
              exact j95.elim id (fun z => absurd z.2 ql)
          · rw [if_pos (wb_neg q3)]
            exact j95.elim id (fun z => absurd z.1 q3)
    · rw [if_neg q, if_neg q]
      refine tr_ret ?_
      show OKR I bs 1 (some (g, k, p)) ∧ Fm FRr I I
      exact ⟨⟨rfl, hB, hG, hT, h2, hP, hp⟩, Fm.refl _ _⟩
def OKT (K : Mem) (bs : List Int) (x : Int) : Option (GS × Nat) → Prop
  | some s => x = 1 ∧ BfC K bs ∧ GC K 1 s.1 ∧ TC K bs s.2 ∧ TG s.1 ∧ s.2 ≤ bs.length
  | none => x = 0 ∧ ∃ g' : GS, GC K 1 g'
theorem PG.tg {g : GS} {k : Nat} {s : List Int × Nat} {p : Nat} (h : PG g k) (hp : p ≤ bs.length) (e : items bs (gL g) k p = some s) : TG (gsR g 0 s.1) := by
  obtain ⟨i1, i2, i3, i4⟩ := items_inv h.lr hp e
  refine ⟨h.wpS i1, h.2.2.2.2, ?_⟩
  show 1 ≤ (up (gR g) 0 s.1 0).length
  rw [up_self]
  exact i4
theorem t_readStart (hl : bs.length ≤ 600) (hr : ∀ b ∈ bs, 1 ≤ b ∧ b ≤ 255) (hp : p ≤ bs.length) (hP : PG g k) (hB : BfC I bs) (hG : GC I 1 g) (hT : TC I bs p) (h2 : I 7 0 2 = (k : Int)) : Tr (f_Set_readStart I) (fun x K => OKT K bs x (stP bs g k p) ∧ Fm FRr I K) := by
  have hE := tE_le hp
  unfold f_Set_readStart stP
  rw [c_word hB hl hr hp hT, bnd_some, if_pos (wd_lt bs p)]
  by_cases q : wd bs p = 1
  · rw [if_pos q, if_pos q]
    refine tr_call (t_advS hB hl hr hp hT) ?_
    rintro _ J1 ⟨t1, f1⟩
    refine tr_call (t_readItems hl hr hP.lr (i := 0) (by omega) hE.2.1 (hB.sx f1) (hG.sx f1) hP.2.2.2.1 t1 (by rw [f1.at (by decide) (by unfold FSx; omega)]; exact h2)) ?_
    rintro x J2 ⟨ok, f2⟩
    have f12 : Fm FRr I J2 := (f1.mono fsx_r).trans (f2.mono frd_r)
    cases hc : items bs (gL g) k (tE bs p) with
    | none =>
      rw [hc] at ok
      obtain ⟨rfl, hg⟩ := ok
      rw [if_pos (Or.inl rfl)]
      exact tr_ret ⟨⟨rfl, hg⟩, f12⟩
    | some s =>
      rw [hc] at ok
      obtain ⟨rfl, cB, cG, cT, c3, c2⟩ := ok
      obtain ⟨i1, i2, i3, i4⟩ := items_inv hP.lr hE.2.1 hc
      rw [if_pos (Or.inr rfl)]
      exact tr_ret ⟨⟨rfl, cB, cG, cT, hP.tg hE.2.1 hc, i3⟩, f12⟩
  · rw [if_neg q, if_neg q]
    refine tr_call (t_fail 1) ?_
    rintro x K ⟨rfl, g1, g2⟩
    rw [if_pos (Or.inl rfl)]
    exact tr_ret ⟨⟨rfl, _, hG.sx (g2.mono fec_sx)⟩, g2.mono (fun a b c z => fsx_r _ _ _ (fec_sx _ _ _ z))⟩
/-- what was told already -/
def FLG (I : Mem) (f : Nat → Bool) : Prop := ∀ j : Nat, j < 3 → I 7 0 (4 + j) = if f j = true then 1 else 0
theorem FLG.fm {F : FP} {f : Nat → Bool} (h : FLG I f) (q : Fm F I J) (hn : ∀ s : Nat, 4 ≤ s → s ≤ 6 → ¬ F 7 0 s) : FLG J f := fun j hj => by rw [q.at (by decide) (hn _ (by omega) (by omega))]; exact h j hj
theorem c_isTold {f : Nat → Bool} (h : FLG I f) {w : Nat} (hw : w = 3 ∨ w = 4 ∨ w = 2) : f_Set_isTold w I = some (bI (f (wj w) = true), I) := by
  have h0 : I 7 0 4 = if f 0 = true then 1 else 0 := h 0 (by decide)
  have h1 : I 7 0 5 = if f 1 = true then 1 else 0 := h 1 (by decide)
  have h2 : I 7 0 6 = if f 2 = true then 1 else 0 := h 2 (by decide)
  have b : ∀ c : Prop, [Decidable c] → ((if c then (1 : Int) else 0) = 0 ∨ (if c then (1 : Int) else 0) = 1) := fun c _ => by by_cases q : c <;> simp [q]
  unfold f_Set_isTold
  rcases hw with rfl | rfl | rfl
  · rw [if_pos (by decide), if_pos (by decide), if_pos (by decide), h0, if_pos (b _)]; rfl
  · rw [if_pos (by decide), if_pos (by decide), if_neg (by decide), if_pos (by decide), h1, if_pos (b _)]; rfl
  · rw [if_pos (by decide), if_pos (by decide), if_neg (by decide), if_neg (by decide), h2, if_pos (b _)]; rfl
abbrev FNt : FP := fun k i s => FG 1 k i s ∨ (k = 7 ∧ 4 ≤ s)
theorem t_note1 {f : Nat → Bool} (hG : GC I 1 g) (h : FLG I f) {j : Nat} (hj : j < 3) (v : Int) : Tr (bnd (f_G_putNumber 1 (4 + (j : Int)) v (sI I 7 0 (4 + j) 1)) fun _ K => some ((), K)) (fun _ K => GC K 1 (gsN g j v) ∧ FLG K (fun m => if m = j then true else f m) ∧ Fm FNt I K) := by
  have f1 : Fm (fun k _ s => k = 7 ∧ 4 ≤ s) I (sI I 7 0 (4 + j) 1) := Fm.sI (by decide) (by omega) (by omega) ⟨rfl, by omega⟩
  refine tr_call (t_putNumber (hG.fm f1 (fun k i s z q => by unfold FG at z; omega)) hj v) ?_
  rintro _ K ⟨a, f2⟩
  refine tr_ret ⟨a, fun m hm => ?_, (f1.mono (fun a b c z => Or.inr z)).trans (f2.mono (fun a b c z => Or.inl z))⟩
  rw [f2.at (by decide) (by unfold FG; omega)]
  show (sI I 7 0 (4 + j) 1) 7 0 (4 + m) = if (if m = j then true else f m) = true then 1 else 0
  by_cases q : m = j
  · rw [q, sI_self, if_pos rfl, if_pos rfl]
  · rw [sI_ne (by omega), if_neg q]
    exact h m hm
theorem t_noteTold {f : Nat → Bool} (hG : GC I 1 g) (h : FLG I f) {w : Nat} (hw : w = 3 ∨ w = 4 ∨ w = 2) (v : Int) : Tr (f_Set_noteTold w v I) (fun _ K => GC K 1 (gsN g (wj w) v) ∧ FLG K (fun m => if m = wj w then true else f m) ∧ Fm FNt I K) := by
  unfold f_Set_noteTold
  rcases hw with rfl | rfl | rfl
  · rw [if_pos (by decide), if_pos (by decide), if_pos (by decide)]
    exact t_note1 hG h (j := 0) (by decide) v
  · rw [if_pos (by decide), if_pos (by decide), if_neg (by decide), if_pos (by decide)]
    exact t_note1 hG h (j := 1) (by decide) v
  · rw [if_pos (by decide), if_pos (by decide), if_neg (by decide), if_neg (by decide)]
    exact t_note1 hG h (j := 2) (by decide) v
abbrev FLd : FP := fun k i s => FG 1 k i s ∨ FSx k i s ∨ k = 7
theorem fsx_l : ∀ k i s : Nat, FSx k i s → FLd k i s := fun k i s z => Or.inr (Or.inl z)
theorem BfC.ld (h : BfC I bs) (f : Fm FLd I J) : BfC J bs := h.fm f (by unfold FLd FG FSx; omega) (fun s => by unfold FLd FG FSx; omega)
def OKS (K : Mem) (bs : List Int) (x : Int) : Option (GS × (Nat → Bool) × Nat) → Prop
  | some s => x = 1 ∧ BfC K bs ∧ GC K 1 s.1 ∧ FLG K s.2.1 ∧ TC K bs s.2.2
  | none => x = 0 ∧ ∃ g' : GS, GC K 1 g'
theorem t_readStm (hl : bs.length ≤ 600) (hr : ∀ b ∈ bs, 1 ≤ b ∧ b ≤ 255) {f : Nat → Bool} (hp : p ≤ bs.length) (hB : BfC I bs) (hG : GC I 1 g) (hF : FLG I f) (hT : TC I bs p) : Tr (f_Set_readStatement I) (fun x K => OKS K bs x (stm bs g f p) ∧ Fm FLd I K) := by
  have hE := tE_le hp
  have hE2 := tE_le hE.2.1
  unfold f_Set_readStatement
  rw [c_word hB hl hr hp hT, bnd_some, if_pos (wd_lt bs p)]
  have fl : ∀ {x K} (c : Int), x = 0 ∧ K 6 0 6 = c ∧ Fm FEc I K → ¬ ((wd bs p = 3 ∨ wd bs p = 4 ∨ wd bs p = 2) ∧ f (wj (wd bs p)) = false ∧ nbE bs (tE bs p) (wLow (wd bs p)) (wHig (wd bs p)) = 0) → OKS K bs x (stm bs g f p) ∧ Fm FLd I K := by
    rintro x K c ⟨rfl, g1, g2⟩ hn
    refine ⟨?_, g2.mono (fun a b c z => fsx_l _ _ _ (fec_sx _ _ _ z))⟩
    unfold stm
    rw [if_neg hn]
    exact ⟨rfl, _, hG.sx (g2.mono fec_sx)⟩
  have j38 : (wd bs p = 3 ∨ wd bs p = 4 ∨ wd bs p = 2) → Tr (f_Set_readStatement_j38 (wd bs p) I) (fun x K => OKS K bs x (stm bs g f p) ∧ Fm FLd I K) := by
    intro hw
    have hlo : 0 ≤ wLow (wd bs p) ∧ wLow (wd bs p) ≤ 1000 ∧ 0 ≤ wHig (wd bs p) ∧ wHig (wd bs p) ≤ 1000 := by
      rcases hw with z | z | z <;> rw [z] <;> decide
    unfold f_Set_readStatement_j38
    rw [c_isTold hF hw, bnd_some]
    by_cases qf : f (wj (wd bs p)) = true
    · rw [if_neg (wb_pos qf)]
      refine tr_call (t_fail 3) ?_
      rintro x K hx
      have hx0 : x = 0 := hx.1
      rw [if_pos (Or.inl hx0)]
      exact tr_ret (fl 3 hx (fun z => by rw [qf] at z; exact absurd z.2.1 (by decide)))
    · have qf' : f (wj (wd bs p)) = false := by
        cases e : f (wj (wd bs p)) with
        | true => exact absurd e qf
        | false => rfl
      rw [if_pos (wb_neg qf)]
      refine tr_call (t_advS hB hl hr hp hT) ?_
      rintro _ J1 ⟨t1, f1⟩
      refine tr_call (t_readNumber (hB.sx f1) hl hr hE.2.1 t1 ⟨hlo.1, hlo.2.1⟩ ⟨hlo.2.2.1, hlo.2.2.2⟩) ?_
      rintro x J2 ⟨rfl, n1, n2, t2, f2⟩
      have f12 := f1.trans f2
      by_cases c1 : nbE bs (tE bs p) (wLow (wd bs p)) (wHig (wd bs p)) = 0
      · rw [if_neg (wb_pos c1), n1 c1]
        have hF2 : FLG J2 f := hF.fm f12 (fun s _ _ => by unfold FSx; omega)
        refine tr_call (t_noteTold (hG.sx f12) hF2 hw (nV bs (tE bs p))) ?_
        rintro _ J3 ⟨hG3, hF3, f3⟩
        have hB3 : BfC J3 bs := (hB.sx f12).fm f3 (by unfold FNt FG; omega) (fun s => by unfold FNt FG; omega)
        have hT3 : TC J3 bs (tE bs p) := t2.fm f3 (fun s _ _ => by unfold FNt FG; omega)
        refine tr_call (t_advS hB3 hl hr hE.2.1 hT3) ?_
        rintro _ J4 ⟨t4, f4⟩
        refine tr_ret ⟨?_, (f12.mono fsx_l).trans ((f3.mono (fun a b c z => by unfold FNt at z; unfold FLd; omega)).trans (f4.mono fsx_l))⟩
        unfold stm
        rw [if_pos ⟨hw, qf', c1⟩]
        exact ⟨rfl, hB3.sx f4, hG3.sx f4, hF3.fm f4 (fun s _ _ => by unfold FSx; omega), t4⟩
      · rw [if_pos (wb_neg c1)]
        refine tr_ret ⟨?_, f12.mono fsx_l⟩
        unfold stm
        rw [if_neg (fun z => c1 z.2.2)]
        exact ⟨rfl, _, hG.sx f12⟩
  by_cases q3 : wd bs p = 3
  · rw [if_pos q3]; exact j38 (Or.inl q3)
  · rw [if_neg q3]
    by_cases q4 : wd bs p = 4
    · rw [if_pos q4]; exact j38 (Or.inr (Or.inl q4))
    · rw [if_neg q4]
      by_cases q2 : wd bs p = 2
      · rw [if_pos q2]; exact j38 (Or.inr (Or.inr q2))
      · rw [if_neg q2]
        refine tr_call (t_fail 1) ?_
        rintro x K hx
        have hx0 : x = 0 := hx.1
        rw [if_pos (Or.inl hx0)]
        exact tr_ret (fl 1 hx (fun z => by omega))
def OKE (K : Mem) (x : Int) : Option GS → Prop
  | some g => x = 1 ∧ GC K 1 g ∧ TG g
  | none => x = 0 ∧ ∃ g' : GS, GC K 1 g'
theorem t_readStms (hl : bs.length ≤ 600) (hr : ∀ b ∈ bs, 1 ≤ b ∧ b ≤ 255) : ∀ (n m p : Nat) (g : GS) (f : Nat → Bool) (I : Mem), m ≤ p → p ≤ bs.length → bs.length - p < n → TG g → BfC I bs → GC I 1 g → FLG I f → TC I bs p → Tr (whl f_Set_readStatements_w2 (m : Int) I) (fun x K => OKE K x (sts bs n g f p) ∧ Fm FLd I K) := by
  intro n
  induction n with
  | zero => intro m p g f I _ _ h; omega
  | succ n ih =>
    intro m p g f I hm hp hn hW hB hG hF hT
    have hE := tE_le hp
    refine tr_step ?_
    have e0 : sts bs (n + 1) g f p = if tK bs p = 0 then some g else if tK bs p = 3 then (match stm bs g f (tE bs p) with
      | none => none
      | some s => sts bs n s.1 s.2.1 s.2.2) else none := rfl
    rw [e0]
    unfold f_Set_readStatements_w2
    rw [w32_of (x := (m : Int)) (by omega) (by omega), if_neg (by omega), c_is hT (by omega), bnd_some]
    by_cases q0 : tK bs p = 0
    · rw [if_neg (wb_pos q0), if_pos q0]
      refine tr_ret ?_
      show OKE I 1 (some g) ∧ Fm FLd I I
      exact ⟨⟨rfl, hG, hW⟩, Fm.refl _ _⟩
    · rw [if_pos (wb_neg q0), if_neg q0]
      refine tr_call (t_pass hB hl hr hp hT (a := 3) (by omega)) ?_
      rintro x J1 ⟨rfl, y1, y2, f1⟩
      by_cases q3 : tK bs p = 3
      · have hgt := tE_gt q0 hp
        rw [if_neg (wb_pos q3), if_pos q3]
        have hF1 : FLG J1 f := hF.fm f1 (fun s _ _ => by unfold FSx; omega)
        refine tr_call (t_readStm hl hr hE.2.1 (hB.sx f1) (hG.sx f1) hF1 (y1 q3)) ?_
        rintro x J2 ⟨ok, f2⟩
        cases hc : stm bs g f (tE bs p) with
        | none =>
          rw [hc] at ok
          obtain ⟨rfl, hg⟩ := ok
          rw [if_pos (by decide)]
          refine tr_ret ?_
          show OKE J2 0 none ∧ Fm FLd I J2
          exact ⟨⟨rfl, hg⟩, (f1.mono fsx_l).trans f2⟩
        | some s =>
          rw [hc] at ok
          obtain ⟨rfl, sB, sG, sF, sT⟩ := ok
          obtain ⟨w1, w2, w3⟩ := hW.stmP hE.2.1 hc
          rw [if_neg (by decide)]
          refine tr_ret ?_
          show Tr (whl f_Set_readStatements_w2 ((m : Int) + 1) J2) _
          refine tr_mono (ih (m + 1) s.2.2 s.1 s.2.1 J2 (by omega) w3 (by omega) w1 sB sG sF sT) ?_
          rintro x K ⟨a, b⟩
          exact ⟨a, (f1.mono fsx_l).trans (f2.trans b)⟩
      · rw [if_pos (wb_neg q3), if_neg q3]
        refine tr_ret ?_
        show OKE J1 0 none ∧ Fm FLd I J1
        exact ⟨⟨rfl, _, hG.sx f1⟩, f1.mono fsx_l⟩
theorem g0_pg : PG g0 0 := ⟨by decide, fun r hr => absurd hr (by omega), fun r _ _ => rfl, rfl, ⟨by decide, by decide⟩, ⟨by decide, by decide⟩, by decide, by decide⟩
theorem t_setRead (hl : bs.length ≤ 600) (hr : ∀ b ∈ bs, 1 ≤ b ∧ b ≤ 255) (hB : BfC I bs) (hG : GC I 1 g) : Tr (f_Set_read I) (fun x K => OKE K x (setP bs) ∧ BfC K bs ∧ Fm FLd I K) := by
  suffices h : Tr (f_Set_read I) (fun x K => OKE K x (setP bs) ∧ Fm FLd I K) from tr_mono h (fun x K z => ⟨z.1, hB.ld z.2, z.2⟩)
  unfold f_Set_read
  refine tr_call (t_gclear hG) ?_
  rintro _ J1 ⟨hG1, f1⟩
  try dsimp only [ltI]
  have f2 : Fm (fun k _ _ => k = 7) J1 (sI (sI (sI (sI J1 7 0 2 0) 7 0 4 0) 7 0 5 0) 7 0 6 0) := (((Fm.sI (by decide) (by omega) (by omega) rfl).trans (Fm.sI (by decide) (by omega) (by omega) rfl)).trans (Fm.sI (by decide) (by omega) (by omega) rfl)).trans (Fm.sI (by decide) (by omega) (by omega) rfl)
  have a2 : (sI (sI (sI (sI J1 7 0 2 0) 7 0 4 0) 7 0 5 0) 7 0 6 0) 7 0 2 = ((0 : Nat) : Int) := by rw [sI_ne (by omega), sI_ne (by omega), sI_ne (by omega), sI_self]; rfl
  have aF : FLG (sI (sI (sI (sI J1 7 0 2 0) 7 0 4 0) 7 0 5 0) 7 0 6 0) (fun _ => false) := fun j hj => by
    rcases (show j = 0 ∨ j = 1 ∨ j = 2 by omega) with rfl | rfl | rfl
    · rw [sI_ne (by omega), sI_ne (by omega), sI_self]; rfl
    · rw [sI_ne (by omega), sI_self]; rfl
    · rw [sI_self]; rfl
  generalize sI (sI (sI (sI J1 7 0 2 0) 7 0 4 0) 7 0 5 0) 7 0 6 0 = J2 at f2 a2 aF
  have hB2 : BfC J2 bs := (hB.fm f1 (by unfold FG; omega) (fun s => by unfold FG; omega)).fm f2 (by omega) (fun s => by omega)
  have hG2 : GC J2 1 g0 := hG1.fm f2 (fun k i s z q => by unfold FG at z; omega)
  unfold f_Src_rewind
  try dsimp only [ltI]
  have f3 : Fm FSx J2 (sI (sI (sI J2 6 0 4 0) 6 0 6 0) 6 0 7 (-1)) := ((Fm.sI (by decide) (by omega) (by omega) ⟨rfl, by omega, by omega⟩).trans (Fm.sI (by decide) (by omega) (by omega) ⟨rfl, by omega, by omega⟩)).trans (Fm.sI (by decide) (by omega) (by omega) ⟨rfl, by omega, by omega⟩)
  have a4 : (sI (sI (sI J2 6 0 4 0) 6 0 6 0) 6 0 7 (-1)) 6 0 4 = ((0 : Nat) : Int) := by rw [sI_ne (by omega), sI_ne (by omega), sI_self]; rfl
  generalize sI (sI (sI J2 6 0 4 0) 6 0 6 0) 6 0 7 (-1) = J3 at f3 a4
  have f13 : Fm FLd I J3 := (f1.mono (fun a b c z => Or.inl z)).trans ((f2.mono (fun a b c z => Or.inr (Or.inr z))).trans (f3.mono fsx_l))
  refine tr_call (P := fun _ K => TC K bs 0 ∧ Fm FSx J3 K) (tr_call (t_adv (hB2.sx f3) hl hr (Nat.zero_le _) a4) (fun _ K z => tr_ret ⟨z.1, z.2.mono fad_sx⟩)) ?_
  rintro _ J4 ⟨hT4, f4⟩
  have f14 := f13.trans (f4.mono fsx_l)
  have hB4 := (hB2.sx f3).sx f4
  have hG4 := (hG2.sx f3).sx f4
  have hF4 : FLG J4 (fun _ => false) := aF.fm (f3.trans f4) (fun s _ _ => by unfold FSx; omega)
  have e2 : J4 7 0 2 = ((0 : Nat) : Int) := by rw [(f3.trans f4).at (by decide) (by unfold FSx; omega)]; exact a2
  unfold f_Set_readRules setP
  refine tr_call (t_readRules hl hr 41 0 0 g0 J4 rfl (Nat.zero_le _) g0_pg hB4 hG4 hT4 e2) ?_
  rintro x J5 ⟨ok, f5⟩
  have f15 := f14.trans (f5.mono (fun a b c z => by unfold FRr at z; unfold FLd; omega))
  have hF5 : FLG J5 (fun _ => false) := hF4.fm f5 (fun s _ _ => by unfold FRr FG FSx; omega)
  cases hc : rls bs 41 g0 0 0 with
  | none =>
    rw [hc] at ok
    obtain ⟨rfl, hg⟩ := ok
    rw [if_pos (by decide)]
    exact tr_ret ⟨⟨rfl, hg⟩, f15⟩
  | some s =>
    rw [hc] at ok
    obtain ⟨rfl, sB, sG, sT, s2, sP, sp⟩ := ok
    rw [if_neg (by decide)]
    refine tr_call (t_readStart hl hr sp sP sB sG sT s2) ?_
    rintro x J6 ⟨ok, f6⟩
    have f16 := f15.trans (f6.mono (fun a b c z => by unfold FRr at z; unfold FLd; omega))
    have hF6 : FLG J6 (fun _ => false) := hF5.fm f6 (fun s _ _ => by unfold FRr FG FSx; omega)
    cases hc2 : stP bs s.1 s.2.1 s.2.2 with
    | none =>
      rw [hc2] at ok
      obtain ⟨rfl, hg⟩ := ok
      rw [if_pos (by decide)]
      refine tr_ret ⟨?_, f16⟩
      show OKE J6 0 (match stP bs s.1 s.2.1 s.2.2 with
        | none => none
        | some t => sts bs 601 t.1 (fun _ => false) t.2)
      rw [hc2]
      exact ⟨rfl, hg⟩
    | some t =>
      rw [hc2] at ok
      obtain ⟨rfl, tB, tG, tT, tW, tp⟩ := ok
      rw [if_neg (by decide)]
      unfold f_Set_readStatements
      refine tr_call (t_readStms hl hr 601 0 t.2 t.1 (fun _ => false) J6 (Nat.zero_le _) tp (by omega) tW tB tG hF6 tT) ?_
      rintro x J7 ⟨ok, f7⟩
      cases hc3 : sts bs 601 t.1 (fun _ => false) t.2 with
      | none =>
        rw [hc3] at ok
        obtain ⟨rfl, hg⟩ := ok
        rw [if_pos (by decide)]
        refine tr_ret ⟨?_, f16.trans f7⟩
        show OKE J7 0 (match stP bs s.1 s.2.1 s.2.2 with
          | none => none
          | some t => sts bs 601 t.1 (fun _ => false) t.2)
        rw [hc2]
        show OKE J7 0 (sts bs 601 t.1 (fun _ => false) t.2)
        rw [hc3]
        exact ⟨rfl, hg⟩
      | some u =>
        rw [hc3] at ok
        obtain ⟨rfl, uG, uW⟩ := ok
        rw [if_neg (by decide)]
        refine tr_ret ⟨?_, f16.trans f7⟩
        show OKE J7 1 (match stP bs s.1 s.2.1 s.2.2 with
          | none => none
          | some t => sts bs 601 t.1 (fun _ => false) t.2)
        rw [hc2]
        show OKE J7 1 (sts bs 601 t.1 (fun _ => false) t.2)
        rw [hc3]
        exact ⟨rfl, uG, uW⟩
end CSET
