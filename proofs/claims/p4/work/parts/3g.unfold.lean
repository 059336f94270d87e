/-! ===== what a row unfolds to; the class unfolds ===== -/
def exF (R : Nat → List Int) : Nat → Int → List Int
  | 0, _ => []
  | n + 1, x => if x < 26 then [x] else (R ((x - 26).toNat + 1)).flatMap (exF R n)
def ex (g : GS) (x : Int) : List Int := exF (gR g) (sl (gL g) x).toNat x
def exL (g : GS) (l : List Int) : List Int := l.flatMap (ex g)
def gTx (g : GS) : List Int := exL g (gR g 0)
theorem exL_nil (g : GS) : exL g [] = [] := rfl
theorem exL_cons (g : GS) (x : Int) (l : List Int) : exL g (x :: l) = ex g x ++ exL g l := by simp [exL]
theorem exL_app (g : GS) (l m : List Int) : exL g (l ++ m) = exL g l ++ exL g m := by simp [exL]
theorem flatMap_cong {l : List Int} {f h : Int → List Int} (k : ∀ x ∈ l, f x = h x) : l.flatMap f = l.flatMap h := by
  induction l with
  | nil => rfl
  | cons x l ih =>
    rw [List.flatMap_cons, List.flatMap_cons, k x List.mem_cons_self, ih (fun y hy => k y (List.mem_cons_of_mem _ hy))]
theorem sl_26 {L : Nat → Int} {x : Int} (h : x < 26) : sl L x = 1 := by unfold sl; rw [if_pos h]
/-- a rule's body, and that what stands in it is shorter -/
theorem rule_body {g : GS} (w : WF g) {x : Int} (hx : SYr (gR g) x) (h26 : 26 ≤ x) : (x - 26).toNat < 40 ∧ sl (gL g) x = gL g (x - 26).toNat ∧ gR g ((x - 26).toNat + 1) ≠ [] ∧ ll (gL g) (gR g ((x - 26).toNat + 1)) = sl (gL g) x ∧ 2 ≤ (gR g ((x - 26).toNat + 1)).length ∧ (∀ y ∈ gR g ((x - 26).toNat + 1), SYr (gR g) y ∧ sl (gL g) y < sl (gL g) x) := by
  have h66 := hx.2.1
  obtain ⟨b1, b2, -, b4⟩ := w.2.1 (x - 26).toNat (by omega) (hx.2.2 h26)
  have e : sl (gL g) x = gL g (x - 26).toNat := by unfold sl; rw [if_neg (by omega)]
  have hge := ll_ge (L := gL g) (l := gR g ((x - 26).toNat + 1)) (fun z hz => (w.sl1' (by omega) hz).1)
  obtain ⟨c1, c2, c3, c4, c5, c6, c7⟩ := cut_body w hx (by omega)
  exact ⟨by omega, e, c3, c4, c6, fun y hy => ⟨c5 y hy, c7 y hy⟩⟩
theorem exF_far {g : GS} (w : WF g) : ∀ (n m : Nat) (x : Int), SYr (gR g) x → sl (gL g) x ≤ n → sl (gL g) x ≤ m → exF (gR g) n x = exF (gR g) m x
  | 0, m, x, hx, h, _ => by have := (w.sl1 hx).1; omega
  | n + 1, 0, x, hx, _, h => by have := (w.sl1 hx).1; omega
  | n + 1, m + 1, x, hx, h1, h2 => by
    rw [exF, exF]
    by_cases q : x < 26
    · rw [if_pos q, if_pos q]
    · rw [if_neg q, if_neg q]
      obtain ⟨-, -, -, -, -, h6⟩ := rule_body w hx (by omega)
      exact flatMap_cong (fun y hy => exF_far w n m y (h6 y hy).1 (by have := (h6 y hy).2; omega) (by have := (h6 y hy).2; omega))
theorem ex_letter (g : GS) {x : Int} (h : x < 26) : ex g x = [x] := by
  unfold ex
  rw [sl_26 h]
  show exF (gR g) 1 x = [x]
  rw [exF, if_pos h]
theorem ex_rule {g : GS} (w : WF g) {x : Int} (hx : SYr (gR g) x) (h : 26 ≤ x) : ex g x = exL g (gR g ((x - 26).toNat + 1)) := by
  have h1 := (w.sl1 hx).1
  obtain ⟨-, -, -, -, -, h6⟩ := rule_body w hx h
  unfold ex exL
  obtain ⟨n, hn⟩ : ∃ n : Nat, (sl (gL g) x).toNat = n + 1 := ⟨(sl (gL g) x).toNat - 1, by omega⟩
  rw [hn, exF, if_neg (by omega)]
  refine flatMap_cong (fun y hy => ?_)
  have h3 := (h6 y hy).2
  have h4 := (w.sl1 (h6 y hy).1).1
  exact exF_far w n _ y (h6 y hy).1 (by omega) (by omega)
theorem exL_len' {g : GS} {l : List Int} (h : ∀ x ∈ l, ((ex g x).length : Int) = sl (gL g) x) : ((exL g l).length : Int) = ll (gL g) l := by
  induction l with
  | nil => rfl
  | cons x l ih =>
    rw [exL_cons, List.length_append, ll_cons, Int.natCast_add, h x List.mem_cons_self, ih (fun y hy => h y (List.mem_cons_of_mem _ hy))]
theorem ex_len {g : GS} (w : WF g) : ∀ (n : Nat) (x : Int), SYr (gR g) x → sl (gL g) x ≤ n → ((ex g x).length : Int) = sl (gL g) x ∧ ∀ y ∈ ex g x, 0 ≤ y ∧ y < 26
  | 0, x, hx, h => by have := (w.sl1 hx).1; omega
  | n + 1, x, hx, h => by
    by_cases q : x < 26
    · rw [ex_letter g q, sl_26 q]
      exact ⟨rfl, fun y hy => by rw [List.mem_singleton.mp hy]; exact ⟨hx.1, q⟩⟩
    · obtain ⟨-, -, -, h4, -, h6⟩ := rule_body w hx (by omega)
      rw [ex_rule w hx (by omega)]
      refine ⟨by rw [exL_len' (fun y hy => (ex_len w n y (h6 y hy).1 (by have := (h6 y hy).2; omega)).1), h4], fun y hy => ?_⟩
      unfold exL at hy
      obtain ⟨z, hz, hyz⟩ := List.mem_flatMap.mp hy
      exact (ex_len w n z (h6 z hz).1 (by have := (h6 z hz).2; omega)).2 y hyz
theorem exL_len {g : GS} (w : WF g) {l : List Int} (h : ∀ x ∈ l, SYr (gR g) x) : ((exL g l).length : Int) = ll (gL g) l :=
  exL_len' (fun x hx => (ex_len w (sl (gL g) x).toNat x (h x hx) (by have := (w.sl1 (h x hx)).1; omega)).1)
theorem exL_let {g : GS} (w : WF g) {l : List Int} (h : ∀ x ∈ l, SYr (gR g) x) : ∀ y ∈ exL g l, 0 ≤ y ∧ y < 26 := fun y hy => by
  obtain ⟨z, hz, hyz⟩ := List.mem_flatMap.mp hy
  exact (ex_len w (sl (gL g) z).toNat z (h z hz) (by have := (w.sl1 (h z hz)).1; omega)).2 y hyz
theorem gTx_len {g : GS} (w : WF g) : (gTx g).length = (gT g).length := by
  have h1 := exL_len w (w.1 0 (by omega))
  have h2 := w.2.2.1
  unfold gTx
  omega
/-- the rows that are open, the newest first, with the place to go on at -/
def remS (g : GS) : List (Nat × Nat) → List Int
  | [] => []
  | (i, pl) :: st => exL g ((gR g i).drop pl) ++ remS g st
def mcS (g : GS) : List (Nat × Nat) → Int
  | [] => 0
  | (i, pl) :: st => 3 * ll (gL g) ((gR g i).drop pl) - 2 * ((gR g i).drop pl).length + 1 + mcS g st
def CHN (g : GS) : List (Nat × Nat) → Prop
  | [] => True
  | (i, pl) :: st => i < 41 ∧ pl ≤ (gR g i).length ∧ (st = [] → i = 0) ∧ (st ≠ [] → 1 ≤ i ∧ gR g i ≠ []) ∧ (∀ q ∈ st, q.1 ≠ 0 → gL g (i - 1) < gL g (q.1 - 1)) ∧ CHN g st
theorem CHN.nodup {g : GS} : ∀ {st : List (Nat × Nat)}, CHN g st → (st.map Prod.fst).Nodup ∧ ∀ x ∈ st.map Prod.fst, x < 41
  | [], _ => ⟨List.nodup_nil, fun x hx => absurd hx List.not_mem_nil⟩
  | (i, pl) :: st, h => by
    obtain ⟨h1, h2, h3, h4, h5, h6⟩ := h
    obtain ⟨i1, i2⟩ := CHN.nodup h6
    refine ⟨?_, fun x hx => ?_⟩
    · rw [List.map_cons, List.nodup_cons]
      refine ⟨fun hm => ?_, i1⟩
      obtain ⟨q, hq, e⟩ := List.mem_map.mp hm
      have hne : st ≠ [] := fun z => by rw [z] at hq; exact absurd hq List.not_mem_nil
      have e : q.1 = i := e
      have := h5 q hq (by have := (h4 hne).1; omega)
      rw [e] at this
      omega
    · rw [List.map_cons] at hx
      rcases List.mem_cons.mp hx with z | z
      · rw [z]; exact h1
      · exact i2 x z
theorem CHN.len {g : GS} {st : List (Nat × Nat)} (h : CHN g st) : st.length ≤ 41 := by
  obtain ⟨h1, h2⟩ := h.nodup
  have := nodup_len 41 _ h1 h2
  rwa [List.length_map] at this
theorem CHN.push {g : GS} (w : WF g) {i pl : Nat} {st : List (Nat × Nat)} (h : CHN g ((i, pl) :: st)) (hpl : pl < (gR g i).length) {x : Int} (hx : x = (gR g i).getD pl (-1)) (h26 : 26 ≤ x) : CHN g (((x - 26).toNat + 1, 0) :: (i, pl + 1) :: st) := by
  obtain ⟨h1, h2, h3, h4, h5, h6⟩ := h
  have hxs : SYr (gR g) x := w.1 i h1 x (by rw [hx]; exact getD_mem hpl)
  obtain ⟨b1, b2, b3, -, -, -⟩ := rule_body w hxs h26
  refine And.intro (by omega) (And.intro (Nat.zero_le _) (And.intro (fun z => by cases z) (And.intro (fun _ => ⟨by omega, b3⟩) (And.intro (fun q hq hq0 => ?_) ⟨h1, hpl, h3, h4, h5, h6⟩))))
  have key : i ≠ 0 → gL g ((x - 26).toNat) < gL g (i - 1) := fun hi => by
    have hne : gR g (i - 1 + 1) ≠ [] := by
      rw [show i - 1 + 1 = i by omega]
      intro e
      rw [e] at hpl
      simp at hpl
    have hb := w.2.1 (i - 1) (by omega) hne
    rw [show i - 1 + 1 = i by omega] at hb
    rw [← b2, hb.2.1]
    have hm : x ∈ gR g i := by rw [hx]; exact getD_mem hpl
    obtain ⟨l1, l2, e2⟩ := List.append_of_mem hm
    have hge : ∀ z ∈ gR g i, 1 ≤ sl (gL g) z := fun z hz => (w.sl1' h1 hz).1
    have hb1 := hb.1
    rw [e2] at hb1 hge ⊢
    rw [ll_app, ll_cons]
    have g1 := ll_ge (L := gL g) (l := l1) (fun z hz => hge z (by simp [hz]))
    have g2 := ll_ge (L := gL g) (l := l2) (fun z hz => hge z (by simp [hz]))
    simp at hb1
    omega
  rcases List.mem_cons.mp hq with z | z
  · rw [z] at hq0 ⊢
    exact key hq0
  · have hst : st ≠ [] := fun e => by rw [e] at z; exact absurd z List.not_mem_nil
    have hi : i ≠ 0 := by have := (h4 hst).1; omega
    have a1 := key hi
    have a2 := h5 q z hq0
    show gL g ((x - 26).toNat + 1 - 1) < _
    rw [show (x - 26).toNat + 1 - 1 = (x - 26).toNat by omega]
    omega
theorem mcS_nn {g : GS} (w : WF g) : ∀ {st : List (Nat × Nat)}, CHN g st → 0 ≤ mcS g st
  | [], _ => Int.le_refl _
  | (i, pl) :: st, h => by
    have ih := mcS_nn w h.2.2.2.2.2
    have := ll_ge (L := gL g) (l := (gR g i).drop pl) (fun x hx => (w.sl1' h.1 (List.drop_subset _ _ hx)).1)
    unfold mcS
    omega
def STK (J : Mem) : List (Nat × Nat) → Prop
  | [] => True
  | (i, pl) :: st => J 18 5 st.length = (pl : Int) ∧ (st ≠ [] → J 18 4 st.length = (i : Int) - 1) ∧ STK J st
theorem STK.of {J J' : Mem} : ∀ {st : List (Nat × Nat)}, STK J st → (∀ d : Nat, d < st.length → J' 18 5 d = J 18 5 d ∧ J' 18 4 d = J 18 4 d) → STK J' st
  | [], _, _ => trivial
  | (i, pl) :: st, h, k => by
    obtain ⟨h1, h2, h3⟩ := h
    have k0 := k st.length (by simp)
    exact ⟨by rw [k0.1]; exact h1, fun z => by rw [k0.2]; exact h2 z, h3.of (fun d hd => k d (by simp; omega))⟩
abbrev FSV : FP := fun k _ _ => k = 5 ∨ k = 18
def TXT (J : Mem) (l : List Int) : Prop := J 5 0 7 = (l.length : Int) ∧ l.length ≤ 400 ∧ ∀ j : Nat, j < l.length → J 18 3 j = l.getD j (-1)
theorem GC.fsv {I J : Mem} {t : Nat} {g : GS} (h : GC I t g) (f : Fm FSV I J) : GC J t g := h.fm f (fun k i s hk q => by
  rcases hk with hk | hk
  · rcases hk.1 with e | e <;> rcases q with q | q <;> omega
  · rcases hk.1 with e | e | e <;> rcases q with q | q <;> omega)
theorem t_unfold {I : Mem} {t : Nat} {g : GS} (h : GC I t g) (w : WF g) : Tr (f_Sv_unfold t I) (fun _ J => TXT J (gTx g) ∧ Fm FSV I J) := by
  have ht := h.1
  have h00 := w.lle (i := 0) (by omega)
  have hTl := gTx_len w
  have hT4 := w.2.2.2.2.1
  unfold f_Sv_unfold
  rw [if_pos ht]
  show Tr (bnd (whl (f_Sv_unfold_w16 t) (0, 0) (sI (sI I 5 0 7 0) 18 5 0 0)) (fun _ J78 => some ((), J78))) _
  refine tr_call (P := fun _ J => TXT J (gTx g) ∧ Fm FSV I J) (tr_whl (fun n s J => ∃ (st : List (Nat × Nat)) (out : List Int) (mv : Nat), s = ((st.length : Int) - 1, (mv : Int)) ∧ mv + n ≤ 2000 ∧ mcS g st ≤ n ∧ STK J st ∧ CHN g st ∧ out ++ remS g st = gTx g ∧ J 5 0 7 = (out.length : Int) ∧ (∀ j : Nat, j < out.length → J 18 3 j = out.getD j (-1)) ∧ Fm FSV I J) ?_ 1300 _ _ ⟨[(0, 0)], [], 0, rfl, by omega, ?_, ⟨by show sI (sI I 5 0 7 0) 18 5 0 0 18 5 0 = 0; rw [sI_self], fun z => absurd rfl z, trivial⟩, ⟨by omega, Nat.zero_le _, fun _ => rfl, fun z => absurd rfl z, fun q hq => absurd hq List.not_mem_nil, trivial⟩, by simp [remS, gTx], by rw [sI_ne (by omega), sI_self]; rfl, fun j hj => absurd hj (Nat.not_lt_zero j), (Fm.sI (by decide) (by omega) (by omega) (Or.inl rfl)).trans (Fm.sI (by decide) (by omega) (by omega) (Or.inr rfl))⟩) (fun _ _ q => tr_ret q)
  · rintro n s J ⟨st, out, mv, rfl, hmv, hn, hS, hC, hO, h7, h3, hF⟩
    have hlen := hC.len
    have hG := h.fsv hF
    unfold f_Sv_unfold_w16
    dsimp only
    rw [w32_of (x := (mv : Int)) (by omega) (by omega), if_pos (by omega), w32_of (x := (st.length : Int) - 1) (by omega) (by omega)]
    match st, hS, hC, hO, hn, hlen with
    | [], _, _, hO, _, _ =>
      rw [if_pos (by simp)]
      have hO : out = gTx g := by simpa [remS] using hO
      refine tr_ret ⟨⟨?_, by omega, ?_⟩, hF⟩
      · rw [← hO]; exact h7
      · rw [← hO]; exact h3
    | (i, pl) :: st, hS, hC, hO, hn, hlen =>
      have hC' := hC
      obtain ⟨s1, s2, s3⟩ := hS
      obtain ⟨c1, c2, c3, c4, c5, c6⟩ := hC
      have hrow := hG.2.1 i c1
      have hl4 := hrow.len
      have hmn := mcS_nn w c6
      rw [List.length_cons] at hlen
      have hd : (((i, pl) :: st).length : Int) - 1 = (st.length : Int) := by rw [List.length_cons]; omega
      rw [hd, if_neg (by omega)]
      have key : Tr (f_Sv_unfold_j47 t (st.length : Int) (mv : Int) (rix t i) J) (LQ (fun s' J' => ∃ m : Nat, m < n ∧ ∃ (st : List (Nat × Nat)) (out : List Int) (mv : Nat), s' = ((st.length : Int) - 1, (mv : Int)) ∧ mv + m ≤ 2000 ∧ mcS g st ≤ m ∧ STK J' st ∧ CHN g st ∧ out ++ remS g st = gTx g ∧ J' 5 0 7 = (out.length : Int) ∧ (∀ j : Nat, j < out.length → J' 18 3 j = out.getD j (-1)) ∧ Fm FSV I J') (fun _ J => TXT J (gTx g) ∧ Fm FSV I J)) := by
        unfold f_Sv_unfold_j47
        rw [if_pos hrow.1, w32_of (x := (st.length : Int)) (by omega) (by omega), if_pos (by omega), Int.toNat_natCast, s1, row_at hrow (by omega), bnd_some, s1]
        have fS : ∀ {K : Mem} {k i s : Nat} {v : Int}, k = 18 → Fm FSV K (sI K k i s v) := fun hk => Fm.sI (by omega) (by omega) (by omega) (Or.inr hk)
        by_cases q : pl < (gR g i).length
        · have hxs : SYr (gR g) ((gR g i).getD pl (-1)) := w.1 i c1 _ (getD_mem q)
          have hx0 := hxs.1
          have hx6 := hxs.2.1
          have hsx := w.sl1 hxs
          have hdr := drop_at (l := gR g i) (d := -1) q
          generalize hx : (gR g i).getD pl (-1) = x at *
          rw [remS, hdr, exL_cons] at hO
          rw [mcS, hdr, ll_cons, List.length_cons] at hn
          have hge := ll_ge (L := gL g) (l := (gR g i).drop (pl + 1)) (fun y hy => (w.sl1' c1 (List.drop_subset _ _ hy)).1)
          obtain ⟨n, rfl⟩ : ∃ k : Nat, n = k + 1 := ⟨n - 1, by omega⟩
          rw [w32_of (x := x) (by omega) (by omega)]
          show Tr (if x = -1 then _ else _) _
          rw [if_neg (by omega)]
          by_cases q2 : x < 26
          · rw [if_pos q2]
            rw [ex_letter g q2] at hO
            rw [sl_26 q2] at hn
            have hol : out.length < 400 := by
              have := congrArg List.length hO
              rw [List.length_append, List.length_append, List.length_append, List.length_singleton] at this
              omega
            have k7 : sI J 18 5 st.length ((pl : Int) + 1) 5 0 7 = (out.length : Int) := by rw [sI_ne (by omega)]; exact h7
            unfold f_Sv_addLetter
            show Tr (bnd (if w32 (sI J 18 5 st.length ((pl : Int) + 1) 5 0 7) < 400 then (if 0 ≤ w32 (sI J 18 5 st.length ((pl : Int) + 1) 5 0 7) ∧ w32 (sI J 18 5 st.length ((pl : Int) + 1) 5 0 7) < 400 then some ((), sI (sI (sI J 18 5 st.length ((pl : Int) + 1)) 18 3 (w32 (sI J 18 5 st.length ((pl : Int) + 1) 5 0 7)).toNat x) 5 0 7 (sI (sI J 18 5 st.length ((pl : Int) + 1)) 18 3 (w32 (sI J 18 5 st.length ((pl : Int) + 1) 5 0 7)).toNat x 5 0 7 + 1)) else none) else some ((), sI J 18 5 st.length ((pl : Int) + 1))) (fun _ J22 => some (Sum.inl ((st.length : Int), (mv : Int) + 1), J22))) _
            rw [k7, w32_of (x := (out.length : Int)) (by omega) (by omega), if_pos (by omega), if_pos (by omega), Int.toNat_natCast, bnd_some, sI_ne (by omega), k7]
            refine tr_ret ⟨n, by omega, (i, pl + 1) :: st, out ++ [x], mv + 1, ?_, by omega, by rw [mcS]; omega, ?_, ⟨c1, q, c3, c4, c5, c6⟩, by rw [remS, ← hO]; simp, ?_, fun j hj => ?_, hF.trans ((fS rfl).trans ((fS rfl).trans (Fm.sI (by decide) (by omega) (by omega) (Or.inl rfl))))⟩
            · rw [List.length_cons]; exact Prod.ext (by show (st.length : Int) = _; omega) rfl
            · refine ⟨?_, fun z => ?_, s3.of (fun d hd => ⟨?_, ?_⟩)⟩
              · rw [sI_ne (by omega), sI_ne (by omega), sI_self]; rfl
              · rw [sI_ne (by omega), sI_ne (by omega), sI_ne (by omega)]; exact s2 z
              · rw [sI_ne (by omega), sI_ne (by omega), sI_ne (by omega)]
              · rw [sI_ne (by omega), sI_ne (by omega), sI_ne (by omega)]
            · rw [sI_self, List.length_append]; rfl
            · rw [List.length_append, List.length_singleton] at hj
              rw [sI_ne (by omega)]
              by_cases e : j = out.length
              · subst e; rw [sI_self, getD_r (Nat.le_refl _), Nat.sub_self]; rfl
              · rw [sI_ne (by omega), sI_ne (by omega), h3 j (by omega), getD_l (by omega)]
          · rw [if_neg q2]
            have hC2 := hC'.push w q hx.symm (by omega)
            have hlen2 := hC2.len
            rw [List.length_cons, List.length_cons] at hlen2
            obtain ⟨b1, b2, b3, b4, b5, b6⟩ := rule_body w hxs (by omega)
            rw [ex_rule w hxs (by omega)] at hO
            rw [if_pos (by omega), w32_of (x := (st.length : Int) + 1) (by omega) (by omega), if_pos (by omega), tn1]
            refine tr_ret ⟨n, by omega, ((x - 26).toNat + 1, 0) :: (i, pl + 1) :: st, out, mv + 1, ?_, by omega, ?_, ?_, hC2, ?_, ?_, fun j hj => ?_, hF.trans ((fS rfl).trans ((fS rfl).trans (fS rfl)))⟩
            · rw [List.length_cons, List.length_cons]; exact Prod.ext (by show (st.length : Int) + 1 = _; omega) rfl
            · rw [mcS, mcS, List.drop_zero, b4]; omega
            · refine ⟨?_, fun _ => ?_, ?_, fun z => ?_, s3.of (fun d hd => ⟨?_, ?_⟩)⟩
              · rw [List.length_cons, sI_self]; rfl
              · rw [List.length_cons, sI_ne (by omega), sI_self]; omega
              · rw [sI_ne (by omega), sI_ne (by omega), sI_self]; rfl
              · rw [sI_ne (by omega), sI_ne (by omega), sI_ne (by omega)]; exact s2 z
              · rw [sI_ne (by omega), sI_ne (by omega), sI_ne (by omega)]
              · rw [sI_ne (by omega), sI_ne (by omega), sI_ne (by omega)]
            · rw [remS, remS, List.drop_zero, ← hO]; simp
            · rw [sI_ne (by omega), sI_ne (by omega), sI_ne (by omega)]; exact h7
            · rw [sI_ne (by omega), sI_ne (by omega), sI_ne (by omega)]; exact h3 j hj
        · have hdn : (gR g i).drop pl = [] := List.drop_eq_nil_of_le (by omega)
          rw [remS, hdn, exL_nil, List.nil_append] at hO
          rw [mcS, hdn, ll_nil, List.length_nil] at hn
          rw [getD_out (by omega)]
          show Tr (if w32 (-1) = -1 then _ else _) _
          rw [if_pos (by decide)]
          refine tr_ret ⟨(n - 1), by omega, st, out, mv + 1, Prod.ext (by show (st.length : Int) + -1 = _; omega) rfl, by omega, by omega, s3.of (fun d hd => ⟨sI_ne (by omega), sI_ne (by omega)⟩), c6, hO, ?_, fun j hj => ?_, hF.trans (fS rfl)⟩
          · rw [sI_ne (by omega)]; exact h7
          · rw [sI_ne (by omega)]; exact h3 j hj
      by_cases q0 : st = []
      · have hi : i = 0 := c3 q0
        subst hi
        rw [if_pos (by rw [q0]; rfl)]
        exact key
      · have hpos := List.length_pos_iff.mpr q0
        obtain ⟨c41, -⟩ := c4 q0
        rw [if_neg (by omega), if_pos (by omega), Int.toNat_natCast, s2 q0, show (i : Int) - 1 = ((i - 1 : Nat) : Int) by omega, g_body ht (r := i - 1) (by omega), bnd_some, show i - 1 + 1 = i by omega, if_pos hrow.1]
        exact key
  · rw [mcS, List.drop_zero]
    show _ + 0 ≤ ((1300 : Nat) : Int)
    omega
