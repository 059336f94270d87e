/-! ===== letters are cut off ===== -/
def cutF (R : Nat → List Int) (L : Nat → Int) : Nat → Int → List Int → Int → List Int × Int
  | 0, _, l, o => (l, o)
  | n + 1, d, l, o => if d ≤ 0 then (l, o) else if sl L (l.getD (l.length - 1) (-1)) ≤ d then cutF R L n (d - sl L (l.getD (l.length - 1) (-1))) (l.take (l.length - 1)) o else cutF R L n d (l.take (l.length - 1) ++ R ((l.getD (l.length - 1) (-1) - 26).toNat + 1)) (o + 1)
theorem cutF_0 {R : Nat → List Int} {L : Nat → Int} {n : Nat} {d o : Int} {l : List Int} (h : d ≤ 0) : cutF R L n d l o = (l, o) := by
  cases n with
  | zero => rfl
  | succ n => rw [cutF, if_pos h]
def cutR (g : GS) (m : Int) : List Int × Int := cutF (gR g) (gL g) (2 * ll (gL g) (gR g 0)).toNat m (gR g 0) 0
def gCut (g : GS) (m : Nat) : GS := (up (gR g) 0 (cutR g m).1, (gT g).take ((gT g).length - m), gL g, up (up (gA g) 8 (gA g 8 + (cutR g m).2)) 7 (gA g 7 + m), gN g)
/-- one move at the end of a row -/
theorem cut_move {g : GS} (w : WF g) {l : List Int} (hl : l ≠ []) (hs : ∀ x ∈ l, SYr (gR g) x) : ∃ x : Int, x = l.getD (l.length - 1) (-1) ∧ SYr (gR g) x ∧ l = l.take (l.length - 1) ++ [x] ∧ ll (gL g) l = ll (gL g) (l.take (l.length - 1)) + sl (gL g) x ∧ (∀ y ∈ l.take (l.length - 1), SYr (gR g) y) ∧ (l.take (l.length - 1)).length + 1 = l.length := by
  have hlen := List.length_pos_iff.mpr hl
  have e : l = l.take (l.length - 1) ++ [l.getD (l.length - 1) (-1)] := by
    have := take_at (l := l) (j := l.length - 1) (d := -1) (by omega)
    rw [show l.length - 1 + 1 = l.length by omega, List.take_length] at this
    exact this
  refine ⟨_, rfl, hs _ (getD_mem (by omega)), e, ?_, fun y hy => hs y (List.take_subset _ _ hy), by rw [List.length_take]; omega⟩
  have := congrArg (ll (gL g)) e
  rw [ll_app, ll_cons, ll_nil, Int.add_zero] at this
  exact this
theorem cut_body {g : GS} (w : WF g) {x : Int} (hx : SYr (gR g) x) (h : 1 < sl (gL g) x) : 26 ≤ x ∧ x < 66 ∧ gR g ((x - 26).toNat + 1) ≠ [] ∧ ll (gL g) (gR g ((x - 26).toNat + 1)) = sl (gL g) x ∧ (∀ y ∈ gR g ((x - 26).toNat + 1), SYr (gR g) y) ∧ 2 ≤ (gR g ((x - 26).toNat + 1)).length ∧ ∀ y ∈ gR g ((x - 26).toNat + 1), sl (gL g) y < sl (gL g) x := by
  obtain ⟨h0, h66, hr⟩ := hx
  have h26 : 26 ≤ x := by
    apply Classical.byContradiction
    intro q
    unfold sl at h
    rw [if_pos (by omega)] at h
    omega
  obtain ⟨b1, b2, -, -⟩ := w.2.1 (x - 26).toNat (by omega) (hr h26)
  have e : sl (gL g) x = gL g (x - 26).toNat := by unfold sl; rw [if_neg (by omega)]
  refine ⟨h26, h66, hr h26, by rw [e, b2], w.1 _ (by omega), b1, fun y hy => ?_⟩
  rw [e, b2]
  obtain ⟨l1, l2, e2⟩ := List.append_of_mem hy
  have hge : ∀ z ∈ gR g ((x - 26).toNat + 1), 1 ≤ sl (gL g) z := fun z hz => (w.sl1' (by omega) hz).1
  rw [e2] at b1 hge ⊢
  rw [ll_app, ll_cons]
  have g1 := ll_ge (L := gL g) (l := l1) (fun z hz => hge z (by simp [hz]))
  have g2 := ll_ge (L := gL g) (l := l2) (fun z hz => hge z (by simp [hz]))
  simp at b1
  omega
theorem cutF_ok {g : GS} (w : WF g) : ∀ (n : Nat) (d o : Int) (l : List Int), 2 * ll (gL g) l - l.length ≤ n → 0 ≤ d → d < ll (gL g) l → (∀ x ∈ l, SYr (gR g) x) → ll (gL g) (cutF (gR g) (gL g) n d l o).1 = ll (gL g) l - d ∧ ∀ x ∈ (cutF (gR g) (gL g) n d l o).1, SYr (gR g) x
  | n, d, o, l, hm, h0, hd, hs => by
    by_cases q : d ≤ 0
    · rw [cutF_0 q]
      exact ⟨by show ll (gL g) l = _; omega, hs⟩
    · have hne : l ≠ [] := by
        rintro rfl
        rw [ll_nil] at hd
        omega
      have hge := ll_ge (L := gL g) (l := l) (fun x hx => (w.sl1 (hs x hx)).1)
      have hlen := List.length_pos_iff.mpr hne
      obtain ⟨n, rfl⟩ : ∃ k : Nat, n = k + 1 := ⟨n - 1, by omega⟩
      obtain ⟨x, ex, hx, -, e1, e2, e3⟩ := cut_move w hne hs
      have hsx := (w.sl1 hx).1
      rw [cutF, if_neg q, ← ex]
      by_cases q2 : sl (gL g) x ≤ d
      · rw [if_pos q2]
        obtain ⟨r1, r2⟩ := cutF_ok w n (d - sl (gL g) x) o (l.take (l.length - 1)) (by omega) (by omega) (by omega) e2
        exact ⟨by omega, r2⟩
      · rw [if_neg q2]
        obtain ⟨b1, b2, b3, b4, b5, b6, -⟩ := cut_body w hx (by omega)
        obtain ⟨r1, r2⟩ := cutF_ok w n d (o + 1) (l.take (l.length - 1) ++ gR g ((x - 26).toNat + 1)) (by rw [ll_app, b4, List.length_append]; omega) h0 (by rw [ll_app, b4]; omega) (fun y hy => by
          rcases List.mem_append.mp hy with z | z
          · exact e2 y z
          · exact b5 y z)
        refine ⟨?_, r2⟩
        rw [r1, ll_app, b4]
        omega
theorem WF.cut {g : GS} (w : WF g) {m : Nat} (hm : m < (gT g).length) : WF (gCut g m) := by
  have hT := w.2.2.1
  have hle := w.lle (i := 0) (by omega)
  obtain ⟨c1, c2⟩ := cutF_ok w (2 * ll (gL g) (gR g 0)).toNat m 0 (gR g 0) (by omega) (by omega) (by omega) (w.1 0 (by omega))
  have e1 : ∀ i : Nat, gR (gCut g m) i = if i = 0 then (cutR g m).1 else gR g i := fun _ => rfl
  have es : ∀ x : Int, SYr (gR g) x → SYr (gR (gCut g m)) x := fun x h => ⟨h.1, h.2.1, fun z => by rw [e1, if_neg (by omega)]; exact h.2.2 z⟩
  refine ⟨fun i hi x hx => es x ?_, fun r hr hn => ?_, ?_, ?_, ?_, w.2.2.2.2.2⟩
  · rw [e1] at hx
    by_cases q : i = 0
    · rw [if_pos q] at hx; exact c2 x hx
    · rw [if_neg q] at hx; exact w.1 i hi x hx
  · rw [e1, if_neg (by omega)] at hn ⊢
    exact w.2.1 r hr hn
  · rw [e1, if_pos rfl]
    show ll (gL g) (cutR g m).1 = (((gT g).take ((gT g).length - m)).length : Int)
    rw [List.length_take]
    unfold cutR
    rw [c1]
    omega
  · show 1 ≤ ((gT g).take ((gT g).length - m)).length
    rw [List.length_take]; omega
  · have := w.2.2.2.2.1
    show ((gT g).take ((gT g).length - m)).length ≤ 400
    rw [List.length_take]; omega
theorem t_dropLetters {I : Mem} {t : Nat} {g : GS} (h : GC I t g) (w : WF g) {m : Nat} (h1 : 1 ≤ m) (hm : m < (gT g).length) : Tr (f_G_dropLetters t (m : Int) I) (fun _ J => GC J t (gCut g m) ∧ Fm (FG t) I J) := by
  have ht := h.1
  have hT := w.2.2.1
  have hT4 := w.2.2.2.2.1
  have hle := w.lle (i := 0) (by omega)
  unfold f_G_dropLetters
  rw [if_pos ht]
  refine tr_call (P := fun _ J => GC J t (gsA (gsR g 0 (cutR g m).1) 8 (gA g 8 + (cutR g m).2)) ∧ Fm (FG t) I J) (tr_whl (fun n s J => ∃ (l : List Int) (o d : Int) (mv : Nat), s = (d, (mv : Int)) ∧ mv + n ≤ 800 ∧ 2 * ll (gL g) l - l.length ≤ n ∧ 0 ≤ d ∧ d < ll (gL g) l ∧ ll (gL g) l ≤ 400 ∧ (∀ x ∈ l, SYr (gR g) x) ∧ cutF (gR g) (gL g) n d l o = cutR g m ∧ GC J t (gsA (gsR g 0 l) 8 (gA g 8 + o)) ∧ Fm (FG t) I J) ?_ (2 * ll (gL g) (gR g 0)).toNat _ _ ⟨gR g 0, 0, m, 0, rfl, by omega, by omega, by omega, by omega, hle.2, w.1 0 (by omega), rfl, h.congr (fun i _ => ?_) rfl (fun _ _ => rfl) (fun i _ => ?_) (fun _ _ => rfl), Fm.refl _ _⟩) ?_
  · rintro n s J ⟨l, o, d, mv, rfl, hmv, hn, h0, hd, h4, hs, hc, hG, hF⟩
    have hrow : RW J (rix t 0) l := hG.2.1 0 (by omega)
    have hlen := hrow.len
    have hrow' := hrow
    rw [rix_0] at hrow
    unfold f_G_dropLetters_w4
    dsimp only
    rw [w32_of (x := (mv : Int)) (by omega) (by omega), if_pos (by omega), w32_of (x := d) (by omega) (by omega)]
    by_cases q : d ≤ 0
    · rw [if_neg (by omega)]
      rw [cutF_0 q] at hc
      refine tr_ret ⟨?_, hF⟩
      rw [← hc]
      exact hG
    · have hne : l ≠ [] := by
        rintro rfl
        rw [ll_nil] at hd
        omega
      have hge := ll_ge (L := gL g) (l := l) (fun x hx => (w.sl1 (hs x hx)).1)
      have hpos := List.length_pos_iff.mpr hne
      obtain ⟨n, rfl⟩ : ∃ k : Nat, n = k + 1 := ⟨n - 1, by omega⟩
      obtain ⟨x, ex, hx, -, e1, e2, e3⟩ := cut_move w hne hs
      have hsx := w.sl1 hx
      have hxr : 0 ≤ x ∧ x < 66 := ⟨hx.1, hx.2.1⟩
      rw [cutF, if_neg q, ← ex] at hc
      rw [if_pos (by omega), hrow.2.1, w32_of (x := (l.length : Int)) (by omega) (by omega), if_pos (by omega), show (l.length : Int) - 1 = ((l.length - 1 : Nat) : Int) by omega, row_at hrow (by omega), bnd_some, ← ex]
      refine tr_call (t_drop hrow (a := 1) (by omega)) ?_
      rintro _ J1 ⟨r1, f1⟩
      have hG1 := hG.row (i := 0) (by omega) r1 f1
      have hL1 : gL (gsR (gsA (gsR g 0 l) 8 (gA g 8 + o)) 0 (l.take (l.length - 1))) = gL g := rfl
      have F1 := hF.trans (f1.mono (FR_FG (t := t) (i := 0) (by omega)))
      rw [g_lengthOf hG1 hxr, bnd_some, hL1, w32_of (x := sl (gL g) x) (by omega) (by omega)]
      by_cases q2 : sl (gL g) x ≤ d
      · rw [if_neg (by omega), g_lengthOf hG1 hxr, bnd_some, hL1]
        rw [if_pos q2] at hc
        refine tr_ret ⟨n, by omega, l.take (l.length - 1), o, d - sl (gL g) x, mv + 1, rfl, by omega, by omega, by omega, by omega, by omega, e2, hc, hG1.congr (fun i _ => ?_) rfl (fun _ _ => rfl) (fun _ _ => rfl) (fun _ _ => rfl), F1⟩
        show up (gR g) 0 (l.take (l.length - 1)) i = up (up (gR g) 0 l) 0 (l.take (l.length - 1)) i
        by_cases e : i = 0
        · subst e; rw [up_self, up_self]
        · rw [up_ne e, up_ne e, up_ne e]
      · obtain ⟨b1, b2, b3, b4, b5, b6, -⟩ := cut_body w hx (by omega)
        rw [if_neg q2] at hc
        have hb := hG1.2.1 ((x - 26).toNat + 1) (by omega)
        have hbe : gR (gsR (gsA (gsR g 0 l) 8 (gA g 8 + o)) 0 (l.take (l.length - 1))) ((x - 26).toNat + 1) = gR g ((x - 26).toNat + 1) := by
          show up (up (gR g) 0 l) 0 (l.take (l.length - 1)) ((x - 26).toNat + 1) = _
          rw [up_ne (by omega), up_ne (by omega)]
        rw [hbe] at hb
        have hbl := ll_ge (L := gL g) (l := gR g ((x - 26).toNat + 1)) (fun y hy => (w.sl1 (b5 y hy)).1)
        have htl := ll_ge (L := gL g) (l := l.take (l.length - 1)) (fun y hy => (w.sl1 (e2 y hy)).1)
        have hx2 : x - 26 = (((x - 26).toNat : Nat) : Int) := by omega
        have hxb : f_G_body t (x - 26) J1 = some (rix t ((x - 26).toNat + 1), J1) := by
          rw [g_bodyI ht (by omega) (by omega), if_pos (by omega)]
        rw [if_pos (by omega), hxb, bnd_some, if_pos hb.1]
        refine tr_call (t_putAll r1 hb (fun e => by have := rix_inj (t := t) (i := (x - 26).toNat + 1) (j := 0) e; omega) (by omega)) ?_
        rintro _ J2 ⟨r2, f2⟩
        have hG2 := hG1.row (i := 0) (by omega) r2 f2
        refine tr_call (t_addTo hG2 (j := 8) (by decide) 1) ?_
        rintro _ J3 ⟨hG3, f3⟩
        refine tr_ret ⟨n, by omega, l.take (l.length - 1) ++ gR g ((x - 26).toNat + 1), o + 1, d, mv + 1, rfl, by omega, by rw [ll_app, b4, List.length_append]; omega, h0, by rw [ll_app, b4]; omega, by rw [ll_app, b4]; omega, fun y hy => ?_, hc, hG3.congr (fun i _ => ?_) rfl (fun _ _ => rfl) (fun i _ => ?_) (fun _ _ => rfl), (F1.trans (f2.mono (FR_FG (t := t) (i := 0) (by omega)))).trans f3⟩
        · rcases List.mem_append.mp hy with z | z
          · exact e2 y z
          · exact b5 y z
        · show up (gR g) 0 _ i = up (up (up (gR g) 0 l) 0 (l.take (l.length - 1))) 0 (l.take (l.length - 1) ++ gR g ((x - 26).toNat + 1)) i
          by_cases e : i = 0
          · subst e; rw [up_self, up_self]
          · rw [up_ne e, up_ne e, up_ne e, up_ne e]
        · show up (gA g) 8 (gA g 8 + (o + 1)) i = up (up (gA g) 8 (gA g 8 + o)) 8 (up (gA g) 8 (gA g 8 + o) 8 + 1) i
          by_cases e : i = 8
          · subst e; rw [up_self, up_self, up_self]; omega
          · rw [up_ne e, up_ne e, up_ne e]
  · show up (gR g) 0 (gR g 0) i = gR g i
    by_cases e : i = 0
    · subst e; rw [up_self]
    · rw [up_ne e]
  · show up (gA g) 8 (gA g 8 + 0) i = gA g i
    by_cases e : i = 8
    · subst e; rw [up_self, Int.add_zero]
    · rw [up_ne e]
  rintro _ J1 ⟨h2, f2⟩
  refine tr_call (t_drop h2.2.2.1 (a := m) (by omega)) ?_
  rintro _ J2 ⟨r3, f3⟩
  have h3 := h2.told r3 f3
  refine tr_call (t_addTo h3 (j := 7) (by decide) m) ?_
  rintro _ J3 ⟨h4, f4⟩
  exact tr_ret ⟨h4, (f2.trans (f3.mono FR_FG1)).trans f4⟩
