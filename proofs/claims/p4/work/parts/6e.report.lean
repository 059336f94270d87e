/-! ===== report ===== -/
def numB (n : Int) : List Int := (if 9 < n then [48 + idv n 10] else []) ++ [48 + irm n 10]
def symB (x : Int) : List Int := if x < 26 then [97 + x] else [40] ++ numB (x - 26) ++ [41]
def rowN (l : List Int) : Nat → List Int
  | 0 => []
  | n + 1 => rowN l n ++ symB (l.getD n (-1))
def rulB (g : GS) (r : Nat) : List Int := if gR g (r + 1) = [] then [] else [32] ++ numB (r : Int) ++ [61] ++ rowN (gR g (r + 1)) (gR g (r + 1)).length
def repN (g : GS) : Nat → List Int
  | 0 => rowN (gR g 0) (gR g 0).length
  | n + 1 => repN g n ++ rulB g n
/-- bytes of a report -/
def B7 (l : List Int) : Prop := ∀ b ∈ l, 0 ≤ b ∧ b < 128
theorem B7.app {l m : List Int} (h : B7 l) (k : B7 m) : B7 (l ++ m) := fun b hb => (List.mem_append.mp hb).elim (h b) (k b)
theorem B7.one {b : Int} (h : 0 ≤ b ∧ b < 128) : B7 [b] := fun x hx => by rw [List.mem_singleton.mp hx]; exact h
theorem B7.nil : B7 [] := fun _ hx => absurd hx List.not_mem_nil
theorem idv10 (p : Nat) (hp : p < 1000000) : idv (p : Int) 10 = ((p / 10 : Nat) : Int) := by
  unfold idv
  rw [w32_of (x := (p : Int)) (by omega) (by omega), w32_of (x := 10) (by decide) (by decide)]
  exact (Int.tdiv_eq_ediv_of_nonneg (by omega)).trans (by omega)
theorem irm10 (p : Nat) (hp : p < 1000000) : irm (p : Int) 10 = ((p % 10 : Nat) : Int) := by
  unfold irm
  rw [idv10 p hp]
  omega
theorem i2b_ok : ∀ v : Nat, v < 128 → i2b (v : Int) = (v : Int) := by decide +kernel
theorem numB_ok {n : Nat} (hn : n < 100) : B7 (numB (n : Int)) ∧ (numB (n : Int)).length ≤ 2 := by
  unfold numB
  rw [idv10 n (by omega), irm10 n (by omega)]
  by_cases q : 9 < (n : Int)
  · rw [if_pos q]
    exact ⟨(B7.one (by omega)).app (B7.one (by omega)), Nat.le_refl 2⟩
  · rw [if_neg q]
    exact ⟨B7.nil.app (B7.one (by omega)), by show 1 ≤ 2; omega⟩
theorem symB_ok {x : Int} (hx : 0 ≤ x ∧ x < 66) : B7 (symB x) ∧ (symB x).length ≤ 4 := by
  unfold symB
  by_cases q : x < 26
  · rw [if_pos q]
    exact ⟨B7.one (by omega), by show 1 ≤ 4; omega⟩
  · rw [if_neg q]
    obtain ⟨n, hn⟩ : ∃ n : Nat, x - 26 = (n : Int) := ⟨(x - 26).toNat, by omega⟩
    have hk := numB_ok (n := n) (by omega)
    rw [hn]
    refine ⟨((B7.one (by decide)).app hk.1).app (B7.one (by decide)), ?_⟩
    rw [List.length_append, List.length_append]
    show 1 + (numB (n : Int)).length + 1 ≤ 4
    omega
theorem rowN_ok {l : List Int} (hs : SY l) : ∀ n : Nat, n ≤ l.length → B7 (rowN l n) ∧ (rowN l n).length ≤ 4 * n
  | 0, _ => ⟨B7.nil, Nat.le_refl 0⟩
  | n + 1, h => by
    have ih := rowN_ok hs n (by omega)
    have hk := symB_ok (hs.at (j := n) (by omega))
    refine ⟨ih.1.app hk.1, ?_⟩
    show (rowN l n ++ symB (l.getD n (-1))).length ≤ _
    rw [List.length_append]
    omega
theorem rulB_ok {g : GS} (w : WF g) {r : Nat} (hr : r < 40) : B7 (rulB g r) ∧ (rulB g r).length ≤ 1604 := by
  unfold rulB
  by_cases q : gR g (r + 1) = []
  · rw [if_pos q]; exact ⟨B7.nil, Nat.zero_le _⟩
  · rw [if_neg q]
    have hk := numB_ok (n := r) (by omega)
    have hl := w.len400 (r + 1) (by omega)
    have hw := rowN_ok (w.sy (i := r + 1) (by omega)) _ (Nat.le_refl _)
    refine ⟨(((B7.one (by decide)).app hk.1).app (B7.one (by decide))).app hw.1, ?_⟩
    rw [List.length_append, List.length_append, List.length_append]
    show 1 + (numB (r : Int)).length + 1 + _ ≤ 1604
    omega
theorem repN_ok {g : GS} (w : WF g) : ∀ n : Nat, n ≤ 40 → B7 (repN g n) ∧ (repN g n).length ≤ 1600 + 1604 * n
  | 0, _ => by
    have hl := w.len400 0 (by decide)
    have hw := rowN_ok (w.sy (i := 0) (by decide)) _ (Nat.le_refl _)
    exact ⟨hw.1, by show (rowN (gR g 0) (gR g 0).length).length ≤ _; omega⟩
  | n + 1, h => by
    have ih := repN_ok w n (by omega)
    have hk := rulB_ok w (r := n) (by omega)
    refine ⟨ih.1.app hk.1, ?_⟩
    show (repN g n ++ rulB g n).length ≤ _
    rw [List.length_append]
    omega
section REP
variable {I J : Mem} {g g' : GS} {ps : List GS} {kp : Nat → Option GS} {bs rp : List Int} {s : SS}
abbrev FRp : FP := fun k i _ => (k = 25 ∧ i = 0) ∨ (k = 10 ∧ i = 0)
theorem Fm.grwP {n many : Int} (h1 : 1 ≤ n - I 10 0 2) (h2 : n ≤ 3 * (n - I 10 0 2)) (hn : 0 ≤ n) : Fm FRp I (grw I 25 10 0 n many) := by
  refine ⟨fun a b c h30 hnF => ?_, ?_⟩
  · unfold grw
    rw [if_neg (fun q => by obtain ⟨rfl, rfl⟩ := q; exact hnF (Or.inl ⟨rfl, rfl⟩)), if_neg (fun q => by obtain ⟨rfl, rfl, rfl⟩ := q; exact hnF (Or.inr ⟨rfl, rfl⟩)), if_neg (fun q => h30 q.1), if_neg (fun q => h30 q.1)]
  · have e0 : grw I 25 10 0 n many 30 0 0 = I 30 0 0 + 1 := by simp [grw]
    have e1 : grw I 25 10 0 n many 30 0 1 = I 30 0 1 + n := by simp [grw]
    have e2 : Cap (grw I 25 10 0 n many) = Cap I + (n - I 10 0 2) := by
      unfold Cap
      rw [show (fun r : Nat => grw I 25 10 0 n many 2 r 2) = fun r => I 2 r 2 from funext (fun r => by simp [grw])]
      simp [grw]
      omega
    unfold Gr
    omega
theorem t_rput0 (h : RpC I rp) (hf : (rp.length : Int) < I 10 0 2) {b : Int} (hb : 0 ≤ b ∧ b < 128) (hl : rp.length < 70000) : Tr (f_Rep_put_j51 b I) (fun _ J => RpC J (rp ++ [b]) ∧ Fm FRp I J) := by
  obtain ⟨h1, h2, h3, h4⟩ := h
  obtain ⟨v, rfl⟩ : ∃ v : Nat, b = (v : Int) := ⟨b.toNat, by omega⟩
  have hc : 0 ≤ I 10 0 2 ∧ I 10 0 2 ≤ 131072 := by unfold capR at h3; omega
  have wl : w32 (rp.length : Int) = rp.length := w32_of (by omega) (by omega)
  unfold f_Rep_put_j51
  rw [if_pos hc.1, h1, wl, w32_of (x := I 10 0 2) (by omega) (by omega), if_pos hf, if_pos ⟨by omega, hf⟩, Int.toNat_natCast, i2b_ok v (by omega)]
  try dsimp only [ltI]
  rw [sI_ne (by omega), h1]
  refine tr_ret ⟨⟨by rw [sI_self, List.length_append]; rfl, ?_, ?_, fun j hj => ?_⟩, (Fm.sI (by decide) (by omega) (by omega) (Or.inl ⟨rfl, rfl⟩)).trans (Fm.sI (by decide) (by omega) (by omega) (Or.inr ⟨rfl, rfl⟩))⟩
  · rw [sI_ne (by omega), sI_ne (by omega), List.length_append]
    show ((rp.length + 1 : Nat) : Int) ≤ _
    omega
  · rw [sI_ne (by omega), sI_ne (by omega)]; exact h3
  · rw [List.length_append] at hj
    have hj : j < rp.length + 1 := hj
    rw [sI_ne (by omega)]
    by_cases q : j = rp.length
    · subst q
      rw [sI_self, gd_r (Nat.le_refl _), Nat.sub_self]
      rfl
    · rw [sI_ne (by omega), gd_l (by omega)]
      exact h4 j (by omega)
theorem t_rput (h : RpC I rp) (h7 : B7 rp) {b : Int} (hb : 0 ≤ b ∧ b < 128) (hl : rp.length < 70000) : Tr (f_Rep_put b I) (fun _ J => RpC J (rp ++ [b]) ∧ Fm FRp I J) := by
  obtain ⟨h1, h2, h3, h4⟩ := id h
  have hc : 64 ≤ I 10 0 2 ∧ I 10 0 2 ≤ 131072 := by unfold capR at h3; omega
  have wl : w32 (rp.length : Int) = rp.length := w32_of (by omega) (by omega)
  unfold f_Rep_put
  rw [if_pos (by omega), h1, wl, w32_of (x := I 10 0 2) (by omega) (by omega)]
  by_cases q : (rp.length : Int) < I 10 0 2
  · rw [if_pos q]
    exact t_rput0 h q hb hl
  · have hc2 : I 10 0 2 ≤ 65536 := by unfold capR at h3; omega
    have hrng : ∀ s : Nat, s < ((rp.length : Int)).toNat → -128 ≤ I 25 0 s ∧ I 25 0 s < 128 := fun s hs => by
      rw [h4 s (by omega)]
      have := h7 _ (gd_mem (d := 0) (show s < rp.length by omega))
      omega
    rw [if_neg q, if_pos (by omega), w32_of (x := 2 * I 10 0 2) (by omega) (by omega), if_pos ⟨by omega, by omega, by omega, by omega, by omega, hrng⟩]
    · try dsimp only [ltI]
      have f := Fm.grwP (I := I) (n := 2 * I 10 0 2) (many := (rp.length : Int)) (by omega) (by omega) (by omega)
      have e1 : grw I 25 10 0 (2 * I 10 0 2) (rp.length : Int) 10 0 1 = (rp.length : Int) := by simp [grw]; exact h1
      have e2 : grw I 25 10 0 (2 * I 10 0 2) (rp.length : Int) 10 0 2 = 2 * I 10 0 2 := by simp [grw]
      have e3 : ∀ j : Nat, j < rp.length → grw I 25 10 0 (2 * I 10 0 2) (rp.length : Int) 25 0 j = rp.getD j 0 := fun j hj => by
        rw [← h4 j hj]
        unfold grw
        rw [if_pos ⟨rfl, rfl⟩, if_pos (by omega)]
      generalize grw I 25 10 0 (2 * I 10 0 2) (rp.length : Int) = J at f e1 e2 e3
      refine tr_mono (t_rput0 (rp := rp) ⟨e1, by rw [e2]; omega, by rw [e2]; unfold capR at h3 ⊢; omega, e3⟩ (by rw [e2]; omega) hb hl) ?_
      rintro _ K ⟨rk, f2⟩
      exact ⟨rk, f.trans f2⟩
theorem t_rnum (h : RpC I rp) (h7 : B7 rp) {n : Nat} (hn : n < 100) (hl : rp.length < 69990) : Tr (f_Rep_putNumber (n : Int) I) (fun _ J => RpC J (rp ++ numB (n : Int)) ∧ Fm FRp I J) := by
  have hi := idv10 n (by omega)
  have hm := irm10 n (by omega)
  have key : ∀ (rp : List Int) (I : Mem), RpC I rp → B7 rp → rp.length < 70000 → Tr (f_Rep_putNumber_j17 (n : Int) I) (fun _ J => RpC J (rp ++ [48 + irm (n : Int) 10]) ∧ Fm FRp I J) := by
    intro rp I h h7 hl
    unfold f_Rep_putNumber_j17
    refine tr_call (t_rput h h7 (b := 48 + irm (n : Int) 10) (by omega) hl) ?_
    rintro _ J z
    exact tr_ret z
  unfold f_Rep_putNumber numB
  rw [w32_of (x := (n : Int)) (by omega) (by omega)]
  by_cases q : 9 < (n : Int)
  · rw [if_pos q, if_pos q]
    refine tr_call (t_rput h h7 (b := 48 + idv (n : Int) 10) (by omega) (by omega)) ?_
    rintro _ J ⟨rk, f⟩
    refine tr_mono (key _ J rk (h7.app (B7.one (by omega))) (by rw [List.length_append]; show rp.length + 1 < 70000; omega)) ?_
    rintro _ K ⟨rk2, f2⟩
    rw [← List.append_assoc]
    exact ⟨rk2, f.trans f2⟩
  · rw [if_neg q, if_neg q]
    exact key rp I h h7 (by omega)
theorem RW.frp {r : Nat} {l : List Int} (h : RW I r l) (f : Fm FRp I J) : RW J r l := h.fm f (fun k s hk z => by unfold FRp at z; omega)
theorem t_rrow (h : RpC I rp) (h7 : B7 rp) {r : Nat} {l : List Int} (hr : RW I r l) (hs : SY l) (hl : rp.length + 1604 < 69990) : Tr (f_Rep_putRow r I) (fun _ J => RpC J (rp ++ rowN l l.length) ∧ Fm FRp I J) := by
  have hll := hr.len
  unfold f_Rep_putRow
  rw [if_pos hr.1]
  refine tr_call (P := fun _ J => RpC J (rp ++ rowN l l.length) ∧ Fm FRp I J) (tr_cnt (fun k => (k : Int)) (fun k J => RpC J (rp ++ rowN l k) ∧ Fm FRp I J) l.length rfl ⟨by rw [show rowN l 0 = [] from rfl, List.append_nil]; exact h, Fm.refl _ _⟩ ?_ ?_) (fun _ _ q => tr_ret q)
  · rintro k J hk ⟨rk, f⟩
    have ro := rowN_ok hs k (by omega)
    have rj := hr.frp f
    have sx := hs.at hk
    have b7 : B7 (rp ++ rowN l k) := h7.app ro.1
    have hlen : (rp ++ rowN l k).length < 69985 := by rw [List.length_append]; omega
    have es : rp ++ rowN l (k + 1) = rp ++ rowN l k ++ symB (l.getD k (-1)) := by rw [List.append_assoc]; rfl
    unfold f_Rep_putRow_w2
    rw [w32_of (x := (k : Int)) (by omega) (by omega), rj.2.1, w32_of (x := (l.length : Int)) (by omega) (by omega), if_pos (by omega), row_at rj (by omega), bnd_some, w32_of (x := l.getD k (-1)) (by omega) (by omega)]
    by_cases q : l.getD k (-1) < 26
    · rw [if_pos q]
      refine tr_call (t_rput rk b7 (b := 97 + l.getD k (-1)) (by omega) (by omega)) ?_
      rintro _ K ⟨rk2, f2⟩
      refine tr_ret ⟨by rw [Int.natCast_succ], ?_, f.trans f2⟩
      rw [es]
      unfold symB
      rw [if_pos q]
      exact rk2
    · rw [if_neg q]
      obtain ⟨n, hn⟩ : ∃ n : Nat, l.getD k (-1) - 26 = (n : Int) := ⟨(l.getD k (-1) - 26).toNat, by omega⟩
      have nb := numB_ok (n := n) (by omega)
      refine tr_call (t_rput rk b7 (b := 40) (by decide) (by omega)) ?_
      rintro _ K1 ⟨rk1, f1⟩
      rw [hn]
      refine tr_call (t_rnum rk1 (b7.app (B7.one (by decide))) (n := n) (by omega) (by rw [List.length_append]; show _ + 1 < 69990; omega)) ?_
      rintro _ K2 ⟨rk2, f2⟩
      refine tr_call (t_rput rk2 ((b7.app (B7.one (by decide))).app nb.1) (b := 41) (by decide) (by rw [List.length_append, List.length_append]; show _ + 1 + _ < 70000; omega)) ?_
      rintro _ K3 ⟨rk3, f3⟩
      refine tr_ret ⟨by rw [Int.natCast_succ], ?_, f.trans (f1.trans (f2.trans f3))⟩
      rw [es]
      unfold symB
      rw [if_neg q, hn]
      rw [← List.append_assoc, ← List.append_assoc]
      exact rk3
  · rintro J ⟨rk, f⟩
    have rj := hr.frp f
    unfold f_Rep_putRow_w2
    rw [rj.2.1, if_neg (Int.lt_irrefl _)]
    exact tr_ret ⟨rk, f⟩
theorem t_writeOf (h : SC I (g, ps, kp, bs, rp)) (w : WF g) : Tr (f_Rep_writeOf 0 I) (fun _ J => SC J (g, ps, kp, bs, repN g 40) ∧ Fm FCl I J) := by
  obtain ⟨a1, a2, a3, a4, a5, a6, r1, r2, r3, r4⟩ := h
  have f0 : Fm FRp I (sI I 10 0 1 0) := Fm.sI (by decide) (by omega) (by omega) (Or.inr ⟨rfl, rfl⟩)
  have hr0 : RpC (sI I 10 0 1 0) [] := ⟨sI_self _ _ _ _ _, by rw [sI_ne (by decide)]; show (0 : Int) ≤ _; unfold capR at r3; omega, by rw [sI_ne (by decide)]; exact r3, fun j hj => absurd hj (Nat.not_lt_zero j)⟩
  have gcf : ∀ J : Mem, Fm FRp I J → GC J 0 g := fun J f => a1.fm f (fun k i s z q => by unfold FG at z; unfold FRp at q; omega)
  have fin : ∀ J : Mem, Fm FRp I J → RpC J (repN g 40) → SC J (g, ps, kp, bs, repN g 40) ∧ Fm FCl I J := fun J f hr => ⟨⟨gcf J f, a2.fm f (fun t _ k i s z q => by unfold FG at z; unfold FRp at q; omega), a3.fm f (fun i s => ⟨fun z => by unfold FRp at z; omega, fun z => by unfold FRp at z; omega⟩), a4.fm f (fun s z => by unfold FRp at z; omega) (fun t _ _ k i s z q => by unfold FG at z; unfold FRp at q; omega), a5.fm f (fun s z => by unfold FRp at z; omega) (fun t _ _ k i s z q => by unfold FG at z; unfold FRp at q; omega), a6.fm f (fun z => by unfold FRp at z; omega) (fun s z => by unfold FRp at z; omega), hr⟩, f.mono (fun a b c z => by unfold FRp at z; unfold FCl; omega)⟩
  unfold f_Rep_writeOf
  rw [if_pos (by decide)]
  try dsimp only [ltI]
  refine tr_call (t_rrow hr0 B7.nil (r := 43 * 0) ((gcf _ f0).2.1 0 (by decide)) (w.sy (by decide)) (by decide)) ?_
  rintro _ J1 ⟨rk1, f1⟩
  refine tr_call (P := fun _ J => RpC J (repN g 40) ∧ Fm FRp I J) (tr_cnt (fun k => (k : Int)) (fun k J => RpC J (repN g k) ∧ Fm FRp I J) 40 rfl ⟨rk1, f0.trans f1⟩ ?_ ?_) ?_
  · rintro k J hk ⟨rk, f⟩
    have gc := gcf J f
    have ro := repN_ok w k (by omega)
    unfold f_Rep_writeOf_w15
    rw [w32_of (x := (k : Int)) (by omega) (by omega), if_pos (by omega), g_hasRule gc hk, bnd_some]
    by_cases q : gR g (k + 1) = []
    · rw [bI_neg (fun z => z q), if_pos (by decide)]
      refine tr_ret ⟨by rw [Int.natCast_succ], ?_, f⟩
      show RpC J (repN g k ++ rulB g k)
      unfold rulB
      rw [if_pos q, List.append_nil]
      exact rk
    · rw [bI_pos q, if_neg (by decide)]
      have nb := numB_ok (n := k) (by omega)
      refine tr_call (t_rput rk ro.1 (b := 32) (by decide) (by omega)) ?_
      rintro _ K1 ⟨rk1, f1⟩
      refine tr_call (t_rnum rk1 (ro.1.app (B7.one (by decide))) (n := k) (by omega) (by rw [List.length_append]; show _ + 1 < 69990; omega)) ?_
      rintro _ K2 ⟨rk2, f2⟩
      refine tr_call (t_rput rk2 ((ro.1.app (B7.one (by decide))).app nb.1) (b := 61) (by decide) (by rw [List.length_append, List.length_append]; show _ + 1 + _ < 70000; omega)) ?_
      rintro _ K3 ⟨rk3, f3⟩
      have f03 := f.trans (f1.trans (f2.trans f3))
      rw [g_body (by decide) hk, bnd_some, if_pos (rix_lt (by decide) (by omega))]
      refine tr_call (t_rrow rk3 (((ro.1.app (B7.one (by decide))).app nb.1).app (B7.one (by decide))) ((gcf K3 f03).2.1 (k + 1) (by omega)) (w.sy (by omega)) (by rw [List.length_append, List.length_append, List.length_append]; show _ + 1 + _ + 1 + 1604 < 69990; omega)) ?_
      rintro _ K4 ⟨rk4, f4⟩
      refine tr_ret ⟨by rw [Int.natCast_succ], ?_, f03.trans f4⟩
      show RpC K4 (repN g k ++ rulB g k)
      unfold rulB
      rw [if_neg q, ← List.append_assoc, ← List.append_assoc, ← List.append_assoc]
      exact rk4
  · rintro J z
    unfold f_Rep_writeOf_w15
    rw [if_neg (by decide)]
    exact tr_ret z
  · rintro _ J ⟨rk, f⟩
    exact tr_ret (fin J f rk)
abbrev FMw : FP := fun k i s => (k = 27 ∧ i = 22) ∨ (k = 26 ∧ s = 43)
theorem t_mput (h : RpM I rp) (b : Int) (hl : rp.length < 70000) : Tr (f_M_writes b I) (fun _ J => RpM J (rp ++ [b]) ∧ Fm FMw I J) := by
  obtain ⟨h1, h4⟩ := h
  unfold f_M_writes
  rw [h1, w32_of (x := (rp.length : Int)) (by omega) (by omega), if_pos (by omega), Int.toNat_natCast]
  try dsimp only [ltI]
  rw [sI_ne (by omega), h1]
  refine tr_ret ⟨⟨by rw [sI_self, List.length_append]; rfl, fun j hj => ?_⟩, (Fm.sI (by decide) (by omega) (by omega) (Or.inl ⟨rfl, rfl⟩)).trans (Fm.sI (by decide) (by omega) (by omega) (Or.inr ⟨rfl, rfl⟩))⟩
  rw [List.length_append] at hj
  have hj : j < rp.length + 1 := hj
  rw [sI_ne (by omega)]
  by_cases q : j = rp.length
  · subst q
    rw [sI_self, gd_r (Nat.le_refl _), Nat.sub_self]
    rfl
  · rw [sI_ne (by omega), gd_l (by omega)]
    exact h4 j (by omega)
theorem t_mnum (h : RpM I rp) {n : Nat} (hn : n < 100) (hl : rp.length < 69990) : Tr (f_M_writesNumber (n : Int) I) (fun _ J => RpM J (rp ++ numB (n : Int)) ∧ Fm FMw I J) := by
  have key : ∀ (rp : List Int) (I : Mem), RpM I rp → rp.length < 70000 → Tr (f_M_writesNumber_j17 (n : Int) I) (fun _ J => RpM J (rp ++ [48 + irm (n : Int) 10]) ∧ Fm FMw I J) := by
    intro rp I h hl
    unfold f_M_writesNumber_j17
    refine tr_call (t_mput h (48 + irm (n : Int) 10) hl) ?_
    rintro _ J z
    exact tr_ret z
  unfold f_M_writesNumber numB
  rw [w32_of (x := (n : Int)) (by omega) (by omega)]
  by_cases q : 9 < (n : Int)
  · rw [if_pos q, if_pos q]
    refine tr_call (t_mput h (48 + idv (n : Int) 10) (by omega)) ?_
    rintro _ J ⟨rk, f⟩
    refine tr_mono (key _ J rk (by rw [List.length_append]; show rp.length + 1 < 70000; omega)) ?_
    rintro _ K ⟨rk2, f2⟩
    rw [← List.append_assoc]
    exact ⟨rk2, f.trans f2⟩
  · rw [if_neg q, if_neg q]
    exact key rp I h (by omega)
theorem t_mrow (h : RpM I rp) (gw : GW I g) (w : WF g) {i : Nat} (hi : i < 41) (hl : rp.length + 1604 < 69990) : Tr (f_M_writesRow (i : Int) I) (fun _ J => RpM J (rp ++ rowN (gR g i) (gR g i).length) ∧ Fm FMw I J) := by
  have hll := w.len400 i hi
  have hs := w.sy hi
  have gwf : ∀ J : Mem, Fm FMw I J → GW J g := fun J f => gw.fm f (fun s _ z => by unfold FMw at z; omega)
  unfold f_M_writesRow
  refine tr_call (P := fun _ J => RpM J (rp ++ rowN (gR g i) (gR g i).length) ∧ Fm FMw I J) (tr_cnt (fun k => (k : Int)) (fun k J => RpM J (rp ++ rowN (gR g i) k) ∧ Fm FMw I J) (gR g i).length rfl ⟨by rw [show rowN (gR g i) 0 = [] from rfl, List.append_nil]; exact h, Fm.refl _ _⟩ ?_ ?_) (fun _ _ q => tr_ret q)
  · rintro k J hk ⟨rk, f⟩
    have ro := rowN_ok hs k (by omega)
    have gj := gwf J f
    have sx := hs.at hk
    have hlen : (rp ++ rowN (gR g i) k).length < 69985 := by rw [List.length_append]; omega
    have es : rp ++ rowN (gR g i) (k + 1) = rp ++ rowN (gR g i) k ++ symB ((gR g i).getD k (-1)) := by rw [List.append_assoc]; rfl
    unfold f_M_writesRow_w2
    rw [m_many gj hi, bnd_some, w32_of (x := (k : Int)) (by omega) (by omega), w32_of (x := ((gR g i).length : Int)) (by omega) (by omega), if_pos (by omega), m_at gj hi hk, bnd_some, w32_of (x := (gR g i).getD k (-1)) (by omega) (by omega)]
    by_cases q : (gR g i).getD k (-1) < 26
    · rw [if_pos q]
      refine tr_call (t_mput rk (97 + (gR g i).getD k (-1)) (by omega)) ?_
      rintro _ K ⟨rk2, f2⟩
      refine tr_ret ⟨by rw [Int.natCast_succ], ?_, f.trans f2⟩
      rw [es]
      unfold symB
      rw [if_pos q]
      exact rk2
    · rw [if_neg q]
      obtain ⟨n, hn⟩ : ∃ n : Nat, (gR g i).getD k (-1) - 26 = (n : Int) := ⟨((gR g i).getD k (-1) - 26).toNat, by omega⟩
      have nb := numB_ok (n := n) (by omega)
      refine tr_call (t_mput rk 40 (by omega)) ?_
      rintro _ K1 ⟨rk1, f1⟩
      rw [hn]
      refine tr_call (t_mnum rk1 (n := n) (by omega) (by rw [List.length_append]; show _ + 1 < 69990; omega)) ?_
      rintro _ K2 ⟨rk2, f2⟩
      refine tr_call (t_mput rk2 41 (by rw [List.length_append, List.length_append]; show _ + 1 + _ < 70000; omega)) ?_
      rintro _ K3 ⟨rk3, f3⟩
      refine tr_ret ⟨by rw [Int.natCast_succ], ?_, f.trans (f1.trans (f2.trans f3))⟩
      rw [es]
      unfold symB
      rw [if_neg q, hn]
      rw [← List.append_assoc, ← List.append_assoc]
      exact rk3
  · rintro J ⟨rk, f⟩
    unfold f_M_writesRow_w2
    rw [m_many (gwf J f) hi, bnd_some, if_neg (Int.lt_irrefl _)]
    exact tr_ret ⟨rk, f⟩
theorem og_34 (h : SI I s) : OGI f_PR_report f_M_report I := by
  obtain ⟨g, ps, kp, bs, rp⟩ := s
  have w : WF g := h.2.2.1
  have rn := repN_ok w 40 (Nat.le_refl _)
  refine og_I (s' := (g, ps, kp, bs, repN g 40)) (u := w32 ((repN g 40).length : Int)) h ⟨w, h.2.2.2.1, h.2.2.2.2.1, h.2.2.2.2.2.1, by show (repN g 40).length < 70000; omega, rn.1⟩ ?_ (fun J sm => m_endI ?_)
  · unfold f_PR_report
    refine tr_call (t_writeOf h.1 w) ?_
    rintro _ K ⟨sc, f⟩
    have e : K 10 0 1 = ((repN g 40).length : Int) := sc.2.2.2.2.2.2.1
    rw [e]
    exact tr_ret ⟨rfl, sc, f⟩
  · have s0 := sm.t7 (v := 0)
    unfold f_M_report
    try dsimp only [ltI]
    generalize sI J 26 0 7 0 = J0 at s0
    have f0 : Fm FMw J0 (sI J0 26 0 43 0) := Fm.sI (by decide) (by omega) (by omega) (Or.inr ⟨rfl, rfl⟩)
    have hr0 : RpM (sI J0 26 0 43 0) [] := ⟨sI_self _ _ _ _ _, fun j hj => absurd hj (Nat.not_lt_zero j)⟩
    have gwf : ∀ K : Mem, Fm FMw J0 K → GW K g := fun K f => s0.1.fm f (fun s _ z => by unfold FMw at z; omega)
    refine tr_call (t_mrow hr0 (gwf _ f0) w (i := 0) (by decide) (by decide)) ?_
    rintro _ J1 ⟨rk1, f1⟩
    refine tr_call (P := fun _ K => RpM K (repN g 40) ∧ Fm FMw J0 K) (tr_cnt (fun k => (k : Int)) (fun k K => RpM K (repN g k) ∧ Fm FMw J0 K) 40 rfl ⟨rk1, f0.trans f1⟩ ?_ ?_) ?_
    · rintro k K hk ⟨rk, f⟩
      have gk := gwf K f
      have ro := repN_ok w k (by omega)
      unfold f_M_report_w17
      rw [w32_of (x := (k : Int)) (by omega) (by omega), if_pos (by omega), m_isHere gk hk, bnd_some]
      by_cases q : gR g (k + 1) = []
      · rw [bI_neg (fun z => z q), if_pos (by decide)]
        refine tr_ret ⟨by rw [Int.natCast_succ], ?_, f⟩
        show RpM K (repN g k ++ rulB g k)
        unfold rulB
        rw [if_pos q, List.append_nil]
        exact rk
      · rw [bI_pos q, if_neg (by decide)]
        have nb := numB_ok (n := k) (by omega)
        refine tr_call (t_mput rk 32 (by omega)) ?_
        rintro _ K1 ⟨rk1, f1⟩
        refine tr_call (t_mnum rk1 (n := k) (by omega) (by rw [List.length_append]; show _ + 1 < 69990; omega)) ?_
        rintro _ K2 ⟨rk2, f2⟩
        refine tr_call (t_mput rk2 61 (by rw [List.length_append, List.length_append]; show _ + 1 + _ < 70000; omega)) ?_
        rintro _ K3 ⟨rk3, f3⟩
        have f03 := f.trans (f1.trans (f2.trans f3))
        rw [show (k : Int) + 1 = ((k + 1 : Nat) : Int) from rfl]
        refine tr_call (t_mrow rk3 (gwf K3 f03) w (i := k + 1) (by omega) (by rw [List.length_append, List.length_append, List.length_append]; show _ + 1 + _ + 1 + 1604 < 69990; omega)) ?_
        rintro _ K4 ⟨rk4, f4⟩
        refine tr_ret ⟨rfl, ?_, f03.trans f4⟩
        show RpM K4 (repN g k ++ rulB g k)
        unfold rulB
        rw [if_neg q, ← List.append_assoc, ← List.append_assoc, ← List.append_assoc]
        exact rk4
    · rintro K z
      unfold f_M_report_w17
      rw [if_neg (by decide)]
      exact tr_ret z
    · rintro _ K ⟨rk, f⟩
      rw [rk.1]
      exact tr_ret ⟨rfl, ⟨gwf K f, s0.2.1.fm f (fun z => by unfold FMw at z; omega) (fun s z => by unfold FMw at z; omega), s0.2.2.1.fm f (fun s z => by unfold FMw at z; omega) (fun s z => by unfold FMw at z; omega), s0.2.2.2.1.fm f (fun z => by unfold FMw at z; omega) (fun s z => by unfold FMw at z; omega), rk⟩, f.mono (fun a b c z => by unfold FMw at z; unfold FMq; omega)⟩
end REP
