/-! ===== play: the class ===== -/
theorem tr_inr {σ ρ : Type} {P : σ → Mem → Prop} {Q : ρ → Mem → Prop} {r : ρ} {J : Mem} (h : Q r J) : Tr (some ((Sum.inr r : σ ⊕ ρ), J)) (LQ P Q) := tr_ret (show LQ P Q (.inr r) J from h)
theorem tr_inl {σ ρ : Type} {P : σ → Mem → Prop} {Q : ρ → Mem → Prop} {s : σ} {J : Mem} (h : P s J) : Tr (some ((Sum.inl s : σ ⊕ ρ), J)) (LQ P Q) := tr_ret (show LQ P Q (.inl s) J from h)
section CPLAY
variable {I J : Mem} {g g' : GS} {ps : List GS} {kp : Nat → Option GS} {bs rp : List Int} {E : List EN}
def TLc (I : Mem) (st : List (Nat × Int)) : Prop := ∀ x ∈ st, I 21 4 x.1 = x.2
abbrev FOr : FP := fun k i _ => k = 21 ∧ i = 4
theorem SCl.fo (h : SCl I E) (f : Fm FOr I J) : SCl J E := h.fm f (by unfold FOr; omega) (fun k i s z => by unfold FOr; omega)
theorem mem_enc {s : MS} (h : MOK E s) {x : Nat × Int} (hx : x ∈ s.2) : x.1 < s.1 := enc_lt s.1 x.1 (by rw [← h.2.1]; exact List.mem_map.mpr ⟨x, hx, rfl⟩)
theorem c_isEntryN (h : SCl I E) (hl : E.length ≤ 60) {k : Nat} (hk : E.length ≤ k) (h6 : k ≤ 100) : f_Scr_isEntry (k : Int) I = some (0, I) := by
  unfold f_Scr_isEntry
  rw [h.1, w32_of (x := (k : Int)) (by omega) (by omega), w32_of (x := (E.length : Int)) (by omega) (by omega), if_neg (by omega), if_neg (by omega)]
theorem c_turn {a b : Nat} {l : Int} (ha : a < 60) (hl : J 21 4 a = l) (h1 : -1000 ≤ l) (h2 : l ≤ 1000) : f_Scr_turn (a : Int) (b : Int) J = some ((if 0 < l then ((a + 1 : Nat) : Int) else ((b + 1 : Nat) : Int)), J) := by
  unfold f_Scr_turn
  rw [w32_of (x := (a : Int)) (by omega) (by omega), if_pos (by omega), Int.toNat_natCast, hl, w32_of (x := l) (by omega) (by omega)]
  by_cases q : 0 < l
  · rw [if_pos q, if_pos q]; rfl
  · rw [if_neg q, if_neg q]; rfl
theorem mst_12 {s : MS} (q : ew E s.1 = 12) : mst E s = if (eD E s.1).2.1 = 0 then (cl E s.1 + 1, s.2) else (s.1 + 1, (s.1, (eD E s.1).2.1) :: s.2) := by
  unfold mst
  rw [if_pos q]
theorem mst_13 {s : MS} (q : ew E s.1 = 13) {a : Nat} {l : Int} {t : List (Nat × Int)} (e : s.2 = (a, l) :: t) : mst E s = if 0 < l - 1 then (a + 1, (a, l - 1) :: t) else (s.1 + 1, t) := by
  unfold mst
  rw [if_neg (by omega), if_pos q, e]
theorem mst_no {s : MS} (q : ¬ (ew E s.1 = 12 ∨ ew E s.1 = 13)) : mst E s = (s.1 + 1, s.2) := by
  unfold mst
  rw [if_neg (fun z => q (Or.inl z)), if_neg (fun z => q (Or.inr z))]
theorem t_orderL (hF : FIN bs E) : ∀ (n : Nat) (s : MS) (m : Nat) (I : Mem), MOK E s → Mz E s < n → 441 * (m : Int) + Mz E s ≤ 12000000 → SCl I E → TLc I s.2 → Tr (whl f_Scr_orderFrom_w4 ((s.1 : Int), (m : Int)) I) (fun x K => x = (if (nx E n s).1 < E.length then ((nx E n s).1 : Int) else -1) ∧ TLc K (nx E n s).2 ∧ Fm FOr I K) := by
  intro n
  induction n with
  | zero => intro s m I h h1; have := Mz_nn hF h; omega
  | succ n ih =>
    intro s m I h h1 h2 hS hT
    have h60 := hF.1
    have hz := Mz_nn hF h
    have hk := h.1
    have next : ∀ (K : Mem) (x : Int), s.1 < E.length ∧ (ew E s.1 = 12 ∨ ew E s.1 = 13) → x = ((mst E s).1 : Int) → TLc K (mst E s).2 → Fm FOr I K → Tr (whl f_Scr_orderFrom_w4 (x, (m : Int) + 1) K) (fun x K => x = (if (nx E (n + 1) s).1 < E.length then ((nx E (n + 1) s).1 : Int) else -1) ∧ TLc K (nx E (n + 1) s).2 ∧ Fm FOr I K) := by
      rintro K x hq rfl hT' f
      have e1 : nx E (n + 1) s = nx E n (mst E s) := if_pos hq
      have hd := mst_dec h hF hq.1
      rw [e1]
      refine tr_mono (ih (mst E s) (m + 1) K (mst_ok h hF hq.1) (by omega) (by omega) (hS.fo f) hT') ?_
      rintro y L ⟨z1, z2, z3⟩
      exact ⟨z1, z2, f.trans z3⟩
    refine tr_step ?_
    unfold f_Scr_orderFrom_w4
    dsimp only
    rw [w32_of (x := (m : Int)) (by omega) (by omega), if_pos (by omega)]
    by_cases q : s.1 < E.length
    · have hv := hF.2.2.2.2 s.1 q
      have v1 := hv.1
      have v2 := hv.2.1
      obtain ⟨b1, -, b3⟩ := hS.2.1 s.1 q
      rw [c_isEntry hS h60 q, bnd_some, if_neg (by decide), w32_of (x := (s.1 : Int)) (by omega) (by omega), if_pos (by omega), Int.toNat_natCast, b1, Int.toNat_natCast, if_pos (by omega)]
      by_cases q12 : ew E s.1 = 12
      · have q12' : (eD E s.1).1 = 12 := q12
        obtain ⟨c1, c2, c3, c4⟩ := cl_spec hF q q12
        obtain ⟨-, n1, n2⟩ := h.again hF q q12
        have a0 : I 21 0 s.1 = (eD E s.1).2.1 := b3 (by omega) (by omega) (by omega) (by omega)
        have a3 : I 21 3 s.1 = (cl E s.1 : Int) := (hS.2.2 _ c4 c1 _ _ c2).2
        rw [if_pos q12']
        try dsimp only [ltI]
        rw [a0]
        have f1 : Fm FOr I (sI I 21 4 s.1 (eD E s.1).2.1) := Fm.sI (by decide) (by omega) (by omega) ⟨rfl, rfl⟩
        have e4 : (sI I 21 4 s.1 (eD E s.1).2.1) 21 4 s.1 = (eD E s.1).2.1 := sI_self _ _ _ _ _
        have e3 : (sI I 21 4 s.1 (eD E s.1).2.1) 21 3 s.1 = (cl E s.1 : Int) := by rw [sI_ne (by omega)]; exact a3
        have eo : ∀ x ∈ s.2, (sI I 21 4 s.1 (eD E s.1).2.1) 21 4 x.1 = x.2 := fun x hx => by
          have := mem_enc h hx
          rw [sI_ne (by omega)]
          exact hT x hx
        generalize sI I 21 4 s.1 (eD E s.1).2.1 = K at f1 e4 e3 eo
        rw [e3, c_turn (by omega) e4 (by omega) (by omega), bnd_some]
        refine tr_inl (next K _ ⟨q, Or.inl q12⟩ ?_ ?_ f1)
        · rw [mst_12 q12]
          by_cases z : (eD E s.1).2.1 = 0
          · rw [if_pos z, if_neg (by omega)]
          · rw [if_neg z, if_pos (by omega)]
        · rw [mst_12 q12]
          by_cases z : (eD E s.1).2.1 = 0
          · rw [if_pos z]; exact eo
          · rw [if_neg z]
            intro x hx
            rcases List.mem_cons.mp hx with y | y
            · rw [y]; exact e4
            · exact eo x y
      · have q12' : ¬ (eD E s.1).1 = 12 := q12
        rw [if_neg q12', if_pos (by omega)]
        by_cases q13 : ew E s.1 = 13
        · have q13' : (eD E s.1).1 = 13 := q13
          obtain ⟨a, l, t, e1, e2, e3, e4, e5, e6, e7, e8⟩ := h.close hF q q13
          have a3 : I 21 3 s.1 = (a : Int) := (hS.2.2 _ q q13 _ _ e2).1
          have a4 : I 21 4 a = l := hT (a, l) (by rw [e1]; exact List.mem_cons_self)
          rw [if_pos q13', a3, w32_of (x := (a : Int)) (by omega) (by omega), if_pos (by omega), Int.toNat_natCast, a4]
          try dsimp only [ltI]
          have f1 : Fm FOr I (sI I 21 4 a (l - 1)) := Fm.sI (by decide) (by omega) (by omega) ⟨rfl, rfl⟩
          have k4 : (sI I 21 4 a (l - 1)) 21 4 a = l - 1 := sI_self _ _ _ _ _
          have k3 : (sI I 21 4 a (l - 1)) 21 3 s.1 = (a : Int) := by rw [sI_ne (by omega)]; exact a3
          have eo : ∀ x ∈ t, (sI I 21 4 a (l - 1)) 21 4 x.1 = x.2 := fun x hx => by
            have : x.1 < a := enc_lt a x.1 (by rw [← e3]; exact List.mem_map.mpr ⟨x, hx, rfl⟩)
            rw [sI_ne (by omega)]
            exact hT x (by rw [e1]; exact List.mem_cons_of_mem _ hx)
          generalize sI I 21 4 a (l - 1) = K at f1 k4 k3 eo
          rw [k3, c_turn (by omega) k4 (by omega) (by omega), bnd_some]
          refine tr_inl (next K _ ⟨q, Or.inr q13⟩ ?_ ?_ f1)
          · rw [mst_13 q13 e1]
            by_cases z : 0 < l - 1
            · rw [if_pos z, if_pos z]
            · rw [if_neg z, if_neg z]
          · rw [mst_13 q13 e1]
            by_cases z : 0 < l - 1
            · rw [if_pos z]
              intro x hx
              rcases List.mem_cons.mp hx with y | y
              · rw [y]; exact k4
              · exact eo x y
            · rw [if_neg z]; exact eo
        · have q13' : ¬ (eD E s.1).1 = 13 := q13
          rw [if_neg q13']
          have e1 : nx E (n + 1) s = s := if_neg (fun y => y.2.elim q12 q13)
          rw [e1]
          exact tr_inr ⟨(if_pos q).symm, hT, Fm.refl _ _⟩
    · rw [c_isEntryN hS h60 (by omega) (by omega), bnd_some, if_pos (by decide)]
      have e1 : nx E (n + 1) s = s := if_neg (fun y => q y.1)
      rw [e1]
      exact tr_inr ⟨(if_neg q).symm, hT, Fm.refl _ _⟩
abbrev FPq : FP := fun k _ _ => k = 0 ∨ k = 6 ∨ k = 8 ∨ k = 20 ∨ k = 21
theorem SC.pq {bs' : List Int} (h : SC I (g, ps, kp, bs, rp)) (f : Fm FPq I J) (h6 : BfC J bs') : SC J (g, ps, kp, bs', rp) := by
  obtain ⟨a1, a2, a3, a4, a5, a6, a7⟩ := h
  exact ⟨a1.fm f (fun k i s z q => by unfold FG at z; unfold FPq at q; omega), a2.fm f (fun t _ k i s z q => by unfold FG at z; unfold FPq at q; omega), a3.fm f (fun i s => ⟨fun z => by unfold FPq at z; omega, fun z => by unfold FPq at z; omega⟩), a4.fm f (fun s z => by unfold FPq at z; omega) (fun t _ _ k i s z q => by unfold FG at z; unfold FPq at q; omega), a5.fm f (fun s z => by unfold FPq at z; omega) (fun t _ _ k i s z q => by unfold FG at z; unfold FPq at q; omega), h6, a7.fm f (fun s z => by unfold FPq at z; omega) (fun s z => by unfold FPq at z; omega)⟩
theorem BfC.fo (h : BfC I bs) (f : Fm FOr I J) : BfC J bs := h.fm f (by unfold FOr; omega) (fun s => by unfold FOr; omega)
theorem TLc.op {st : List (Nat × Int)} (h : TLc I st) (f : Fm FOp I J) : TLc J st := fun x hx => by rw [f.at (by decide) (by unfold FOp FG; omega)]; exact h x hx
abbrev FPl : FP := fun k i s => FOp k i s ∨ (k = 21 ∧ i = 4)
theorem t_playL (hF : FIN bs E) (hb : bs.length ≤ 600) : ∀ (n : Nat) (s : MS) (g : GS) (d : Nat) (I : Mem), MOK E s → Mz E s < n → Mz E s ≤ 12000000 → ¬ (s.1 < E.length ∧ (ew E s.1 = 12 ∨ ew E s.1 = 13)) → d ≤ 40 → SC I (g, ps, kp, bs, rp) → WF g → SCl I E → TLc I s.2 → Tr (whl f_PR_play_w50 ((d : Int), (if s.1 < E.length then (s.1 : Int) else -1)) I) (fun x K => x = ((pl bs E n s g d).2 : Int) ∧ SC K ((pl bs E n s g d).1, ps, kp, bs, rp) ∧ Fm FPl I K) := by
  intro n
  induction n with
  | zero => intro s g d I h h1; have := Mz_nn hF h; omega
  | succ n ih =>
    intro s g d I h h1 hM hst hd hC w hS hT
    have h60 := hF.1
    have hz := Mz_nn hF h
    have hk := h.1
    have e0 : pl bs E (n + 1) s g d = if s.1 < E.length ∧ d < 40 then (if ew E s.1 = 12 ∨ ew E s.1 = 13 then pl bs E n (mst E s) g d else (if (dO bs (eD E s.1) g).2 = true then pl bs E n (mst E s) (dO bs (eD E s.1) g).1 (d + 1) else ((dO bs (eD E s.1) g).1, d))) else (g, d) := rfl
    refine tr_step ?_
    unfold f_PR_play_w50
    dsimp only
    rw [w32_of (x := (d : Int)) (by omega) (by omega)]
    by_cases q40 : d < 40
    · rw [if_pos (by omega)]
      by_cases q : s.1 < E.length
      · have hno : ¬ (ew E s.1 = 12 ∨ ew E s.1 = 13) := fun y => hst ⟨q, y⟩
        rw [if_pos q, w32_of (x := (s.1 : Int)) (by omega) (by omega), if_neg (by omega)]
        rw [if_pos ⟨q, q40⟩, if_neg hno] at e0
        have hdc := mst_dec h hF q
        have hok := mst_ok h hF q
        have w2 := dO_wf (bs := bs) w (hF.2.2.2.2 s.1 q) (fun y => hno (Or.inl y)) (fun y => hno (Or.inr y))
        refine tr_call (t_doOrder hC w hb hS h60 q (hF.2.2.2.2 s.1 q) (fun y => hno (Or.inl y)) (fun y => hno (Or.inr y))) ?_
        rintro x K ⟨rfl, sc, f⟩
        by_cases q3 : (dO bs (eD E s.1) g).2 = true
        · rw [if_pos q3] at e0
          rw [if_neg (wb_pos q3)]
          have em := mst_no hno
          have hS2 := hS.op f
          have hT2 := hT.op f
          have ho := t_orderL hF n (mst E s) 0 K hok (by omega) (by omega) hS2 (by rw [em]; exact hT2)
          have e2 : (((mst E s).1 : Nat) : Int) = (s.1 : Int) + 1 := by rw [em]; rfl
          rw [e2] at ho
          unfold f_Scr_orderBehind f_Scr_orderFrom
          refine tr_call (tr_call ho (fun _ _ z => tr_ret z)) ?_
          rintro x L ⟨rfl, t2, f2⟩
          obtain ⟨x1, x2, x3⟩ := nx_ok hF n (mst E s) hok (by omega)
          rw [e0, pl_nx hF n (mst E s) hok (by omega)]
          refine tr_inl (tr_mono (ih (nx E n (mst E s)) (dO bs (eD E s.1) g).1 (d + 1) L x1 (by omega) (by omega) x3 (by omega) (sc.pq (f2.mono (fun a b c z => Or.inr (Or.inr (Or.inr (Or.inr z.1))))) (BfC.fo sc.2.2.2.2.2.1 f2)) w2 (hS2.fo f2) t2) ?_)
          rintro y M ⟨z1, z2, z3⟩
          exact ⟨z1, z2, (f.mono (fun a b c z => Or.inl z)).trans ((f2.mono (fun a b c z => Or.inr z)).trans z3)⟩
        · rw [if_neg q3] at e0
          rw [if_pos (wb_neg q3), e0]
          exact tr_inr ⟨rfl, sc, f.mono (fun a b c z => Or.inl z)⟩
      · rw [if_neg (fun y => q y.1)] at e0
        rw [if_neg q, if_pos (by decide), e0]
        exact tr_inr ⟨rfl, hC, Fm.refl _ _⟩
    · rw [if_neg (fun y => q40 y.2)] at e0
      rw [if_neg (by omega), e0]
      exact tr_inr ⟨rfl, hC, Fm.refl _ _⟩
/-- behind a play -/
noncomputable def plS (bs : List Int) (E : List EN) (g : GS) : GS × Nat := pl bs E ((Mz E (0, [])).toNat + 1) (0, []) g 0
noncomputable def plT (s : SS) : Int ⊕ PS → Int × SS
  | .inl e => (-10 - e, (s.1, s.2.1, s.2.2.1, [], s.2.2.2.2))
  | .inr t => (((plS s.2.2.2.1 t.1 s.1).2 : Int), ((plS s.2.2.2.1 t.1 s.1).1, pushP s.2.1 s.1, s.2.2.1, [], s.2.2.2.2))
noncomputable def playS (s : SS) : Int × SS := plT s (scr s.2.2.2.1 601 [] 0 0)
theorem scr_fin {bs : List Int} {t : PS} (e : scr bs 601 [] 0 0 = .inr t) : FIN bs t.1 := by
  obtain ⟨a, b⟩ := scr_inv 601 [] 0 0 t SEI.nil e
  exact a.fin b
theorem fscr_pq : ∀ k i s : Nat, FSc k i s → FPq k i s := fun k i s z => by unfold FSc FSx at z; unfold FPq; omega
theorem fpq_cl : ∀ k i s : Nat, FPq k i s → FCl k i s := fun k i s z => by unfold FPq at z; unfold FCl; omega
theorem t_cplay (h : SC I (g, ps, kp, bs, rp)) (w : WF g) (hl : bs.length ≤ 600) (hr : ∀ b ∈ bs, 1 ≤ b ∧ b ≤ 255) : Tr (f_PR_play I) (fun x J => x = (playS (g, ps, kp, bs, rp)).1 ∧ SC J (playS (g, ps, kp, bs, rp)).2 ∧ Fm FCl I J) := by
  have e0 : playS (g, ps, kp, bs, rp) = plT (g, ps, kp, bs, rp) (scr bs 601 [] 0 0) := rfl
  rw [e0]
  unfold f_PR_play
  refine tr_call (t_scrRead hl hr h.2.2.2.2.2.1) ?_
  rintro x J1 ⟨ok, hB1, f1⟩
  have drop : ∀ {K : Mem} {g : GS} {ps : List GS}, SC K (g, ps, kp, bs, rp) → SC (sI K 6 0 1 0) (g, ps, kp, [], rp) ∧ Fm FPq K (sI K 6 0 1 0) := fun {K _ _} hK => by
    have f2 : Fm FPq K (sI K 6 0 1 0) := Fm.sI (by decide) (by omega) (by omega) (Or.inr (Or.inl rfl))
    exact ⟨hK.pq f2 (bfc_0 (sI_self _ _ _ _ _)), f2⟩
  cases hc : scr bs 601 [] 0 0 with
  | inl e =>
    rw [hc] at ok
    obtain ⟨rfl, k6⟩ := ok
    rw [if_pos (by decide)]
    obtain ⟨sc2, f2⟩ := drop (h.pq (f1.mono fscr_pq) hB1)
    unfold f_Src_dropAll
    try dsimp only [ltI]
    rw [bnd_some]
    have k6' : (sI J1 6 0 1 0) 6 0 6 = e := by rw [sI_ne (by omega)]; exact k6
    generalize sI J1 6 0 1 0 = J2 at sc2 f2 k6'
    unfold f_PR_failure
    try dsimp only [ltI]
    rw [bnd_some]
    have f3n : Fm (fun k _ _ => k = 0) J2 (sI J2 0 0 9 (J2 6 0 7)) := Fm.sI (by decide) (by omega) (by omega) rfl
    have k6'' : (sI J2 0 0 9 (J2 6 0 7)) 6 0 6 = e := by rw [sI_ne (by omega)]; exact k6'
    generalize sI J2 0 0 9 (J2 6 0 7) = J3 at f3n k6''
    rw [k6'']
    have hb3 : BfC J3 [] := BfC.fm sc2.2.2.2.2.2.1 f3n (by omega) (fun s => by omega)
    have f3 : Fm FPq J2 J3 := f3n.mono (fun a b c z => Or.inl z)
    exact tr_ret ⟨rfl, sc2.pq f3 hb3, (f1.mono (fun a b c z => fpq_cl _ _ _ (fscr_pq _ _ _ z))).trans ((f2.trans f3).mono fpq_cl)⟩
  | inr t =>
    rw [hc] at ok
    obtain ⟨rfl, ok⟩ := ok
    have hF := scr_fin hc
    obtain ⟨hM0, hM1⟩ := Mz_0 hF
    rw [if_neg (by decide)]
    have sc1 : SC J1 (g, ps, kp, bs, rp) := h.pq (f1.mono fscr_pq) hB1
    have hS1 : SCl J1 t.1 := ok.2.2.1
    try dsimp only [ltI]
    have f2 : Fm (fun k _ _ => k = 0) J1 (sI J1 0 0 9 (-1)) := Fm.sI (by decide) (by omega) (by omega) rfl
    generalize sI J1 0 0 9 (-1) = J2 at f2
    have hB2 : BfC J2 bs := BfC.fm hB1 f2 (by omega) (fun s => by omega)
    have sc2 : SC J2 (g, ps, kp, bs, rp) := sc1.pq (f2.mono (fun a b c z => Or.inl z)) hB2
    have hS2 : SCl J2 t.1 := hS1.fm f2 (by omega) (fun k i s z => by omega)
    obtain ⟨a1, a2, a3, a4, a5, a6, a7⟩ := sc2
    refine tr_call (t_hrem a1 a2 a4) ?_
    rintro _ J3 ⟨hc3, ag, f3⟩
    have n1 : ∀ k i s : Nat, FHis k i s → k ∈ [1, 2, 9, 12, 14, 15] ∧ (k = 9 ∨ ∃ t : Nat, 2 ≤ t ∧ t < 10 ∧ FG t k i s) := fun k i s z => by
      rcases z with ⟨t, h1, h2, h3⟩ | rfl
      · refine ⟨?_, Or.inr ⟨t, h1, h2, h3⟩⟩
        unfold FG at h3
        rcases h3 with ⟨rfl | rfl, _⟩ | ⟨rfl | rfl | rfl, _⟩ <;> decide
      · exact ⟨by decide, Or.inl rfl⟩
    have nk : ∀ q : Nat, q ∉ [1, 2, 9, 12, 14, 15] → ∀ i s : Nat, ¬ FHis q i s := fun q hq i s z => hq (n1 q i s z).1
    have ng : ∀ t : Nat, (t < 2 ∨ 10 ≤ t) → ∀ k i s : Nat, FG t k i s → ¬ FHis k i s := fun t ht k i s z q => by
      rcases (n1 k i s q).2 with rfl | ⟨u, h1, h2, h3⟩
      · unfold FG at z; omega
      · clear q n1 nk
        unfold FG at z h3; omega
    have sc3 : SC J3 (g, pushP ps g, kp, bs, rp) := ⟨a1.fm f3 (ng 0 (by omega)), ag, a3.fm f3 (fun i s => ⟨nk 4 (by decide) i s, nk 16 (by decide) i s⟩), hc3, a5.fm f3 (fun s => nk 24 (by decide) 0 s) (fun t h1 _ => ng t (by omega)), a6.fm f3 (nk 6 (by decide) 0 1) (fun s => nk 19 (by decide) 0 s), a7.fm f3 (fun s => nk 10 (by decide) 0 s) (fun s => nk 25 (by decide) 0 s)⟩
    have hS3 : SCl J3 t.1 := hS2.fm f3 (nk 8 (by decide) 0 8) (fun k i s z => by
      rcases z with rfl | ⟨rfl, -⟩
      · exact nk 20 (by decide) i s
      · exact nk 21 (by decide) i s)
    have hn0 : Mz t.1 (0, []) < (((Mz t.1 (0, [])).toNat + 1 : Nat) : Int) := by
      have := Mz_nn hF hM0
      omega
    generalize hN : (Mz t.1 (0, [])).toNat + 1 = N at hn0
    have ho := t_orderL hF N (0, []) 0 J3 hM0 hn0 (by omega) hS3 (fun x hx => absurd hx List.not_mem_nil)
    obtain ⟨x1, x2, x3⟩ := nx_ok hF N (0, []) hM0 hn0
    unfold f_Scr_firstOrder f_Scr_orderFrom
    refine tr_call (tr_call ho (fun _ _ z => tr_ret z)) ?_
    rintro x J4 ⟨rfl, t4, f4⟩
    have hS4 := hS3.fo f4
    have sc4 : SC J4 (g, pushP ps g, kp, bs, rp) := sc3.pq (f4.mono (fun a b c z => Or.inr (Or.inr (Or.inr (Or.inr z.1))))) (BfC.fo sc3.2.2.2.2.2.1 f4)
    refine tr_call (t_playL hF hl N (nx t.1 N (0, [])) g 0 J4 x1 (by omega) (by omega) x3 (by omega) sc4 w hS4 t4) ?_
    rintro x J5 ⟨rfl, sc5, f5⟩
    rw [← pl_nx hF N (0, []) hM0 hn0] at sc5 ⊢
    obtain ⟨sc6, f6⟩ := drop sc5
    unfold f_Src_dropAll
    try dsimp only [ltI]
    rw [bnd_some]
    have ep : plS bs t.1 g = pl bs t.1 N (0, []) g 0 := by unfold plS; rw [hN]
    have er : plT (g, ps, kp, bs, rp) (.inr t) = (((plS bs t.1 g).2 : Int), ((plS bs t.1 g).1, pushP ps g, kp, [], rp)) := rfl
    rw [er, ep]
    refine tr_ret ⟨rfl, sc6, (f1.mono (fun a b c z => fpq_cl _ _ _ (fscr_pq _ _ _ z))).trans ((f2.mono (fun a b c z => by unfold FCl; omega)).trans ((f3.mono (fun a b c z => ?_)).trans ((f4.mono (fun a b c z => by unfold FOr at z; unfold FCl; omega)).trans ((f5.mono (fun a b c z => ?_)).trans (f6.mono fpq_cl)))))⟩
    · have := (n1 a b c z).1
      simp at this
      show a < 26
      omega
    · rcases z with z | z
      · exact fop_cl _ _ _ z
      · show a < 26
        omega
end CPLAY
