/-! ===== every call that changes, but load and play ===== -/
section MUTS
variable {I J : Mem} {g g' : GS} {ps : List GS} {kp : Nat → Option GS} {bs rp : List Int} {s : SS}
theorem SM.t7 {v : Int} (h : SM J s) : SM (sI J 26 0 7 v) s := by
  obtain ⟨g, ps, kp, bs, rp⟩ := s
  exact h.op (Fm.sI (by decide) (by omega) (by omega) (Or.inr ⟨rfl, by decide, by decide, by decide⟩)) (GWf.congr h.1 (fun q _ => sI_ne (by omega)))
theorem f7_mo {v : Int} : Fm FMo J (sI J 26 0 7 v) := Fm.sI (by decide) (by omega) (by omega) ⟨by decide, by decide⟩
theorem t_outG {w : Int} {e : Option (Int × Mem)} (sm : SM J s) (he : e = some (0, sI (sI J 26 0 7 0) 26 0 7 w)) : Tr e (fun _ K => K 26 0 7 = w ∧ SM K s ∧ Fm FMo J K) := by
  rw [he]
  exact tr_ret ⟨sI_self _ _ _ _ _, sm.t7.t7, f7_mo.trans f7_mo⟩
abbrev FMq : FP := fun k _ s => (26 ≤ k ∧ k < 29) ∧ ¬ (k = 26 ∧ s = 7)
theorem m_endG {e : Option (Int × Mem)} {u : Int} (h : Tr e (fun x K => w32 x = u ∧ SM K s ∧ Fm FMq (sI J 26 0 7 0) K)) : Tr e (fun x K => w32 x = u ∧ SM K s ∧ K 26 0 7 = 0 ∧ Fm FMo J K) := by
  refine tr_mono h (fun x K z => ⟨z.1, z.2.1, ?_, f7_mo.trans (z.2.2.mono (fun a b c q => q.1))⟩)
  rw [z.2.2.at (by decide) (by unfold FMq; omega), sI_self]
theorem m_endI {e : Option (Int × Mem)} {u : Int} (h : Tr e (fun x K => w32 x = u ∧ SM K s ∧ Fm FMq (sI J 26 0 7 0) K)) : Tr e (fun x K => w32 x = u ∧ SM K s ∧ Fm FMo J K) := tr_mono h (fun _ _ z => ⟨z.1, z.2.1, f7_mo.trans (z.2.2.mono (fun _ _ _ q => q.1))⟩)
abbrev FMn : FP := fun k i s => (k = 27 ∧ i ≠ 2 ∧ i ≠ 3 ∧ i ≠ 4 ∧ i ≠ 14 ∧ i ≠ 22) ∨ (k = 26 ∧ s ≠ 6 ∧ s ≠ 7 ∧ s ≠ 20 ∧ s ≠ 43)
theorem fn_p : ∀ k i s : Nat, FMn k i s → FMp k i s := fun k i s z => by unfold FMn at z; unfold FMp; omega
theorem fn_q : ∀ k i s : Nat, FMn k i s → FMq k i s := fun k i s z => by unfold FMn at z; unfold FMq; omega
theorem fn_w : ∀ k i s : Nat, FW k i s → FMn k i s := fun k i s z => by unfold FW at z; unfold FMn; omega
theorem fn_l : ∀ k i s : Nat, FL k i s → FMn k i s := fun k i s z => by unfold FL at z; unfold FMn; omega
theorem fn_mp : ∀ k i s : Nat, FMP k i s → FMn k i s := fun k i s z => by unfold FMP at z; unfold FMn; omega
theorem fn_bp : ∀ k i s : Nat, FBP k i s → FMn k i s := fun k i s z => z.elim (fn_mp k i s) (fn_l k i s)
theorem fn_ms : ∀ k i s : Nat, FMS k i s → FMn k i s := fun k i s z => z.elim (fn_w k i s) (fn_bp k i s)
theorem t_holdG (h : GW J g) : Tr (f_M_holds J) (fun _ K => GW K g ∧ GB K 2 0 g ∧ Fm (fun k i _ => k = 27 ∧ i = 2) J K) := by
  unfold f_M_holds
  refine tr_call (t_mlays (k := 0) (b := 0) (k' := 2) (b' := 0) (I := J) (by decide) (by decide) (by decide) (by decide) (by decide) (by decide) (by decide)) ?_
  rintro _ K ⟨hc, f⟩
  refine tr_ret ⟨h.fm f (fun s _ z => absurd z.2.1 (by decide)), GWf.congr h (fun s hs => ?_), f.mono (fun a b c z => ⟨z.1, z.2.1⟩)⟩
  have := hc s hs
  rw [Nat.zero_add] at this
  rw [Nat.zero_add]
  exact this
theorem m_mutG {now : Mem → Option (Int × Mem)} {x : Int} (sm : SM J (g, ps, kp, bs, rp)) (hx : 0 ≤ w32 x) (hn : ∀ K : Mem, GW K g → Tr (now K) (fun y L => y = x ∧ GW L g' ∧ Fm FMn K L)) : Tr (bnd (f_M_holds (sI J 26 0 7 0)) fun _ J9 => bnd (now J9) fun x13 J12 => bnd (f_M_recorded x13 J12) fun x16 J15 => some (x16, J15)) (fun y K => w32 y = w32 x ∧ SM K (g', pushP ps g, kp, bs, rp) ∧ Fm FMq (sI J 26 0 7 0) K) := by
  have s0 := sm.t7 (v := 0)
  generalize sI J 26 0 7 0 = J0 at s0
  refine tr_call (t_holdG s0.1) ?_
  rintro _ K1 ⟨gw, gb, f1⟩
  refine tr_call (hn K1 gw) ?_
  rintro y K2 ⟨rfl, gw2, f2⟩
  have gb2 : GB K2 2 0 g := gb.fm f2 (fun s _ _ z => by unfold FMn at z; omega)
  have f12 : Fm FMp J0 K2 := (f1.mono (fun a b c z => by unfold FMp; omega)).trans (f2.mono fn_p)
  have s2 := s0.op f12 gw2
  have hrec : Tr (f_M_recorded y K2) (fun z K => z = y ∧ HM K (pushP ps g) ∧ Fm FRb3 K2 K) := by
    unfold f_M_recorded
    rw [if_neg (by omega)]
    refine tr_call (t_mrem (q := 2) (Or.inr rfl) gb2 s2.2.1) ?_
    rintro _ K3 ⟨hm, f3⟩
    exact tr_ret ⟨rfl, hm, f3⟩
  refine tr_call hrec ?_
  rintro _ K3 ⟨rfl, hm, f3⟩
  refine tr_ret ⟨rfl, ⟨gw2.fm f3 (fun s _ z => by unfold FRb3 at z; omega), hm, s2.2.2.1.fm f3 (fun s z => by unfold FRb3 at z; omega) (fun s z => by unfold FRb3 at z; omega), s2.2.2.2.1.fm f3 (fun z => by unfold FRb3 at z; omega) (fun s z => by unfold FRb3 at z; omega), s2.2.2.2.2.fm f3 (fun z => by unfold FRb3 at z; omega) (fun s z => by unfold FRb3 at z; omega)⟩, (f1.mono (fun a b c z => by unfold FMq; omega)).trans ((f2.mono fn_q).trans (f3.mono (fun a b c z => by unfold FRb3 at z; unfold FMq; omega)))⟩
theorem m_mutN {now : Mem → Option (Int × Mem)} {x : Int} (sm : SM J (g, ps, kp, bs, rp)) (hx : w32 x < 0) (hn : ∀ K : Mem, GW K g → Tr (now K) (fun y L => y = x ∧ GW L g ∧ Fm FMn K L)) : Tr (bnd (f_M_holds (sI J 26 0 7 0)) fun _ J9 => bnd (now J9) fun x13 J12 => bnd (f_M_recorded x13 J12) fun x16 J15 => some (x16, J15)) (fun y K => w32 y = w32 x ∧ SM K (g, ps, kp, bs, rp) ∧ Fm FMq (sI J 26 0 7 0) K) := by
  have s0 := sm.t7 (v := 0)
  generalize sI J 26 0 7 0 = J0 at s0
  refine tr_call (t_holdG s0.1) ?_
  rintro _ K1 ⟨gw, gb, f1⟩
  refine tr_call (hn K1 gw) ?_
  rintro y K2 ⟨rfl, gw2, f2⟩
  unfold f_M_recorded
  rw [if_pos hx, bnd_some]
  exact tr_ret ⟨rfl, s0.op ((f1.mono (fun a b c z => by unfold FMp; omega)).trans (f2.mono fn_p)) gw2, (f1.mono (fun a b c z => by unfold FMq; omega)).trans (f2.mono fn_q)⟩
theorem c_mut {α : Type} {op : Mem → Option (α × Mem)} {R : α → Prop} (h : SC I (g, ps, kp, bs, rp)) (hop : ∀ J : Mem, GC J 0 g → PTi J → (∃ x : GS, GC J 1 x) → Tr (op J) (fun x K => R x ∧ GC K 0 g' ∧ (∃ x : GS, GC K 1 x) ∧ PTi K ∧ Fm FOp J K)) : Tr (bnd (f_His_remember 0 I) fun _ J => op J) (fun x K => R x ∧ SC K (g', pushP ps g, kp, bs, rp) ∧ Fm FCl I K) := by
  obtain ⟨a1, a2, a3, a4, a5, a6, a7⟩ := h
  refine tr_call (t_hrem a1 a2 a4) ?_
  rintro _ J1 ⟨hc, ag, f1⟩
  have n1 : ∀ k i s : Nat, FHis k i s → k ∈ [1, 2, 9, 12, 14, 15] ∧ (k = 9 ∨ ∃ t : Nat, 2 ≤ t ∧ t < 10 ∧ FG t k i s) := fun k i s z => by
    rcases z with ⟨t, h1, h2, h3⟩ | rfl
    · refine ⟨?_, Or.inr ⟨t, h1, h2, h3⟩⟩
      unfold FG at h3
      rcases h3 with ⟨rfl | rfl, _⟩ | ⟨rfl | rfl | rfl, _⟩ <;> decide
    · exact ⟨by decide, Or.inl rfl⟩
  have nk : ∀ q : Nat, q ∉ [1, 2, 9, 12, 14, 15] → ∀ i s : Nat, ¬ FHis q i s := fun q hq i s z => hq (n1 q i s z).1
  have ng : ∀ t : Nat, (t < 2 ∨ 10 ≤ t) → ∀ k i s : Nat, FG t k i s → ¬ FHis k i s := fun t ht k i s z q => by
    rcases (n1 k i s q).2 with rfl | ⟨u, h1, h2, h3⟩
    · unfold FG at z; omega
    · clear q n1 nk
      unfold FG at z h3; omega
  have sc : SC J1 (g, pushP ps g, kp, bs, rp) := ⟨a1.fm f1 (ng 0 (by omega)), ag, a3.fm f1 (fun i s => ⟨nk 4 (by decide) i s, nk 16 (by decide) i s⟩), hc, a5.fm f1 (fun s => nk 24 (by decide) 0 s) (fun t h1 _ => ng t (by omega)), a6.fm f1 (nk 6 (by decide) 0 1) (fun s => nk 19 (by decide) 0 s), a7.fm f1 (fun s => nk 10 (by decide) 0 s) (fun s => nk 25 (by decide) 0 s)⟩
  refine tr_mono (hop J1 sc.1 sc.2.2.1 (ag 1 (by decide))) ?_
  rintro x K ⟨hR, g0, g1, pt, f2⟩
  refine ⟨hR, sc.op f2 g0 g1 pt, (f1.mono (fun k i s z => ?_)).trans (f2.mono fop_cl)⟩
  have := (n1 k i s z).1
  simp at this
  show k < 26
  omega
theorem SW.mut (h : SW (g, ps, kp, bs, rp)) (w : WF g') : SW (g', pushP ps g, kp, bs, rp) := ⟨w, pushP_wf h.2.1 h.1, h.2.2⟩
theorem fo_g : ∀ k i s : Nat, FG 0 k i s → FOp k i s := fun _ _ _ z => Or.inl z
theorem fo_g1 : ∀ k i s : Nat, FG 1 k i s → FOp k i s := fun _ _ _ z => Or.inr (Or.inl z)
theorem fo_p : ∀ k i s : Nat, FPA k i s → FOp k i s := fun k i s z => by unfold FPA at z; unfold FOp; omega
theorem fo_s : ∀ k i s : Nat, FST 0 k i s → FOp k i s := fun k i s z => by
  rcases z with z | z | z
  · exact Or.inl z
  · unfold FOp; omega
  · exact fo_p k i s z
theorem fo_s1 : ∀ k i s : Nat, FST 1 k i s → FOp k i s := fun k i s z => by
  rcases z with z | z | z
  · exact Or.inr (Or.inl z)
  · unfold FOp; omega
  · exact fo_p k i s z
theorem fo_u : ∀ k i s : Nat, FGU 0 k i s → FOp k i s := fun k i s z => by
  rcases z with z | z
  · exact Or.inl z
  · unfold FOp; omega
theorem fo_u1 : ∀ k i s : Nat, FGU 1 k i s → FOp k i s := fun k i s z => by
  rcases z with z | z
  · exact Or.inr (Or.inl z)
  · unfold FOp; omega
theorem fo_v : ∀ k i s : Nat, FSV k i s → FOp k i s := fun k i s z => by unfold FSV at z; unfold FOp; omega
theorem g1_fm {F : FP} (h : ∃ x : GS, GC I 1 x) (f : Fm F I J) (hn : ∀ k i s : Nat, FG 1 k i s → ¬ F k i s) : ∃ x : GS, GC J 1 x := by
  obtain ⟨x, hx⟩ := h
  exact ⟨x, hx.fm f hn⟩
theorem pt_g {t : Nat} (h : PTi I) (f : Fm (FG t) I J) : PTi J := h.fm f (fun i s => ⟨fun z => by unfold FG at z; omega, fun z => by unfold FG at z; omega⟩)
theorem og_27 (h : SI I s) (a1 : Int) (h1 : w32 a1 = a1) : OGW (f_L_step a1) (f_M_step a1) I := by
  obtain ⟨g, ps, kp, bs, rp⟩ := s
  have w : WF g := h.2.2.1
  by_cases hr : 1 ≤ a1 ∧ a1 < 51
  · obtain ⟨n, rfl, hn⟩ : ∃ n : Nat, a1 = (n : Int) ∧ n < 51 := ⟨a1.toNat, by omega, by omega⟩
    have hb : ((stepsG n g).1 : Int) ≤ n := by
      have key : ∀ (n : Nat) (g : GS), (stepsG n g).1 ≤ n := by
        intro n
        induction n with
        | zero => intro g; exact Nat.le_refl 0
        | succ n ih =>
          intro g
          by_cases q : bestP g = -1
          · rw [stepsG_none q]; exact Nat.zero_le _
          · rw [stepsG_some q]; have := ih (stG g); show _ + 1 ≤ n + 1; omega
      have := key n g
      omega
    refine og_W (fp := f_PR_step (n : Int)) (u := w32 ((stepsG n g).1 : Int)) h (h.2.2.mut (stepsG_wf n w)) ?_ (fun J sm => m_endG ?_)
    · unfold f_PR_step
      rw [h1, if_neg (by omega), if_neg (by omega)]
      refine c_mut (R := fun x : Int ⊕ String => ∃ v : Int, x = .inl v ∧ w32 v = w32 ((stepsG n g).1 : Int)) h.1 (fun J g0 pt g1 => ?_)
      refine tr_call (t_makeSteps g0 w pt (by omega)) ?_
      rintro x K ⟨rfl, gc, -, pt2, f⟩
      exact tr_ret ⟨⟨_, rfl, rfl⟩, gc, g1_fm g1 f (fun k i s z q => by unfold FG at z; unfold FST FG FPA at q; omega), pt2, f.mono fo_s⟩
    · unfold f_M_step
      try dsimp only [ltI]
      rw [chk_in (sI_self _ _ _ _ _) (by rw [h1, w32c 1 (by decide), w32c 50 (by decide)]; omega)]
      exact m_mutG (now := f_M_stepsMany (n : Int)) sm (by rw [w32_of (by omega) (by omega)]; omega) (fun K gw => tr_mono (t_mstepsMany gw w (by omega)) (fun _ _ z => ⟨z.1, z.2.1, z.2.2.mono fn_ms⟩))
  · refine og_X (fp := f_PR_step a1) (E := xIA) (k := 1) h ?_ (if_pos rfl) (by decide) (fun J sm => ?_)
    · unfold f_PR_step
      rw [h1]
      by_cases q : a1 < 1
      · rw [if_pos q]
      · rw [if_neg q, if_pos (by omega)]
    · unfold f_M_step
      exact t_outG sm (chk_out (sI_self _ _ _ _ _) (Or.inl rfl) (by rw [h1, w32c 1 (by decide), w32c 50 (by decide)]; omega))
theorem inlG_le : ∀ (n : Nat) (g : GS), (inlG n g).1 ≤ n
  | 0, _ => Nat.le_refl 0
  | n + 1, g => by
    by_cases q : gLonely g = -1
    · rw [inlG_none q]; exact Nat.zero_le _
    · rw [inlG_some q]
      have := inlG_le n (gDis g (gLonely g).toNat (if 0 < gUses g (gLonely g).toNat then 2 else 3))
      show _ + 1 ≤ n + 1
      omega
theorem og_28 (h : SI I s) : OGI f_PR_inline f_M_inline I := by
  obtain ⟨g, ps, kp, bs, rp⟩ := s
  have w : WF g := h.2.2.1
  have hb := inlG_le 40 g
  refine og_I (u := w32 ((inlG 40 g).1 : Int)) h (h.2.2.mut (mu_inl 40 w).2) ?_ (fun J sm => m_endI ?_)
  · unfold f_PR_inline
    refine c_mut (R := fun x => w32 x = w32 ((inlG 40 g).1 : Int)) h.1 (fun J g0 pt g1 => ?_)
    refine tr_call (t_inlineAll g0 w) ?_
    rintro x K ⟨rfl, gc, -, f⟩
    exact tr_ret ⟨rfl, gc, g1_fm g1 f (fun k i s z q => by unfold FG at z; unfold FGU FG at q; omega), pt.fgu f, f.mono fo_u⟩
  · unfold f_M_inline
    try dsimp only [ltI]
    exact m_mutG (now := f_M_inlines) sm (by rw [w32_of (by omega) (by omega)]; omega) (fun K gw => tr_mono (t_minlines gw w) (fun _ _ z => ⟨z.1, z.2.1, z.2.2.mono fn_w⟩))
/-- two symbols out of range -/
theorem pair_xG {fp : Int → Int → Mem → Option ((Int ⊕ String) × Mem)} {fm : Int → Int → Mem → Option (Int × Mem)} {a1 a2 : Int} (h : SI I s) (h1 : w32 a1 = a1) (h2 : w32 a2 = a2) (hr : ¬ ((0 ≤ a1 ∧ a1 < 66) ∧ 0 ≤ a2 ∧ a2 < 66))
    (hc : ∀ x y : Int, f_PR_isSymbol a1 I = some (x, I) → f_PR_isSymbol a2 I = some (y, I) → w32 x = 0 ∨ w32 x ≠ 0 ∧ w32 y = 0 → fp a1 a2 I = some (.inr xIA, thrw I))
    (hm : ∀ J : Mem, f_M_noPair a1 a2 (sI J 26 0 7 0) = some (1, sI (sI J 26 0 7 0) 26 0 7 1) → fm a1 a2 J = some (0, sI (sI J 26 0 7 0) 26 0 7 1))
    {KR : Int → Mem → Option (Int × Mem)} {KX : String → Mem → Option (Int × Mem)} (hk : KX xIA (thrw I) = some (1, thrw I)) : OGW (fun I => bndX (fp a1 a2 I) KR KX) (fm a1 a2) I := by
  have hb := w32_rng a1
  rw [h1] at hb
  have hb2 := w32_rng a2
  rw [h2] at hb2
  refine og_X (fp := fp a1 a2) (E := xIA) (k := 1) h ?_ hk (by decide) (fun J sm => ?_)
  · refine hc _ _ (p_isSymbol hb.1 hb.2) (p_isSymbol hb2.1 hb2.2) ?_
    by_cases q : 0 ≤ a1 ∧ a1 < 66
    · exact Or.inr ⟨by rw [bI_pos q]; decide, by rw [bI_neg (fun z => hr ⟨q, z⟩)]; decide⟩
    · exact Or.inl (by rw [bI_neg q]; decide)
  · exact t_outG sm (hm _ (m_noPair0 (sI_self _ _ _ _ _) h1 h2 hr))
/-- what asks why a pair can't be made -/
theorem t_refusal (h : SC I (g, ps, kp, bs, rp)) (w : WF g) {a b : Int} (ha : 0 ≤ a ∧ a < 66) (hb : 0 ≤ b ∧ b < 66) : Tr (f_PR_refusalOfMake a b I) (fun x J => (mkC g a b < 0 ∧ x = mkC g a b ∨ 0 ≤ mkC g a b ∧ x = 0) ∧ SC J (g, ps, kp, bs, rp) ∧ Fm FOp I J) := by
  obtain ⟨p, hp, e1, e2⟩ := nat_pair (a := a) (b := b) ⟨ha, hb⟩
  unfold f_PR_refusalOfMake
  by_cases q1 : symOK g a
  · rw [g_hasSymbol h.1 ha, bI_pos q1, bnd_some, if_neg (by decide)]
    by_cases q2 : symOK g b
    · rw [g_hasSymbol h.1 hb, bI_pos q2, bnd_some, if_neg (by decide)]
      refine tr_call (t_readFrom h.1 w h.2.2.1) ?_
      rintro _ J ⟨pd, pt, gc, f⟩
      have sc : SC J (g, ps, kp, bs, rp) := h.op (f.mono fo_p) gc (g1_fm (h.2.1 1 (by decide)) f (fun k i s z q => by unfold FG at z; unfold FPA at q; omega)) pt
      have cr := cz_rng g p zE
      have kr := kz_rng g p 40
      have ez := zE_eq
      have ekk : kz g p 40 = gKept g a b := by
        unfold kz gKept
        rw [show ((p / 66 : Nat) : Int) = a by omega, show ((p % 66 : Nat) : Int) = b by omega]
      rw [p_pairOf ha hb, bnd_some, e1, p_countOf pd.1 hp, bnd_some, w32_of (x := cz g p zE) (by omega) (by omega), mkC_pos ⟨q1, q2⟩, e2, Int.toNat_natCast]
      by_cases qc : cz g p zE = 0
      · rw [if_pos qc, if_pos qc]
        exact tr_ret ⟨Or.inl ⟨by decide, rfl⟩, sc, f.mono fo_p⟩
      · rw [if_neg qc, if_neg qc, p_keptOf pd.1 hp, bnd_some, w32_of (x := kz g p 40) (by omega) (by omega), ekk]
        unfold gRule
        by_cases qk : gKept g a b = -1
        · rw [if_pos qk, if_pos qk, g_lowestFree gc, bnd_some]
          have fr := gFree_rng g
          rw [w32_of (x := gFree g) (by omega) (by omega)]
          by_cases qf : gFree g = -1
          · rw [if_pos qf, if_pos qf]
            exact tr_ret ⟨Or.inl ⟨by decide, rfl⟩, sc, f.mono fo_p⟩
          · rw [if_neg qf, if_neg qf]
            exact tr_ret ⟨Or.inr ⟨by omega, rfl⟩, sc, f.mono fo_p⟩
        · rw [if_neg qk, if_neg qk, if_neg qk]
          exact tr_ret ⟨Or.inr ⟨by rw [← ekk] at qk ⊢; omega, rfl⟩, sc, f.mono fo_p⟩
    · rw [g_hasSymbol h.1 hb, bI_neg q2, bnd_some, if_pos (by decide), mkC_neg (fun z => q2 z.2)]
      exact tr_ret ⟨Or.inl ⟨by decide, rfl⟩, h, Fm.refl _ _⟩
  · rw [g_hasSymbol h.1 ha, bI_neg q1, bnd_some, if_pos (by decide), mkC_neg (fun z => q1 z.1)]
    exact tr_ret ⟨Or.inl ⟨by decide, rfl⟩, h, Fm.refl _ _⟩
theorem mkC_rng {a b : Int} : -7 ≤ mkC g a b ∧ mkC g a b < 40 := by
  have hr := gRule_rng g a b
  by_cases q : symOK g a ∧ symOK g b
  · rw [mkC_pos q]
    by_cases q1 : cz g (66 * a + b).toNat zE = 0
    · rw [if_pos q1]; decide
    · rw [if_neg q1]
      by_cases q2 : gRule g a b = -1
      · rw [if_pos q2]; decide
      · rw [if_neg q2]
        rcases hr with z | ⟨r, z1, z2⟩
        · exact absurd z q2
        · omega
  · rw [mkC_neg q]; decide
theorem mkC_rule {a b : Int} (h : 0 ≤ mkC g a b) : mkC g a b = gRule g a b := by
  by_cases q : symOK g a ∧ symOK g b
  · rw [mkC_pos q] at h ⊢
    by_cases q1 : cz g (66 * a + b).toNat zE = 0
    · rw [if_pos q1] at h; omega
    · rw [if_neg q1] at h ⊢
      by_cases q2 : gRule g a b = -1
      · rw [if_pos q2] at h; omega
      · rw [if_neg q2]
  · rw [mkC_neg q] at h; omega
theorem og_29 (h : SI I s) (a1 a2 : Int) (h1 : w32 a1 = a1) (h2 : w32 a2 = a2) : OGW (f_L_make a1 a2) (f_M_make a1 a2) I := by
  obtain ⟨g, ps, kp, bs, rp⟩ := s
  have w : WF g := h.2.2.1
  by_cases hr : (0 ≤ a1 ∧ a1 < 66) ∧ 0 ≤ a2 ∧ a2 < 66
  · have mr := mkC_rng (g := g) (a := a1) (b := a2)
    have wm : w32 (mkC g a1 a2) = mkC g a1 a2 := w32_of (by omega) (by omega)
    by_cases hm : mkC g a1 a2 < 0
    · have es : mkS g a1 a2 = g := if_pos hm
      refine og_W (fp := f_PR_make a1 a2) (s' := (g, ps, kp, bs, rp)) (u := w32 (mkC g a1 a2)) h h.2.2 ?_ (fun J sm => m_endG ?_)
      · unfold f_PR_make
        rw [sym_in h1 hr.1, bnd_some, if_neg (by decide), sym_in h2 hr.2, bnd_some, if_neg (by decide)]
        refine tr_call (t_refusal h.1 w hr.1 hr.2) ?_
        rintro x K ⟨z | z, sc, f⟩
        · rw [z.2, wm, if_pos hm]
          exact tr_ret ⟨⟨_, rfl, wm⟩, sc, f.mono fop_cl⟩
        · omega
      · unfold f_M_make
        try dsimp only [ltI]
        rw [m_noPair1 (sI_self _ _ _ _ _) h1 h2 hr, bnd_some, if_pos (by decide)]
        refine m_mutN (now := f_M_makeNow a1 a2) sm (by omega) (fun K gw => tr_mono (t_mmakeNow gw w hr.1 hr.2) (fun _ _ z => ⟨z.1, ?_, z.2.2.mono fn_ms⟩))
        have := z.2.1
        rwa [es] at this
    · have es : mkS g a1 a2 = gJoin g a1 a2 := if_neg hm
      refine og_W (fp := f_PR_make a1 a2) (s' := (gJoin g a1 a2, pushP ps g, kp, bs, rp)) (u := w32 (mkC g a1 a2)) h (h.2.2.mut (by rw [← es]; exact w.mkS hr.1 hr.2)) ?_ (fun J sm => m_endG ?_)
      · unfold f_PR_make
        rw [sym_in h1 hr.1, bnd_some, if_neg (by decide), sym_in h2 hr.2, bnd_some, if_neg (by decide)]
        refine tr_call (t_refusal h.1 w hr.1 hr.2) ?_
        rintro x K ⟨z | z, sc, f⟩
        · omega
        · rw [z.2, if_neg (by decide)]
          refine tr_mono (c_mut (R := fun x : Int ⊕ String => ∃ v : Int, x = .inl v ∧ w32 v = w32 (mkC g a1 a2)) (g' := gJoin g a1 a2) sc (fun J g0 pt g1 => ?_)) (fun x L z => ⟨z.1, z.2.1, (f.mono fop_cl).trans z.2.2⟩)
          refine tr_call (t_gjoin g0 (fun i hi => w.sy hi) hr.1 hr.2) ?_
          rintro x L ⟨rfl, gc, f2⟩
          exact tr_ret ⟨⟨_, rfl, by rw [mkC_rule (by omega)]⟩, gc, g1_fm g1 f2 (fun k i s z q => by unfold FG at z q; omega), pt_g pt f2, f2.mono fo_g⟩
      · unfold f_M_make
        try dsimp only [ltI]
        rw [m_noPair1 (sI_self _ _ _ _ _) h1 h2 hr, bnd_some, if_pos (by decide)]
        refine m_mutG (now := f_M_makeNow a1 a2) sm (by omega) (fun K gw => tr_mono (t_mmakeNow gw w hr.1 hr.2) (fun _ _ z => ⟨z.1, ?_, z.2.2.mono fn_ms⟩))
        have := z.2.1
        rwa [es] at this
  · refine pair_xG (fp := f_PR_make) (fm := f_M_make) h h1 h2 hr (fun x y ex ey z => ?_) (fun J e => ?_) (if_pos rfl)
    · unfold f_PR_make
      rw [ex, bnd_some]
      rcases z with z | ⟨z1, z2⟩
      · rw [if_pos z]
      · rw [if_neg z1, ey, bnd_some, if_pos z2]
    · unfold f_M_make
      try dsimp only [ltI]
      rw [e, bnd_some, if_neg (by decide)]
end MUTS
