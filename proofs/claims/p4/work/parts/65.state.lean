/-! ===== the state of a run, second part: source, report, all together ===== -/
abbrev SS : Type := GS × List GS × (Nat → Option GS) × List Int × List Int
def BfC (I : Mem) (bs : List Int) : Prop := I 6 0 1 = (bs.length : Int) ∧ ∀ j : Nat, j < bs.length → I 19 0 j = bs.getD j 0
def BfM (I : Mem) (bs : List Int) : Prop := I 26 0 20 = (bs.length : Int) ∧ ∀ j : Nat, j < bs.length → I 27 14 j = bs.getD j 0
def capR (c : Int) : Prop := c = 64 ∨ c = 128 ∨ c = 256 ∨ c = 512 ∨ c = 1024 ∨ c = 2048 ∨ c = 4096 ∨ c = 8192 ∨ c = 16384 ∨ c = 32768 ∨ c = 65536 ∨ c = 131072
def RpC (I : Mem) (rp : List Int) : Prop := I 10 0 1 = (rp.length : Int) ∧ (rp.length : Int) ≤ I 10 0 2 ∧ capR (I 10 0 2) ∧ ∀ j : Nat, j < rp.length → I 25 0 j = rp.getD j 0
def RpM (I : Mem) (rp : List Int) : Prop := I 26 0 43 = (rp.length : Int) ∧ ∀ j : Nat, j < rp.length → I 27 22 j = rp.getD j 0
def SC (I : Mem) (s : SS) : Prop := GC I 0 s.1 ∧ AllG I ∧ PTi I ∧ HC I s.2.1 ∧ KpC I s.2.2.1 ∧ BfC I s.2.2.2.1 ∧ RpC I s.2.2.2.2
def SM (I : Mem) (s : SS) : Prop := GW I s.1 ∧ HM I s.2.1 ∧ KpM I s.2.2.1 ∧ BfM I s.2.2.2.1 ∧ RpM I s.2.2.2.2
def SW (s : SS) : Prop := WF s.1 ∧ (∀ x ∈ s.2.1, WF x) ∧ (∀ (j : Nat) (x : GS), s.2.2.1 j = some x → WF x) ∧ (s.2.2.2.1.length ≤ 600 ∧ ∀ b ∈ s.2.2.2.1, 1 ≤ b ∧ b ≤ 255) ∧ (s.2.2.2.2.length < 70000 ∧ ∀ b ∈ s.2.2.2.2, 0 ≤ b ∧ b < 128)
def SI (I : Mem) (s : SS) : Prop := SC I s ∧ SM I s ∧ SW s
/-- the class's own memory, and the reference's -/
abbrev FCl : FP := fun k _ _ => k < 26
abbrev FMo : FP := fun k _ _ => 26 ≤ k ∧ k < 29
section ST
variable {I J : Mem} {s s' : SS} {g : GS} {F : FP} {bs rp : List Int}
theorem BfC.fm (h : BfC I bs) (f : Fm F I J) (h1 : ¬ F 6 0 1) (h2 : ∀ s : Nat, ¬ F 19 0 s) : BfC J bs := ⟨by rw [f.at (by decide) h1]; exact h.1, fun j hj => by rw [f.at (by decide) (h2 j)]; exact h.2 j hj⟩
theorem BfM.fm (h : BfM I bs) (f : Fm F I J) (h1 : ¬ F 26 0 20) (h2 : ∀ s : Nat, ¬ F 27 14 s) : BfM J bs := ⟨by rw [f.at (by decide) h1]; exact h.1, fun j hj => by rw [f.at (by decide) (h2 j)]; exact h.2 j hj⟩
theorem RpC.fm (h : RpC I rp) (f : Fm F I J) (h1 : ∀ s : Nat, ¬ F 10 0 s) (h2 : ∀ s : Nat, ¬ F 25 0 s) : RpC J rp := ⟨by rw [f.at (by decide) (h1 1)]; exact h.1, by rw [f.at (by decide) (h1 2)]; exact h.2.1, by rw [f.at (by decide) (h1 2)]; exact h.2.2.1, fun j hj => by rw [f.at (by decide) (h2 j)]; exact h.2.2.2 j hj⟩
theorem RpM.fm (h : RpM I rp) (f : Fm F I J) (h1 : ¬ F 26 0 43) (h2 : ∀ s : Nat, ¬ F 27 22 s) : RpM J rp := ⟨by rw [f.at (by decide) h1]; exact h.1, fun j hj => by rw [f.at (by decide) (h2 j)]; exact h.2 j hj⟩
theorem PTi.fm (h : PTi I) (f : Fm F I J) (h1 : ∀ i s : Nat, ¬ F 4 i s ∧ ¬ F 16 i s) : PTi J := by
  obtain ⟨c, kf, pl, hp⟩ := h
  exact ⟨c, kf, pl, hp.fm f h1⟩
theorem AllG.fm (h : AllG I) (f : Fm F I J) (hn : ∀ t : Nat, t < 12 → ∀ k i s : Nat, FG t k i s → ¬ F k i s) : AllG J := fun t ht => by
  obtain ⟨x, hx⟩ := h t ht
  exact ⟨x, hx.fm f (hn t ht)⟩
theorem SC.mo (h : SC I s) (f : Fm FMo I J) : SC J s := by
  obtain ⟨a1, a2, a3, a4, a5, a6, a7⟩ := h
  exact ⟨a1.fm f (fun k i s z q => by unfold FG at z; omega), a2.fm f (fun t _ k i s z q => by unfold FG at z; omega), a3.fm f (fun i s => ⟨fun z => by omega, fun z => by omega⟩), a4.fm f (fun s z => by omega) (fun t _ _ k i s z q => by unfold FG at z; omega), a5.fm f (fun s z => by omega) (fun t _ _ k i s z q => by unfold FG at z; omega), a6.fm f (fun z => by omega) (fun s z => by omega), a7.fm f (fun s z => by omega) (fun s z => by omega)⟩
theorem SM.cl (h : SM I s) (f : Fm FCl I J) : SM J s := by
  obtain ⟨a1, a2, a3, a4, a5⟩ := h
  exact ⟨a1.fm f (fun s _ z => by omega), a2.fm f (fun z => by omega) (fun s z => by omega), a3.fm f (fun s z => by omega) (fun s z => by omega), a4.fm f (fun z => by omega) (fun s z => by omega), a5.fm f (fun z => by omega) (fun s z => by omega)⟩
theorem thrw_ne {k i s : Nat} (h : k ≠ 30) : thrw I k i s = I k i s := by
  unfold thrw
  rw [sI_ne (by omega), sI_ne (by omega)]
/-- all but the counters alike -/
def Lk (I J : Mem) : Prop := ∀ k i s : Nat, k ≠ 30 → J k i s = I k i s
theorem GC.lk {t : Nat} (h : GC I t g) (f : Lk I J) : GC J t g := by
  obtain ⟨a1, a2, a3, a4, a5, a6, a7⟩ := h
  have er : ∀ (r : Nat) (l : List Int), RW I r l → RW J r l := fun r l ⟨b1, b2, b3, b4, b5⟩ => ⟨b1, by rw [f 2 r 1 (by decide)]; exact b2, by rw [f 2 r 2 (by decide)]; exact b3, by rw [f 2 r 2 (by decide)]; exact b4, fun j hj => by rw [f 12 r j (by decide)]; exact b5 j hj⟩
  exact ⟨a1, fun i hi => er _ _ (a2 i hi), er _ _ a3, er _ _ a4, fun i hi => by rw [f 14 t i (by decide)]; exact a5 i hi, fun i hi => by rw [f 15 t i (by decide)]; exact a6 i hi, by rw [f 1 t 6 (by decide), f 1 t 7 (by decide), f 1 t 8 (by decide), f 1 t 9 (by decide)]; exact a7⟩
theorem PTi.lk (h : PTi I) (f : Lk I J) : PTi J := by
  obtain ⟨c, kf, pl, hp, ⟨tl, t1, t2, t3, t4⟩, hr⟩ := h
  exact ⟨c, kf, pl, fun p hq => by rw [f 16 0 p (by decide), f 16 2 p (by decide), f 16 1 p (by decide)]; exact hp p hq, ⟨tl, t1, t2, by rw [f 4 0 4 (by decide)]; exact t3, fun j hj => by rw [f 16 3 j (by decide)]; exact t4 j hj⟩, hr⟩
theorem SC.lk (h : SC I s) (f : Lk I J) : SC J s := by
  obtain ⟨a1, a2, a3, ⟨b1, b2, nx, b3, b4, b5⟩, a5, ⟨c1, c2⟩, d1, d2, d3, d4⟩ := h
  refine ⟨a1.lk f, fun t ht => ?_, a3.lk f, ⟨b1, by rw [f 9 0 4 (by decide)]; exact b2, nx, b3, by rw [f 9 0 3 (by decide)]; exact b4, fun k hk => (b5 k hk).lk f⟩, fun j hj => ?_, ⟨by rw [f 6 0 1 (by decide)]; exact c1, fun j hj => by rw [f 19 0 j (by decide)]; exact c2 j hj⟩, by rw [f 10 0 1 (by decide)]; exact d1, by rw [f 10 0 2 (by decide)]; exact d2, by rw [f 10 0 2 (by decide)]; exact d3, fun j hj => by rw [f 25 0 j (by decide)]; exact d4 j hj⟩
  · obtain ⟨x, hx⟩ := a2 t ht
    exact ⟨x, hx.lk f⟩
  · have hh := a5 j hj
    cases e : s.2.2.1 j with
    | none => rw [e] at hh; show J 24 0 j = 0; rw [f 24 0 j (by decide)]; exact hh
    | some g => rw [e] at hh; exact ⟨by rw [f 24 0 j (by decide)]; exact hh.1, hh.2.lk f⟩
theorem SM.lk (h : SM I s) (f : Lk I J) : SM J s := by
  obtain ⟨a1, ⟨b1, b2, b3⟩, a3, ⟨c1, c2⟩, d1, d2⟩ := h
  refine ⟨GWf.congr a1 (fun q _ => f 27 0 q (by decide)), ⟨b1, by rw [f 26 0 6 (by decide)]; exact b2, fun k hk => GWf.congr (b3 k hk) (fun q _ => f 27 3 _ (by decide))⟩, fun j hj => ?_, ⟨by rw [f 26 0 20 (by decide)]; exact c1, fun j hj => by rw [f 27 14 j (by decide)]; exact c2 j hj⟩, by rw [f 26 0 43 (by decide)]; exact d1, fun j hj => by rw [f 27 22 j (by decide)]; exact d2 j hj⟩
  have hh := a3 j hj
  cases e : s.2.2.1 j with
  | none => rw [e] at hh; show J 28 0 j = 0; rw [f 28 0 j (by decide)]; exact hh
  | some g => rw [e] at hh; exact ⟨by rw [f 28 0 j (by decide)]; exact hh.1, GWf.congr hh.2 (fun q _ => f 27 4 _ (by decide))⟩
theorem lk_thrw : Lk I (thrw I) := fun _ _ _ h => thrw_ne h
/-- what one call may make, against the growth of the rows -/
def Rm (I K : Mem) : Prop := I 30 0 0 ≤ K 30 0 0 ∧ I 30 0 1 ≤ K 30 0 1 ∧ K 30 0 0 - I 30 0 0 ≤ Cap K - Cap I + 1 ∧ K 30 0 1 - I 30 0 1 ≤ 3 * (Cap K - Cap I) + 6
theorem capMo (f : Fm FMo I J) : Cap J = Cap I := by
  unfold Cap
  rw [f.at (k := 10) (i := 0) (s := 2) (by decide) (fun z => by omega), show (fun r : Nat => J 2 r 2) = fun r => I 2 r 2 from funext (fun r => f.at (by decide) (fun z => by omega))]
theorem rm_2 {K : Mem} (f : Fm FCl I J) (k : Fm FMo J K) : Rm I K := by
  have h1 := f.2
  have h2 := k.2
  unfold Gr at h1 h2
  unfold Rm
  omega
theorem rm_t {K : Mem} (k : Fm FMo (thrw I) K) : Rm I K := by
  have h2 := k.2
  have hc : Cap (thrw I) = Cap I := by
    unfold Cap
    rw [thrw_ne (by decide), show (fun r : Nat => thrw I 2 r 2) = fun r => I 2 r 2 from funext (fun r => thrw_ne (by decide))]
  have e0 := thrw_0 I
  have e1 := thrw_1 I
  unfold Gr at h2
  unfold Rm
  omega
abbrev OGI (fc fm : Mem → Option (Int × Mem)) (I : Mem) : Prop := ∃ (r1 r2 : Int) (J K : Mem) (s' : SS), fc I = some (r1, J) ∧ fm J = some (r2, K) ∧ w32 r1 = w32 r2 ∧ SI K s' ∧ Rm I K
abbrev OGW (fl fm : Mem → Option (Int × Mem)) (I : Mem) : Prop := ∃ (r1 r2 : Int) (J K : Mem) (s' : SS), fl I = some (r1, J) ∧ fm J = some (r2, K) ∧ w32 (K 26 0 7) = w32 r1 ∧ (w32 r1 = 0 → w64 (K 29 0 0) = w64 (w32 r2)) ∧ SI K s' ∧ Rm I K
theorem og_I {fc fm : Mem → Option (Int × Mem)} {u : Int} (h : SI I s) (w : SW s') (hc : Tr (fc I) (fun x J => w32 x = u ∧ SC J s' ∧ Fm FCl I J)) (hm : ∀ J : Mem, SM J s → Tr (fm J) (fun x K => w32 x = u ∧ SM K s' ∧ Fm FMo J K)) : OGI fc fm I := by
  obtain ⟨r1, J, e1, u1, c1, f1⟩ := hc
  obtain ⟨r2, K, e2, u2, c2, f2⟩ := hm J (h.2.1.cl f1)
  exact ⟨r1, r2, J, K, s', e1, e2, u1.trans u2.symm, ⟨c1.mo f2, c2, w⟩, rm_2 f1 f2⟩
theorem og_W {fp : Mem → Option ((Int ⊕ String) × Mem)} {KX : String → Mem → Option (Int × Mem)} {fm : Mem → Option (Int × Mem)} {u : Int} (h : SI I s) (w : SW s') (hc : Tr (fp I) (fun x J => (∃ v : Int, x = .inl v ∧ w32 v = u) ∧ SC J s' ∧ Fm FCl I J)) (hm : ∀ J : Mem, SM J s → Tr (fm J) (fun x K => w32 x = u ∧ SM K s' ∧ K 26 0 7 = 0 ∧ Fm FMo J K)) : OGW (fun I => bndX (fp I) kRet KX) fm I := by
  obtain ⟨r1, J, e1, ⟨v, rfl, hv⟩, c1, f1⟩ := hc
  have lk : ∀ k i q : Nat, k ≠ 29 → (sI J 29 0 0 (w32 v)) k i q = J k i q := fun k i q hk => sI_ne (by omega)
  have s29 : SM (sI J 29 0 0 (w32 v)) s := by
    obtain ⟨a1, ⟨b1, b2, b3⟩, a3, ⟨c1, c2⟩, d1, d2⟩ := h.2.1.cl f1
    refine ⟨GWf.congr a1 (fun q _ => lk 27 0 q (by decide)), ⟨b1, by rw [lk 26 0 6 (by decide)]; exact b2, fun k hk => GWf.congr (b3 k hk) (fun q _ => lk 27 3 _ (by decide))⟩, fun j hj => ?_, ⟨by rw [lk 26 0 20 (by decide)]; exact c1, fun j hj => by rw [lk 27 14 j (by decide)]; exact c2 j hj⟩, by rw [lk 26 0 43 (by decide)]; exact d1, fun j hj => by rw [lk 27 22 j (by decide)]; exact d2 j hj⟩
    have hh := a3 j hj
    cases e : s.2.2.1 j with
    | none => rw [e] at hh; show (sI J 29 0 0 (w32 v)) 28 0 j = 0; rw [lk 28 0 j (by decide)]; exact hh
    | some g => rw [e] at hh; exact ⟨by rw [lk 28 0 j (by decide)]; exact hh.1, GWf.congr hh.2 (fun q _ => lk 27 4 _ (by decide))⟩
  obtain ⟨r2, K, e2, u2, c2, e7, f2⟩ := hm (sI J 29 0 0 (w32 v)) s29
  have f29 : Fm (fun k _ _ => k = 29) J (sI J 29 0 0 (w32 v)) := Fm.sI (by decide) (by omega) (by omega) rfl
  have fall : Fm (fun k _ _ => 26 ≤ k ∧ k < 30) J K := (f29.mono (fun a b c z => by omega)).trans (f2.mono (fun a b c z => by omega))
  have sc : SC K s' := by
    obtain ⟨a1, a2, a3, a4, a5, a6, a7⟩ := c1
    exact ⟨a1.fm fall (fun k i s z q => by unfold FG at z; omega), a2.fm fall (fun t _ k i s z q => by unfold FG at z; omega), a3.fm fall (fun i s => ⟨fun z => by omega, fun z => by omega⟩), a4.fm fall (fun s z => by omega) (fun t _ _ k i s z q => by unfold FG at z; omega), a5.fm fall (fun s z => by omega) (fun t _ _ k i s z q => by unfold FG at z; omega), a6.fm fall (fun z => by omega) (fun s z => by omega), a7.fm fall (fun s z => by omega) (fun s z => by omega)⟩
  refine ⟨0, r2, _, K, s', ?_, e2, by rw [e7], fun _ => ?_, ⟨sc, c2, w⟩, ?_⟩
  · show bndX (fp I) kRet KX = _
    rw [e1]
    rfl
  · rw [f2.at (by decide) (fun z => by omega), sI_self, hv, u2]
  · have hc : Cap K = Cap J := by
      unfold Cap
      rw [fall.at (k := 10) (i := 0) (s := 2) (by decide) (fun z => by omega), show (fun r : Nat => K 2 r 2) = fun r => J 2 r 2 from funext (fun r => fall.at (by decide) (fun z => by omega))]
    have h1 := f1.2
    have h2 := fall.2
    unfold Gr at h1 h2
    unfold Rm
    omega
theorem og_X {fp : Mem → Option ((Int ⊕ String) × Mem)} {KR : Int → Mem → Option (Int × Mem)} {KX : String → Mem → Option (Int × Mem)} {fm : Mem → Option (Int × Mem)} {E : String} {k : Int} (h : SI I s) (e1 : fp I = some (.inr E, thrw I)) (hk : KX E (thrw I) = some (k, thrw I)) (h0 : w32 k ≠ 0) (hm : ∀ J : Mem, SM J s → Tr (fm J) (fun _ K => K 26 0 7 = k ∧ SM K s ∧ Fm FMo J K)) : OGW (fun I => bndX (fp I) KR KX) fm I := by
  obtain ⟨r2, K, e2, h7, c2, f2⟩ := hm _ (h.2.1.lk lk_thrw)
  refine ⟨k, r2, thrw I, K, s, ?_, e2, by rw [h7], fun z => absurd z h0, ⟨(h.1.lk lk_thrw).mo f2, c2, h.2.2⟩, rm_t f2⟩
  show bndX (fp I) KR KX = _
  rw [e1]
  exact hk
/-- what reading and changing the grammar now touches -/
abbrev FOp : FP := fun k i s => FG 0 k i s ∨ FG 1 k i s ∨ k = 3 ∨ k = 4 ∨ k = 5 ∨ k = 16 ∨ k = 17 ∨ k = 18
theorem SC.op {ps : List GS} {kp : Nat → Option GS} {g' : GS} (h : SC I (g, ps, kp, bs, rp)) (f : Fm FOp I J) (g0 : GC J 0 g') (g1 : ∃ x : GS, GC J 1 x) (pt : PTi J) : SC J (g', ps, kp, bs, rp) := by
  obtain ⟨a1, a2, a3, a4, a5, a6, a7⟩ := h
  refine ⟨g0, ?_, pt, a4.fm f (fun s z => by unfold FOp FG at z; omega) (fun t _ _ k i s z q => by unfold FG at z; unfold FOp FG at q; omega), a5.fm f (fun s z => by unfold FOp FG at z; omega) (fun t _ _ k i s z q => by unfold FG at z; unfold FOp FG at q; omega), a6.fm f (fun z => by unfold FOp FG at z; omega) (fun s z => by unfold FOp FG at z; omega), a7.fm f (fun s z => by unfold FOp FG at z; omega) (fun s z => by unfold FOp FG at z; omega)⟩
  refine a2.go f (fun t => t = 0 ∨ t = 1) (fun t _ z => ?_) (fun t _ z k i s q q2 => by unfold FG at q; unfold FOp FG at q2; omega)
  rcases z with rfl | rfl
  · exact ⟨_, g0⟩
  · exact g1
theorem fop_cl : ∀ k i s : Nat, FOp k i s → FCl k i s := fun k i s z => by unfold FOp FG at z; unfold FCl; omega
/-- what the reference's reading and changing touches -/
abbrev FMp : FP := fun k i s => (k = 27 ∧ i ≠ 3 ∧ i ≠ 4 ∧ i ≠ 14 ∧ i ≠ 22) ∨ (k = 26 ∧ s ≠ 6 ∧ s ≠ 20 ∧ s ≠ 43)
theorem SM.op {ps : List GS} {kp : Nat → Option GS} {g' : GS} (h : SM I (g, ps, kp, bs, rp)) (f : Fm FMp I J) (g0 : GW J g') : SM J (g', ps, kp, bs, rp) := by
  obtain ⟨a1, a2, a3, a4, a5⟩ := h
  exact ⟨g0, a2.fm f (by unfold FMp; omega) (fun s => by unfold FMp; omega), a3.fm f (fun s => by unfold FMp; omega) (fun s => by unfold FMp; omega), a4.fm f (by unfold FMp; omega) (fun s => by unfold FMp; omega), a5.fm f (by unfold FMp; omega) (fun s => by unfold FMp; omega)⟩
theorem fmp_mo : ∀ k i s : Nat, FMp k i s → FMo k i s := fun k i s z => by unfold FMp at z; unfold FMo; omega
end ST
