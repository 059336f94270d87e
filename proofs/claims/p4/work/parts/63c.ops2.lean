/-! ===== calls one by one: the text ===== -/
section OPS2
variable {I J : Mem} {g : GS}
theorem gTx_gF : gTx gF = [0] := by decide
theorem LET_gF : LET (gTx gF) := by
  rw [gTx_gF]
  intro x hx
  cases List.mem_singleton.mp hx
  decide
theorem FS.len (hI : FS I) : f_G_textLength 0 I = some (1, I) := by
  rw [g_textLength hI.1 (fun i hi => WF_gF.sy hi)]
  rfl
theorem unfJ (cp : CP I J) (hI : FS I) : f_M_unfolds (sI J 26 0 7 0) = some (1, sI (sI (sI (sI (sI J 26 0 7 0) 27 9 0 0) 27 10 0 0) 27 7 0 0) 27 8 0 0) :=
  unf1 (by rw [sI_ne (by decide), cp.1 27 0 16 (by decide) (by decide)]; exact hI.m16) (by rw [sI_ne (by decide), cp.1 27 0 60 (by decide) (by decide)]; exact hI.m60)
theorem MPo_27 {i s : Nat} {v : Int} : MPo J (sI J 27 i s v) := ⟨sI_ne (by omega), sI_ne (by omega), sI_ne (by omega)⟩
theorem m_place1 (cp : CP I J) (hI : FS I) : f_M_noPlace 0 (sI J 26 0 7 0) = some (0, sI (sI (sI (sI (sI J 26 0 7 0) 27 9 0 0) 27 10 0 0) 27 7 0 0) 27 8 0 0) := by
  unfold f_M_noPlace
  rw [unfJ cp hI, bnd_some, m_in1 (by decide), bnd_some, if_neg (by decide), m_fz (by rw [sI_ne (by decide), sI_ne (by decide), sI_ne (by decide), sI_ne (by decide), sI_self]), bnd_some, if_pos (Or.inl rfl)]
theorem m_place0 (cp : CP I J) (hI : FS I) {a1 : Int} (h1 : w32 a1 = a1) (hr : a1 ≠ 0) : f_M_noPlace a1 (sI J 26 0 7 0) = some (1, sI (sI (sI (sI (sI (sI J 26 0 7 0) 27 9 0 0) 27 10 0 0) 27 7 0 0) 27 8 0 0) 26 0 7 1) := by
  unfold f_M_noPlace
  rw [unfJ cp hI, bnd_some, m_in0 (by rw [h1, w0, w32c (1 - 1) (by decide)]; omega), bnd_some, if_pos (by decide), m_f1 (by rw [sI_ne (by decide), sI_ne (by decide), sI_ne (by decide), sI_ne (by decide), sI_self]) (Or.inl rfl), bnd_some, if_pos (Or.inr rfl)]
theorem MPo_unf : MPo J (sI (sI (sI (sI (sI J 26 0 7 0) 27 9 0 0) 27 10 0 0) 27 7 0 0) 27 8 0 0) := (MPo_s.trans (MPo_27.trans MPo_27)).trans (MPo_27.trans MPo_27)
theorem ok_9 (hI : FS I) (a1 : Int) (h1 : w32 a1 = a1) : OKW (f_L_letterAt a1) (f_M_letterAt a1) I := by
  by_cases hr : a1 = 0
  · subst hr
    refine ok_W (fp := f_PR_letterAt 0) (u := 0) ?_ (fun J cp => ?_)
    · unfold f_PR_letterAt
      rw [if_neg (by decide), hI.len, bnd_some, if_pos (by decide), show (0 : Int) = ((0 : Nat) : Int) from rfl, g_letterOfText hI.1 WF_gF (by rw [gTx_gF]; decide), bnd_some, gTx_gF]
      exact tr_ret ⟨⟨_, rfl, by decide⟩, CP_same⟩
    · unfold f_M_letterAt
      try dsimp only [ltI]
      rw [m_place1 cp hI, bnd_some, if_pos (by decide), if_pos (by decide), show (w32 0).toNat = 0 by decide]
      exact tr_ret ⟨by rw [sI_ne (by decide), sI_self]; decide, by rw [sI_ne (by decide), sI_ne (by decide), sI_ne (by decide), sI_ne (by decide), sI_self], MPo_unf⟩
  · refine ok_X (fp := f_PR_letterAt a1) (E := xIO) (J := thrw I) (k := 1) ?_ CP_thr (if_pos rfl) (by decide) ?_
    · unfold f_PR_letterAt
      rw [h1]
      by_cases q : a1 < 0
      · rw [if_pos q]
      · rw [if_neg q, hI.len, bnd_some, if_neg (by rw [w32c 1 (by decide)]; omega)]
    · unfold f_M_letterAt
      try dsimp only [ltI]
      rw [m_place0 CP_thr hI h1 hr, bnd_some, if_neg (by decide)]
      exact t_out MPo_unf rfl
theorem ok_10 (hI : FS I) (a1 : Int) (h1 : w32 a1 = a1) : OKW (f_L_symbolOf a1) (f_M_symbolOf a1) I := by
  by_cases hr : a1 = 0
  · subst hr
    refine ok_W (fp := f_PR_symbolOf 0) (u := 0) ?_ (fun J cp => ?_)
    · have e := g_placeOver hI.1 WF_gF (i := 0) (p := 0) (by decide) (by decide)
      unfold f_PR_symbolOf
      rw [if_neg (by decide), hI.len, bnd_some, if_pos (by decide), show 43 * 0 = rix 0 0 from rfl, e, bnd_some]
      exact tr_ret ⟨⟨_, rfl, by decide⟩, CP_same⟩
    · unfold f_M_symbolOf
      try dsimp only [ltI]
      rw [m_place1 cp hI, bnd_some, if_pos (by decide), if_pos (by decide), show (w32 0).toNat = 0 by decide]
      exact tr_ret ⟨by rw [sI_self]; decide, by rw [sI_ne (by decide), sI_ne (by decide), sI_ne (by decide), sI_ne (by decide), sI_self], MPo_unf⟩
  · refine ok_X (fp := f_PR_symbolOf a1) (E := xIO) (J := thrw I) (k := 1) ?_ CP_thr (if_pos rfl) (by decide) ?_
    · unfold f_PR_symbolOf
      rw [h1]
      by_cases q : a1 < 0
      · rw [if_pos q]
      · rw [if_neg q, hI.len, bnd_some, if_neg (by rw [w32c 1 (by decide)]; omega)]
    · unfold f_M_symbolOf
      try dsimp only [ltI]
      rw [m_place0 CP_thr hI h1 hr, bnd_some, if_neg (by decide)]
      exact t_out MPo_unf rfl
theorem FSV_ok : ∀ k i s : Nat, FSV k i s → k < 26 ∧ k ≠ 10 := fun k i s z => by unfold FSV at z; omega
theorem FSV_G : ∀ t : Nat, t < 12 → ¬ False → ∀ k i s : Nat, FG t k i s → ¬ FSV k i s := fun t _ _ k i s z q => by unfold FG at z; unfold FSV at q; omega
theorem CP_sv (hI : FS I) (f : Fm FSV I J) : CP I J := CP_of hI f FSV_ok (hI.all.go f (fun _ => False) (fun _ _ z => z.elim) FSV_G)
theorem MPo_fun {J0 K : Mem} (f : Fm FUN J0 K) : MPo J0 K := MPo_of f (fun k i s z => by unfold FUN at z; omega)
theorem ok_11 (hI : FS I) (a1 : Int) (h1 : w32 a1 = a1) : OKW (f_L_letters a1) (f_M_letters a1) I := by
  by_cases hr : 0 ≤ a1 ∧ a1 < 26
  · refine ok_W (fp := f_PR_letters a1) (u := w32 ((gTx gF).count a1 : Int)) ?_ (fun J cp => ?_)
    · have e : f_PR_isLetter a1 I = some (1, I) := by
        unfold f_PR_isLetter
        rw [h1, if_neg (by omega), if_pos (by omega)]
      unfold f_PR_letters
      rw [e, bnd_some, if_neg (by decide)]
      refine tr_call (t_unfold hI.1 WF_gF) ?_
      rintro _ J1 ⟨tx, f1⟩
      rw [s_times tx LET_gF hr, bnd_some]
      exact tr_ret ⟨⟨_, rfl, rfl⟩, CP_sv hI f1⟩
    · have gw := (hI.2.2.1.cp cp).t0 (v := 0)
      unfold f_M_letters
      try dsimp only [ltI]
      rw [chk_in (sI_self _ _ _ _ _) (by rw [h1, w0, w32c 25 (by decide)]; omega)]
      refine tr_call (t_mlettersOf gw WF_gF hr) ?_
      rintro x K ⟨rfl, -, f⟩
      exact tr_ret ⟨rfl, by rw [f.at (by decide) (by decide), sI_self], MPo_s.trans (MPo_fun f)⟩
  · refine ok_X (fp := f_PR_letters a1) (E := xIA) (J := thrw I) (k := 1) ?_ CP_thr (if_pos rfl) (by decide) ?_
    · have e : f_PR_isLetter a1 I = some (0, I) := by
        unfold f_PR_isLetter
        rw [h1]
        by_cases q : a1 < 0
        · rw [if_pos q]
        · rw [if_neg q, if_neg (by omega)]
      unfold f_PR_letters
      rw [e, bnd_some, if_pos (by decide)]
    · unfold f_M_letters
      exact t_out MPo_s (chk_out (sI_self _ _ _ _ _) (Or.inl rfl) (by rw [h1, w0, w32c 25 (by decide)]; omega))
theorem ok_13 (hI : FS I) : ∃ (r1 r2 : Int) (J K : Mem), f_PR_gap I = some (r1, J) ∧ f_M_gap J = some (r2, K) ∧ w32 r1 = w32 r2 ∧ dC I K ≤ 210600 ∧ dS I K ≤ 631700 := by
  refine ok_I (u := w32 (gapN (gTx gF) (gT gF))) ?_ (fun J cp => ?_)
  · unfold f_PR_gap
    refine tr_call (t_unfold hI.1 WF_gF) ?_
    rintro _ J1 ⟨tx, f1⟩
    have hr := (hI.1.fsv f1).2.2.1
    rw [s_gap tx hr, bnd_some]
    exact tr_ret ⟨rfl, CP_sv hI f1⟩
  · refine tr_mono (t_mgap (hI.2.2.1.cp cp) WF_gF) ?_
    rintro x K ⟨rfl, -, f, -⟩
    exact ⟨rfl, MPo_of f (fun k i s z => by unfold FUN at z; omega)⟩
theorem ok_17 (hI : FS I) : ∃ (r1 r2 : Int) (J K : Mem), f_PR_digest I = some (r1, J) ∧ f_M_digest J = some (r2, K) ∧ w64 r1 = w64 r2 ∧ dC I K ≤ 210600 ∧ dS I K ≤ 631700 := by
  have hc : Tr (f_PR_digest I) (fun x J => x = dgN (gTx gF) (gTx gF).length ∧ CP I J) := by
    unfold f_PR_digest
    refine tr_call (t_unfold hI.1 WF_gF) ?_
    rintro _ J1 ⟨tx, f1⟩
    rw [s_number tx, bnd_some]
    exact tr_ret ⟨rfl, CP_sv hI f1⟩
  obtain ⟨r1, J, e1, h1, cp⟩ := hc
  obtain ⟨r2, K, e2, h2, -, f, -⟩ := t_mdigest (hI.2.2.1.cp cp) WF_gF
  have d := d_MPo (I := I) (MPo_of f (fun k i s z => by unfold FUN at z; omega))
  have c3 := cp.2.2
  exact ⟨r1, r2, J, K, e1, e2, by rw [h1, h2], by omega, by omega⟩
theorem FL_ok {J0 K : Mem} (f : Fm FL J0 K) : MPo J0 K := MPo_of f (fun k i s z => by unfold FL at z; omega)
theorem size_x (hI : FS I) (a1 : Int) (h1 : w32 a1 = a1) (hr : ¬ (0 ≤ a1 ∧ a1 < 12)) : OKW (f_L_size a1) (f_M_size a1) I := by
  refine ok_X (fp := f_PR_size a1) (E := xIA) (J := thrw I) (k := 1) ?_ CP_thr (if_pos rfl) (by decide) ?_
  · unfold f_PR_size
    rw [h1, if_neg (by omega), if_neg (by omega), if_neg (by omega), if_neg (by omega), if_neg (by omega), if_neg (by omega), if_neg (by omega), if_neg (by omega), if_neg (by omega), if_neg (by omega), if_neg (by omega), if_neg (by omega)]
  · unfold f_M_size
    exact t_out MPo_s (chk_out (sI_self _ _ _ _ _) (Or.inl rfl) (by rw [h1, w0, w32c 11 (by decide)]; omega))
/-- the model's way to a number of SIZE -/
theorem ok_size {n : Int} (hn : 0 ≤ n ∧ n < 12) {u : Int} (hc : Tr (f_PR_size n I) (fun x J => (∃ v : Int, x = .inl v ∧ w32 v = u) ∧ CP I J)) (hm : ∀ J : Mem, CP I J → Tr (f_M_size n J) (fun x K => w32 x = u ∧ K 26 0 7 = 0 ∧ MPo J K)) : OKW (f_L_size n) (f_M_size n) I := ok_W (fp := f_PR_size n) hc hm
theorem ok_4 (hI : FS I) (a1 : Int) (h1 : w32 a1 = a1) : OKW (f_L_size a1) (f_M_size a1) I := by
  refine Classical.byCases (p := 0 ≤ a1 ∧ a1 < 12) (fun hr => ?_) (size_x hI a1 h1)
  have gwt := fun (J : Mem) (cp : CP I J) => (hI.2.2.1.cp cp).t0 (v := 0)
  have s7 := fun J : Mem => sI_self J 26 0 7 0
  rcases (show a1 = 0 ∨ a1 = 1 ∨ a1 = 2 ∨ a1 = 3 ∨ a1 = 4 ∨ a1 = 5 ∨ a1 = 6 ∨ a1 = 7 ∨ a1 = 8 ∨ a1 = 9 ∨ a1 = 10 ∨ a1 = 11 by omega) with rfl | rfl | rfl | rfl | rfl | rfl | rfl | rfl | rfl | rfl | rfl | rfl
  · refine ok_W (fp := f_PR_size 0) (u := 1) ?_ (fun J cp => ?_)
    · unfold f_PR_size
      rw [if_pos (by decide), hI.len, bnd_some]
      exact tr_ret ⟨⟨_, rfl, by decide⟩, CP_same⟩
    · unfold f_M_size
      try dsimp only [ltI]
      rw [chk_in (s7 J) (by decide), if_pos (by decide)]
      refine tr_call (t_textLong (gwt J cp) WF_gF) ?_
      rintro x K ⟨rfl, -, -, f⟩
      exact tr_ret ⟨by decide, by rw [f.at (by decide) (by decide), s7], MPo_s.trans (FL_ok f)⟩
  · refine ok_W (fp := f_PR_size 1) (u := 1) ?_ (fun J cp => ?_)
    · unfold f_PR_size
      rw [if_neg (by decide), if_pos (by decide), show 43 * 0 = 0 from rfl, hI.r0.2.1]
      exact tr_ret ⟨⟨_, rfl, by decide⟩, CP_same⟩
    · unfold f_M_size
      try dsimp only [ltI]
      rw [chk_in (s7 J) (by decide), if_neg (by decide), if_pos (by decide), m_many0 (by rw [sI_ne (by decide), cp.1 27 0 16 (by decide) (by decide)]; exact hI.m16), bnd_some]
      exact tr_ret ⟨by decide, s7 J, MPo_s⟩
  · refine ok_W (fp := f_PR_size 2) (u := w32 (nRules gF)) ?_ (fun J cp => ?_)
    · unfold f_PR_size
      rw [if_neg (by decide), if_neg (by decide), if_pos (by decide), g_manyRules hI.1, bnd_some]
      exact tr_ret ⟨⟨_, rfl, rfl⟩, CP_same⟩
    · unfold f_M_size
      try dsimp only [ltI]
      rw [chk_in (s7 J) (by decide), if_neg (by decide), if_neg (by decide), if_pos (by decide), m_rules (gwt J cp), bnd_some]
      exact tr_ret ⟨rfl, s7 J, MPo_s⟩
  · refine ok_W (fp := f_PR_size 3) (u := w32 (gSize gF)) ?_ (fun J cp => ?_)
    · unfold f_PR_size
      rw [if_neg (by decide), if_neg (by decide), if_neg (by decide), if_pos (by decide), g_totalSize hI.1, bnd_some]
      exact tr_ret ⟨⟨_, rfl, rfl⟩, CP_same⟩
    · unfold f_M_size
      try dsimp only [ltI]
      rw [chk_in (s7 J) (by decide), if_neg (by decide), if_neg (by decide), if_neg (by decide), if_pos (by decide), m_sizeNow (gwt J cp), bnd_some]
      exact tr_ret ⟨rfl, s7 J, MPo_s⟩
  · refine ok_W (fp := f_PR_size 4) (u := w32 (gN gF 0)) ?_ (fun J cp => ?_)
    · unfold f_PR_size
      rw [if_neg (by decide), if_neg (by decide), if_neg (by decide), if_neg (by decide), if_pos (by decide), show (4 : Int) = 4 + ((0 : Nat) : Int) from rfl, g_number hI.1 (by decide), bnd_some]
      exact tr_ret ⟨⟨_, rfl, rfl⟩, CP_same⟩
    · unfold f_M_size
      try dsimp only [ltI]
      rw [chk_in (s7 J) (by decide), if_neg (by decide), if_neg (by decide), if_neg (by decide), if_neg (by decide), if_pos (by decide), if_pos (by decide), show (w32 (4 - 4)).toNat = 0 by decide, (gwt J cp).2.2.2.2.2.1]
      exact tr_ret ⟨rfl, s7 J, MPo_s⟩
  · refine ok_W (fp := f_PR_size 5) (u := w32 (gN gF 1)) ?_ (fun J cp => ?_)
    · unfold f_PR_size
      rw [if_neg (by decide), if_neg (by decide), if_neg (by decide), if_neg (by decide), if_neg (by decide), if_pos (by decide), show (5 : Int) = 4 + ((1 : Nat) : Int) from rfl, g_number hI.1 (by decide), bnd_some]
      exact tr_ret ⟨⟨_, rfl, rfl⟩, CP_same⟩
    · unfold f_M_size
      try dsimp only [ltI]
      rw [chk_in (s7 J) (by decide), if_neg (by decide), if_neg (by decide), if_neg (by decide), if_neg (by decide), if_neg (by decide), if_pos (by decide), if_pos (by decide), show (w32 (5 - 4)).toNat = 1 by decide, (gwt J cp).2.2.2.2.2.2.1]
      exact tr_ret ⟨rfl, s7 J, MPo_s⟩
  · refine ok_W (fp := f_PR_size 6) (u := w32 (gN gF 2)) ?_ (fun J cp => ?_)
    · unfold f_PR_size
      rw [if_neg (by decide), if_neg (by decide), if_neg (by decide), if_neg (by decide), if_neg (by decide), if_neg (by decide), if_pos (by decide), show (6 : Int) = 4 + ((2 : Nat) : Int) from rfl, g_number hI.1 (by decide), bnd_some]
      exact tr_ret ⟨⟨_, rfl, rfl⟩, CP_same⟩
    · unfold f_M_size
      try dsimp only [ltI]
      rw [chk_in (s7 J) (by decide), if_neg (by decide), if_neg (by decide), if_neg (by decide), if_neg (by decide), if_neg (by decide), if_neg (by decide), if_pos (by decide), if_pos (by decide), show (w32 (6 - 4)).toNat = 2 by decide, (gwt J cp).2.2.2.2.2.2.2.1]
      exact tr_ret ⟨rfl, s7 J, MPo_s⟩
  · refine ok_W (fp := f_PR_size 7) (u := w32 (gLongest gF)) ?_ (fun J cp => ?_)
    · unfold f_PR_size
      rw [if_neg (by decide), if_neg (by decide), if_neg (by decide), if_neg (by decide), if_neg (by decide), if_neg (by decide), if_neg (by decide), if_pos (by decide), g_longestBody hI.1, bnd_some]
      exact tr_ret ⟨⟨_, rfl, rfl⟩, CP_same⟩
    · unfold f_M_size
      try dsimp only [ltI]
      rw [chk_in (s7 J) (by decide), if_neg (by decide), if_neg (by decide), if_neg (by decide), if_neg (by decide), if_neg (by decide), if_neg (by decide), if_neg (by decide), if_pos (by decide), m_longest (gwt J cp), bnd_some]
      exact tr_ret ⟨rfl, s7 J, MPo_s⟩
  · refine ok_W (fp := f_PR_size 8) (u := w32 (mxd (dp gF) (gR gF 0))) ?_ (fun J cp => ?_)
    · unfold f_PR_size
      rw [if_neg (by decide), if_neg (by decide), if_neg (by decide), if_neg (by decide), if_neg (by decide), if_neg (by decide), if_neg (by decide), if_neg (by decide), if_pos (by decide)]
      refine tr_call (t_measure hI.1 WF_gF) ?_
      rintro _ J1 ⟨-, f1⟩
      have hr0 := (hI.1.fsv f1).2.1 0 (by decide)
      rw [show 43 * 0 = rix 0 0 from rfl, s_deepest (d := dp gF) hr0 (WF_gF.sy (by decide)) (fun x hx => ?_) (fun x hx h26 => ?_) (fun x hx => ?_), bnd_some]
      · exact tr_ret ⟨⟨_, rfl, rfl⟩, CP_sv hI f1⟩
      · unfold dp
        rw [show sl (gL gF) x = 1 from if_pos hx]
        show dpF (gR gF) 1 x = 0
        unfold dpF
        rw [if_pos hx]
      · cases List.mem_singleton.mp hx
        exact absurd h26 (by decide)
      · cases List.mem_singleton.mp hx
        decide
    · unfold f_M_size
      try dsimp only [ltI]
      rw [chk_in (s7 J) (by decide), if_neg (by decide), if_neg (by decide), if_neg (by decide), if_neg (by decide), if_neg (by decide), if_neg (by decide), if_neg (by decide), if_neg (by decide), if_pos (by decide)]
      unfold f_M_deepNow
      rw [tr_bnd, tr_bnd]
      refine tr_mono (t_textLong (gwt J cp) WF_gF) ?_
      rintro x K ⟨rfl, h10, -, f⟩
      rw [if_pos (by decide), h10]
      refine tr_ret (tr_ret ⟨rfl, by rw [f.at (by decide) (by decide), s7], MPo_s.trans (FL_ok f)⟩)
  · refine ok_W (fp := f_PR_size 9) (u := w32 (unlN (gTx gF))) ?_ (fun J cp => ?_)
    · unfold f_PR_size
      rw [if_neg (by decide), if_neg (by decide), if_neg (by decide), if_neg (by decide), if_neg (by decide), if_neg (by decide), if_neg (by decide), if_neg (by decide), if_neg (by decide), if_pos (by decide)]
      refine tr_call (t_unfold hI.1 WF_gF) ?_
      rintro _ J1 ⟨tx, f1⟩
      rw [s_unlike tx LET_gF, bnd_some]
      exact tr_ret ⟨⟨_, rfl, rfl⟩, CP_sv hI f1⟩
    · unfold f_M_size
      try dsimp only [ltI]
      rw [chk_in (s7 J) (by decide), if_neg (by decide), if_neg (by decide), if_neg (by decide), if_neg (by decide), if_neg (by decide), if_neg (by decide), if_neg (by decide), if_neg (by decide), if_neg (by decide), if_pos (by decide)]
      refine tr_call (t_munlike (gwt J cp) WF_gF) ?_
      rintro x K ⟨rfl, -, f⟩
      exact tr_ret ⟨rfl, by rw [f.at (by decide) (by decide), s7], MPo_s.trans (MPo_fun f)⟩
  · refine ok_W (fp := f_PR_size 10) (u := w32 (worthN gF)) ?_ (fun J cp => ?_)
    · unfold f_PR_size
      rw [if_neg (by decide), if_neg (by decide), if_neg (by decide), if_neg (by decide), if_neg (by decide), if_neg (by decide), if_neg (by decide), if_neg (by decide), if_neg (by decide), if_neg (by decide), if_pos (by decide)]
      refine tr_call (t_readFrom hI.1 WF_gF hI.2.1) ?_
      rintro _ J1 ⟨hd, -, -, f1⟩
      refine tr_ret ⟨⟨_, rfl, by rw [hd.2.2.1]⟩, CP_of hI f1 (fun k i s z => by unfold FPA at z; omega) (hI.all.go f1 (fun _ => False) (fun _ _ z => z.elim) (fun t _ _ k i s z q => by unfold FG at z; unfold FPA at q; omega))⟩
    · unfold f_M_size
      try dsimp only [ltI]
      rw [chk_in (s7 J) (by decide), if_neg (by decide), if_neg (by decide), if_neg (by decide), if_neg (by decide), if_neg (by decide), if_neg (by decide), if_neg (by decide), if_neg (by decide), if_neg (by decide), if_neg (by decide), if_pos (by decide)]
      unfold f_M_worthNow
      rw [tr_bnd, tr_bnd]
      refine tr_mono (t_laysPairs (gwt J cp) (fun i hi => WF_gF.sy hi)) ?_
      rintro _ K ⟨mp, gk, f⟩
      rw [m_worthy gk mp WF_gF (by decide), bnd_some, if_pos rfl]
      refine tr_ret (tr_ret ⟨rfl, by rw [f.at (by decide) (by decide), s7], MPo_s.trans (MPo_of f (fun k i s z => by unfold FMP at z; omega))⟩)
  · refine ok_W (fp := f_PR_size 11) (u := 0) ?_ (fun J cp => ?_)
    · unfold f_PR_size
      rw [if_neg (by decide), if_neg (by decide), if_neg (by decide), if_neg (by decide), if_neg (by decide), if_neg (by decide), if_neg (by decide), if_neg (by decide), if_neg (by decide), if_neg (by decide), if_neg (by decide), if_pos (by decide), hI.at (k := 9) (by decide) (by decide)]
      exact tr_ret ⟨⟨_, rfl, by decide⟩, CP_same⟩
    · unfold f_M_size
      try dsimp only [ltI]
      rw [chk_in (s7 J) (by decide), if_neg (by decide), if_neg (by decide), if_neg (by decide), if_neg (by decide), if_neg (by decide), if_neg (by decide), if_neg (by decide), if_neg (by decide), if_neg (by decide), if_neg (by decide), if_neg (by decide), if_pos (by decide), sI_ne (by decide), cp.1 26 0 6 (by decide) (by decide), hI.at (k := 26) (by decide) (by decide)]
      exact tr_ret ⟨by decide, s7 J, MPo_s⟩
end OPS2
