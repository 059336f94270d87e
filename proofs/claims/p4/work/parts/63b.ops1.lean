/-! ===== calls one by one: reads ===== -/
section OPS1
variable {I J : Mem} {g : GS}
theorem GW.t0 {v : Int} (h : GW J g) : GW (sI J 26 0 7 v) g := GWf.congr h (fun s _ => sI_ne (by omega))
theorem MPo_s {s : Nat} {v : Int} : MPo J (sI J 26 0 s v) := ⟨sI_ne (by omega), sI_ne (by omega), sI_ne (by omega)⟩
theorem m_fz {w : Int} (h : J 26 0 7 = 0) : f_M_fails 0 w J = some (0, J) := by
  unfold f_M_fails f_M_fails_j16
  rw [h, if_pos (by decide), if_pos (by decide), if_pos (by decide)]
theorem m_f1 {w : Int} (h : J 26 0 7 = 0) (hw : w = 1 ∨ w = 2) : f_M_fails 1 w J = some (1, sI J 26 0 7 w) := by
  unfold f_M_fails f_M_fails_j16
  rw [h, if_pos (by decide), if_neg (by decide)]
  try dsimp only [ltI]
  rw [sI_self, if_neg (by rcases hw with rfl | rfl <;> decide)]
theorem m_in1 {a lo hi : Int} (h : w32 lo ≤ w32 a ∧ w32 a ≤ w32 hi) : f_M_in a lo hi J = some (1, J) := by
  unfold f_M_in
  rw [if_neg (by omega), if_neg (by omega)]
theorem m_in0 {a lo hi : Int} (h : w32 a < w32 lo ∨ w32 hi < w32 a) : f_M_in a lo hi J = some (0, J) := by
  unfold f_M_in
  by_cases q : w32 a < w32 lo
  · rw [if_pos q]
  · rw [if_neg q, if_pos (by omega)]
theorem chk_in {a lo hi w : Int} {K : Mem → Option (Int × Mem)} (h : J 26 0 7 = 0) (hr : w32 lo ≤ w32 a ∧ w32 a ≤ w32 hi) : (bnd (f_M_in a lo hi J) fun x4 J3 => bnd (f_M_fails (if (w32 x4) = 0 then 1 else 0) w J3) fun x7 J6 => if (w32 x7) = 0 then K J6 else some (0, J6)) = K J := by
  rw [m_in1 hr, bnd_some, if_neg (by decide), m_fz h, bnd_some, if_pos (by decide)]
theorem chk_out {a lo hi w : Int} {K : Mem → Option (Int × Mem)} (h : J 26 0 7 = 0) (hw : w = 1 ∨ w = 2) (hr : w32 a < w32 lo ∨ w32 hi < w32 a) : (bnd (f_M_in a lo hi J) fun x4 J3 => bnd (f_M_fails (if (w32 x4) = 0 then 1 else 0) w J3) fun x7 J6 => if (w32 x7) = 0 then K J6 else some (0, J6)) = some (0, sI J 26 0 7 w) := by
  rw [m_in0 hr, bnd_some, if_pos (by decide), m_f1 h hw, bnd_some, if_neg (by decide)]
theorem t_out {w : Int} {e : Option (Int × Mem)} {J0 : Mem} (h : MPo J0 J) (he : e = some (0, sI J 26 0 7 w)) : Tr e (fun _ K => K 26 0 7 = w ∧ MPo J0 K) := by
  rw [he]
  exact tr_ret ⟨sI_self _ _ _ _ _, h.trans MPo_s⟩
theorem w0 : w32 0 = 0 := by decide
theorem w32c (n : Int) (h : -2147483648 ≤ n ∧ n < 2147483648) : w32 n = n := w32_of h.1 h.2
theorem ok_3 (hI : FS I) : ∃ (r1 r2 : Int) (J K : Mem), f_PR_errorPosition I = some (r1, J) ∧ f_M_errorPosition J = some (r2, K) ∧ w32 r1 = w32 r2 ∧ dC I K ≤ 210600 ∧ dS I K ≤ 631700 := by
  refine ok_I (u := -1) ?_ (fun J cp => ?_)
  · unfold f_PR_errorPosition
    refine tr_ret ⟨?_, CP_same⟩
    rw [hI.at (by decide) (by decide)]
    decide
  · unfold f_M_errorPosition
    refine tr_ret ⟨?_, MPo_s⟩
    rw [sI_ne (by decide), cp.1 26 0 27 (by decide) (by decide), hI.at (by decide) (by decide)]
    decide
theorem ok_12 (hI : FS I) (a1 : Int) (h1 : w32 a1 = a1) : OKW (f_L_account a1) (f_M_account a1) I := by
  by_cases hr : 0 ≤ a1 ∧ a1 < 9
  · obtain ⟨j, rfl, hj⟩ : ∃ j : Nat, a1 = (j : Int) ∧ j < 9 := ⟨a1.toNat, by omega, by omega⟩
    refine ok_W (fp := f_PR_account (j : Int)) (u := w32 (gA gF j)) ?_ (fun J cp => ?_)
    · unfold f_PR_account
      rw [h1, if_neg (by omega), if_pos (by omega), g_accountOf hI.1 hj, bnd_some]
      exact tr_ret ⟨⟨_, rfl, rfl⟩, CP_same⟩
    · have gw := (hI.2.2.1.cp cp).t0 (v := 0)
      unfold f_M_account
      try dsimp only [ltI]
      rw [chk_in (sI_self _ _ _ _ _) (by rw [h1, w0, w32c 8 (by decide)]; omega), w32c (6 + (j : Int)) (by omega), if_pos (by omega), show ((6 : Int) + (j : Int)).toNat = 6 + j by omega, gw.2.2.2.2.1 j hj]
      exact tr_ret ⟨rfl, sI_self _ _ _ _ _, MPo_s⟩
  · refine ok_X (fp := f_PR_account a1) (E := xIA) (J := thrw I) (k := 1) ?_ CP_thr (if_pos rfl) (by decide) ?_
    · unfold f_PR_account
      rw [h1]
      by_cases q : a1 < 0
      · rw [if_pos q]
      · rw [if_neg q, if_neg (by omega)]
    · unfold f_M_account
      exact t_out MPo_s (chk_out (sI_self _ _ _ _ _) (Or.inl rfl) (by rw [h1, w0, w32c 8 (by decide)]; omega))
theorem FS.r0 (hI : FS I) : RW I 0 [0] := hI.1.2.1 0 (by decide)
theorem FS.m16 (hI : FS I) : I 27 0 16 = 1 := (hI.2.2.1.1 0 (by decide)).1
theorem FS.m60 (hI : FS I) : I 27 0 60 = 0 := (hI.2.2.1.1 0 (by decide)).2.2 0 (by decide)
theorem m_many0 (h : J 27 0 16 = 1) : f_M_many 0 J = some (1, J) := by
  unfold f_M_many
  rw [if_pos (by decide), show (w32 (16 + 0)).toNat = 16 by decide, h]
theorem ok_8 (hI : FS I) (a1 : Int) (h1 : w32 a1 = a1) : OKW (f_L_startAt a1) (f_M_startAt a1) I := by
  have hb := w32_rng a1
  rw [h1] at hb
  have hrow := row_atI hI.r0 hb.1 hb.2
  by_cases hr : a1 = 0
  · subst hr
    refine ok_W (fp := f_PR_startAt 0) (u := 0) ?_ (fun J cp => ?_)
    · unfold f_PR_startAt
      rw [show 43 * 0 = 0 from rfl, hrow, bnd_some, if_neg (by decide)]
      exact tr_ret ⟨⟨_, rfl, by decide⟩, CP_same⟩
    · have e16 : (sI J 26 0 7 0) 27 0 16 = 1 := by rw [sI_ne (by decide), cp.1 27 0 16 (by decide) (by decide)]; exact hI.m16
      unfold f_M_startAt
      try dsimp only [ltI]
      rw [m_many0 e16, bnd_some, chk_in (sI_self _ _ _ _ _) (by decide)]
      unfold f_M_at
      rw [if_pos (by decide), show (w32 (60 + 400 * 0 + 0)).toNat = 60 by decide, sI_ne (by decide), cp.1 27 0 60 (by decide) (by decide), hI.m60]
      exact tr_ret ⟨by decide, sI_self _ _ _ _ _, MPo_s⟩
  · refine ok_X (fp := f_PR_startAt a1) (E := xIO) (J := thrw I) (k := 1) ?_ CP_thr (if_pos rfl) (by decide) ?_
    · unfold f_PR_startAt
      rw [show 43 * 0 = 0 from rfl, hrow, bnd_some]
      have e : (if a1 < 0 then (-1 : Int) else [(0 : Int)].getD a1.toNat (-1)) = -1 := by
        by_cases q : a1 < 0
        · rw [if_pos q]
        · rw [if_neg q]
          exact getD_out (by simp; omega)
      rw [e, if_pos (by decide)]
    · unfold f_M_startAt
      have e16 : (sI (thrw I) 26 0 7 0) 27 0 16 = 1 := by rw [sI_ne (by decide), (CP_thr (I := I)).1 27 0 16 (by decide) (by decide)]; exact hI.m16
      try dsimp only [ltI]
      rw [m_many0 e16, bnd_some]
      exact t_out MPo_s (chk_out (sI_self _ _ _ _ _) (Or.inl rfl) (by rw [h1, w0, w32c (1 - 1) (by decide)]; omega))
theorem m_isHere0 (h : GW J gF) {r : Nat} (hr : r < 40) : f_M_isHere (r : Int) J = some (0, J) := by
  rw [m_isHere h hr, bI_neg (by rw [gF_Rs]; simp)]
theorem m_noSuch (h : GW J gF) (h7 : J 26 0 7 = 0) {a1 : Int} (h1 : w32 a1 = a1) : f_M_noSuchRule a1 J = some (1, sI J 26 0 7 1) := by
  have key : f_M_noSuchRule_j19 J = some (1, sI J 26 0 7 1) := by
    unfold f_M_noSuchRule_j19
    rw [m_f1 h7 (Or.inl rfl), bnd_some, if_pos (Or.inr rfl)]
  unfold f_M_noSuchRule
  by_cases hr : 0 ≤ a1 ∧ a1 < 40
  · obtain ⟨j, rfl, hj⟩ : ∃ j : Nat, a1 = (j : Int) ∧ j < 40 := ⟨a1.toNat, by omega, by omega⟩
    rw [m_in1 (by rw [h1, w0, w32c 39 (by decide)]; omega), bnd_some, if_neg (by decide), m_isHere0 h hj, bnd_some, if_pos (by decide)]
    exact key
  · rw [m_in0 (by rw [h1, w0, w32c 39 (by decide)]; omega), bnd_some, if_pos (by decide)]
    exact key
theorem ok_7 (hI : FS I) (a1 a2 : Int) (h1 : w32 a1 = a1) (h2 : w32 a2 = a2) : OKW (f_L_bodyAt a1 a2) (f_M_bodyAt a1 a2) I := by
  have hb := w32_rng a1
  rw [h1] at hb
  have hb2 := w32_rng a2
  rw [h2] at hb2
  refine ok_X (fp := f_PR_bodyAt a1 a2) (E := xIO) (J := thrw I) (k := 1) ?_ CP_thr (if_pos rfl) (by decide) ?_
  · have hrw : ∃ r : Nat, f_G_body 0 a1 I = some (r, I) ∧ RW I r [] := by
      refine ⟨_, g_bodyI (by decide) hb.1 hb.2, ?_⟩
      by_cases q : 0 ≤ a1 ∧ a1 < 40
      · rw [if_pos q]; exact hI.1.2.1 (a1.toNat + 1) (by omega)
      · rw [if_neg q]; exact hI.1.2.2.2.1
    obtain ⟨r, e1, hrr⟩ := hrw
    unfold f_PR_bodyAt
    rw [e1, bnd_some, if_pos hrr.1, row_atI hrr hb2.1 hb2.2, bnd_some]
    have e : (if a2 < 0 then (-1 : Int) else ([] : List Int).getD a2.toNat (-1)) = -1 := by
      by_cases q : a2 < 0
      · rw [if_pos q]
      · rw [if_neg q]; rfl
    rw [e, if_pos (by decide)]
  · have gw := (hI.2.2.1.cp (CP_thr (I := I))).t0 (v := 0)
    unfold f_M_bodyAt
    try dsimp only [ltI]
    rw [m_noSuch gw (sI_self _ _ _ _ _) h1, bnd_some, if_neg (by decide)]
    exact t_out MPo_s rfl
theorem g_noRule (hI : FS I) {a1 : Int} (h1 : w32 a1 = a1) : f_G_hasRule 0 a1 I = some (0, I) := by
  have hb := w32_rng a1
  rw [h1] at hb
  rw [g_hasRuleI hI.1 hb.1 hb.2, bI_neg (fun z => z.2.2 (gF_Rs _))]
theorem ok_6 (hI : FS I) (a1 a2 : Int) (h1 : w32 a1 = a1) (_h2 : w32 a2 = a2) : OKW (f_L_rule a1 a2) (f_M_rule a1 a2) I := by
  refine ok_X (fp := f_PR_rule a1 a2) (E := xIO) (J := thrw I) (k := 1) ?_ CP_thr (if_pos rfl) (by decide) ?_
  · unfold f_PR_rule
    rw [g_noRule hI h1, bnd_some, if_pos (by decide)]
  · have gw := (hI.2.2.1.cp (CP_thr (I := I))).t0 (v := 0)
    unfold f_M_rule
    try dsimp only [ltI]
    rw [m_noSuch gw (sI_self _ _ _ _ _) h1, bnd_some, if_neg (by decide)]
    exact t_out MPo_s rfl
theorem m_noRule1 (h7 : J 26 0 7 = 0) {a1 : Int} (h1 : w32 a1 = a1) (hr : 0 ≤ a1 ∧ a1 < 40) : f_M_noRule a1 J = some (0, J) := by
  unfold f_M_noRule
  rw [m_in1 (by rw [h1, w0, w32c 39 (by decide)]; omega), bnd_some, if_neg (by decide), m_fz h7, bnd_some, if_pos (Or.inl rfl)]
theorem m_noRule0 (h7 : J 26 0 7 = 0) {a1 : Int} (h1 : w32 a1 = a1) (hr : ¬ (0 ≤ a1 ∧ a1 < 40)) : f_M_noRule a1 J = some (1, sI J 26 0 7 1) := by
  unfold f_M_noRule
  rw [m_in0 (by rw [h1, w0, w32c 39 (by decide)]; omega), bnd_some, if_pos (by decide), m_f1 h7 (Or.inl rfl), bnd_some, if_pos (Or.inr rfl)]
theorem ok_5 (hI : FS I) (a1 : Int) (h1 : w32 a1 = a1) : ∃ (r1 r2 : Int) (J K : Mem), f_L_isRule a1 I = some (r1, J) ∧ f_M_isRule a1 J = some (r2, K) ∧ w32 (K 26 0 7) = w32 r1 ∧ (w32 r1 = 0 → w64 (K 29 0 0) = w64 (if w32 r2 = 0 then 0 else 1)) ∧ dC I K ≤ 210600 ∧ dS I K ≤ 631700 := by
  by_cases hr : 0 ≤ a1 ∧ a1 < 40
  · obtain ⟨j, rfl, hj⟩ : ∃ j : Nat, a1 = (j : Int) ∧ j < 40 := ⟨a1.toNat, by omega, by omega⟩
    have cp := CP_out (v := 0) (CP_same (I := I))
    have gw := (hI.2.2.1.cp cp).t0 (v := 0)
    refine ⟨0, 0, sI I 29 0 0 0, sI (sI I 29 0 0 0) 26 0 7 0, ?_, ?_, by rw [sI_self], fun _ => ?_, ?_⟩
    · unfold f_L_isRule f_PR_isRule
      rw [h1, if_neg (by omega), if_pos (by omega), g_noRule hI h1, bnd_some, if_pos (Or.inl rfl)]
      exact (if_pos (by decide) : (if w32 0 = 0 then some ((0 : Int), sI I 29 0 0 0) else some (0, sI I 29 0 0 1)) = some (0, sI I 29 0 0 0))
    · unfold f_M_isRule
      try dsimp only [ltI]
      rw [m_noRule1 (sI_self _ _ _ _ _) h1 (by omega), bnd_some, if_pos (by decide), m_isHere0 gw hj, bnd_some, if_pos (by decide)]
    · rw [sI_ne (by decide), sI_self, if_pos (by decide)]
    · have d := d_MPo (I := I) (MPo_s (J := sI I 29 0 0 0) (s := 7) (v := 0))
      have := cp.2.2
      omega
  · have cp := CP_thr (I := I)
    refine ⟨1, 0, thrw I, sI (sI (thrw I) 26 0 7 0) 26 0 7 1, ?_, ?_, by rw [sI_self], fun z => absurd z (by decide), ?_⟩
    · have e : f_PR_isRule a1 I = some (.inr xIO, thrw I) := by
        unfold f_PR_isRule
        rw [h1]
        by_cases q : a1 < 0
        · rw [if_pos q]
        · rw [if_neg q, if_neg (by omega)]
      unfold f_L_isRule
      rw [e]
      exact (if_pos rfl : (if xIO = xIO then some ((1 : Int), thrw I) else none) = some (1, thrw I))
    · unfold f_M_isRule
      try dsimp only [ltI]
      rw [m_noRule0 (sI_self _ _ _ _ _) h1 hr, bnd_some, if_neg (by decide)]
    · have d := d_MPo (I := I) (MPo.trans (MPo_s (J := thrw I) (s := 7) (v := 0)) (MPo_s (s := 7) (v := 1)))
      have := cp.2.2
      omega
theorem ok_14 (hI : FS I) : ∃ (r1 r2 : Int) (J K : Mem), f_PR_rulesGap I = some (r1, J) ∧ f_M_rulesGap J = some (r2, K) ∧ w32 r1 = w32 r2 ∧ dC I K ≤ 210600 ∧ dS I K ≤ 631700 := by
  refine ok_I (u := w32 (((((gN gF 3 + gA gF 1) - gA gF 2) - gA gF 3) - gA gF 4) - nRules gF)) ?_ (fun J cp => ?_)
  · unfold f_PR_rulesGap
    rw [show (1 : Int) = ((1 : Nat) : Int) from rfl, show (2 : Int) = ((2 : Nat) : Int) from rfl, show (3 : Int) = ((3 : Nat) : Int) from rfl, show (4 : Int) = ((4 : Nat) : Int) from rfl, g_accountOf hI.1 (by decide), bnd_some, g_accountOf hI.1 (by decide), bnd_some, g_accountOf hI.1 (by decide), bnd_some, g_accountOf hI.1 (by decide), bnd_some, g_manyRules hI.1, bnd_some, hI.1.2.2.2.2.2.2.2.2.2]
    exact tr_ret ⟨rfl, CP_same⟩
  · have gw := (hI.2.2.1.cp cp).t0 (v := 0)
    unfold f_M_rulesGap
    try dsimp only [ltI]
    rw [m_rules gw, bnd_some, gw.2.2.2.2.2.2.2.2]
    rw [show (sI J 26 0 7 0) 27 0 7 = gA gF 1 from gw.2.2.2.2.1 1 (by decide), show (sI J 26 0 7 0) 27 0 8 = gA gF 2 from gw.2.2.2.2.1 2 (by decide), show (sI J 26 0 7 0) 27 0 9 = gA gF 3 from gw.2.2.2.2.1 3 (by decide), show (sI J 26 0 7 0) 27 0 10 = gA gF 4 from gw.2.2.2.2.1 4 (by decide)]
    exact tr_ret ⟨rfl, MPo_s⟩
theorem ok_35 (hI : FS I) (a1 : Int) (h1 : w32 a1 = a1) : ∃ (r1 r2 : Int) (J K : Mem), f_PR_reportByte a1 I = some (r1, J) ∧ f_M_reportByte a1 J = some (r2, K) ∧ w32 r1 = w32 r2 ∧ dC I K ≤ 210600 ∧ dS I K ≤ 631700 := by
  refine ok_I (u := -1) ?_ (fun J cp => ?_)
  · have e : f_Rep_at a1 I = some (-1, I) := by
      unfold f_Rep_at
      rw [h1]
      by_cases q : a1 < 0
      · rw [if_pos q]
      · rw [if_neg q, hI.at (k := 10) (i := 0) (s := 1) (by decide) (by decide), if_neg (by show ¬ a1 < w32 0; rw [w0]; exact q)]
    unfold f_PR_reportByte
    rw [e, bnd_some]
    exact tr_ret ⟨by decide, CP_same⟩
  · have e43 : (sI J 26 0 7 0) 26 0 43 = 0 := by rw [sI_ne (by decide), cp.1 26 0 43 (by decide) (by decide), hI.at (by decide) (by decide)]; rfl
    unfold f_M_reportByte
    try dsimp only [ltI]
    rw [e43, m_in0 (by rw [h1, w0, w32c (0 - 1) (by decide)]; omega), bnd_some, if_pos (by decide)]
    exact tr_ret ⟨by decide, MPo_s⟩
theorem ok_36 (hI : FS I) : OKW (f_L_undo) (f_M_undo) I := by
  refine ok_X (fp := f_PR_undo) (E := xNS) (J := thrw I) (k := 1) ?_ CP_thr (if_pos rfl) (by decide) ?_
  · unfold f_PR_undo
    rw [hI.at (k := 9) (i := 0) (s := 4) (by decide) (by decide), if_pos (by decide)]
  · have e6 : (sI (thrw I) 26 0 7 0) 26 0 6 = 0 := by rw [sI_ne (by decide), (CP_thr (I := I)).1 26 0 6 (by decide) (by decide), hI.at (by decide) (by decide)]; rfl
    unfold f_M_undo
    try dsimp only [ltI]
    rw [e6, if_pos (by decide), m_f1 (sI_self _ _ _ _ _) (Or.inl rfl), bnd_some, if_neg (by decide)]
    exact t_out MPo_s rfl
theorem m_noSlot1 (h7 : J 26 0 7 = 0) {a1 : Int} (h1 : w32 a1 = a1) (hr : 0 ≤ a1 ∧ a1 < 2) : f_M_noSlot a1 J = some (0, J) := by
  unfold f_M_noSlot
  rw [m_in1 (by rw [h1, w0, w32c 1 (by decide)]; omega), bnd_some, if_neg (by decide), m_fz h7, bnd_some, if_pos (Or.inl rfl)]
theorem m_noSlot0 (h7 : J 26 0 7 = 0) {a1 : Int} (h1 : w32 a1 = a1) (hr : ¬ (0 ≤ a1 ∧ a1 < 2)) : f_M_noSlot a1 J = some (1, sI J 26 0 7 1) := by
  unfold f_M_noSlot
  rw [m_in0 (by rw [h1, w0, w32c 1 (by decide)]; omega), bnd_some, if_pos (by decide), m_f1 h7 (Or.inl rfl), bnd_some, if_pos (Or.inr rfl)]
theorem ok_38 (hI : FS I) (a1 : Int) (h1 : w32 a1 = a1) : OKW (f_L_restore a1) (f_M_restore a1) I := by
  by_cases hr : 0 ≤ a1 ∧ a1 < 2
  · refine ok_X (fp := f_PR_restore a1) (E := xNS) (J := thrw I) (k := 2) ?_ CP_thr ?_ (by decide) ?_
    · have e : f_His_hasKept a1 I = some (0, I) := by
        unfold f_His_hasKept
        rw [h1, if_neg (by omega), if_pos (by omega), if_pos (by omega), hI.at (k := 24) (by decide) (by decide), if_pos (by show w32 0 = 0; decide)]
      unfold f_PR_restore
      rw [h1, if_neg (by omega), if_pos (by omega), e, bnd_some, if_pos (by decide)]
    · show (if xNS = xIA then _ else if xNS = xNS then _ else _) = _
      rw [if_neg (by decide), if_pos rfl]
    · have e28 : (sI (thrw I) 26 0 7 0) 28 0 a1.toNat = 0 := by rw [sI_ne (by omega), (CP_thr (I := I)).1 28 0 _ (by decide) (by decide), hI.at (by decide) (by decide)]; rfl
      unfold f_M_restore
      try dsimp only [ltI]
      rw [m_noSlot1 (sI_self _ _ _ _ _) h1 hr, bnd_some, if_pos (by decide), h1, if_pos (by omega), e28, if_pos (by decide), m_f1 (sI_self _ _ _ _ _) (Or.inr rfl), bnd_some, if_neg (by decide)]
      exact t_out MPo_s rfl
  · refine ok_X (fp := f_PR_restore a1) (E := xIA) (J := thrw I) (k := 1) ?_ CP_thr ?_ (by decide) ?_
    · unfold f_PR_restore
      rw [h1]
      by_cases q : a1 < 0
      · rw [if_pos q]
      · rw [if_neg q, if_neg (by omega)]
    · show (if xIA = xIA then _ else _) = _
      rw [if_pos rfl]
    · unfold f_M_restore
      try dsimp only [ltI]
      rw [m_noSlot0 (sI_self _ _ _ _ _) h1 hr, bnd_some, if_neg (by decide)]
      exact t_out MPo_s rfl
end OPS1
