/-! ===== feed ===== -/
section FEED
variable {I J : Mem} {g g' : GS} {ps : List GS} {kp : Nat → Option GS} {bs rp : List Int} {s : SS}
theorem by_le (v : Int) : ian v 255 ≤ 255 := by
  unfold ian
  have h : ((Int32.ofInt v).toBitVec &&& 255#32).msb = false := by
    rw [BitVec.msb_and]
    exact Bool.and_false _
  show ((Int32.ofInt v).toBitVec &&& 255#32).toInt ≤ 255
  rw [BitVec.toInt_eq_toNat_of_msb h, BitVec.toNat_and]
  have := Nat.and_le_right (n := (Int32.ofInt v).toBitVec.toNat) (m := (255#32).toNat)
  have e : (255#32).toNat = 255 := rfl
  omega
def fedN (v : Int) : Nat → List Int
  | 0 => []
  | k + 1 => fedN v k ++ (if byK v k = 0 then [] else [byK v k])
theorem fedN_len (v : Int) : ∀ k : Nat, (fedN v k).length = nbk v k
  | 0 => rfl
  | k + 1 => by
    have ih := fedN_len v k
    show (fedN v k ++ (if byK v k = 0 then [] else [byK v k])).length = nbk v k + (if byK v k = 0 then 0 else 1)
    rw [List.length_append, ih]
    by_cases q : byK v k = 0
    · rw [if_pos q, if_pos q]; rfl
    · rw [if_neg q, if_neg q]; rfl
theorem fedN_rng (v : Int) : ∀ k : Nat, ∀ b ∈ fedN v k, 1 ≤ b ∧ b ≤ 255
  | 0, b, hb => absurd hb List.not_mem_nil
  | k + 1, b, hb => by
    have hb : b ∈ fedN v k ++ (if byK v k = 0 then [] else [byK v k]) := hb
    rcases List.mem_append.mp hb with z | z
    · exact fedN_rng v k b z
    · by_cases q : byK v k = 0
      · rw [if_pos q] at z; exact absurd z List.not_mem_nil
      · rw [if_neg q] at z
        rw [List.mem_singleton.mp z]
        have h1 := by_nn (isr v (24 - 8 * (k : Int)))
        have h2 := by_le (isr v (24 - 8 * (k : Int)))
        have q' : ¬ ian (isr v (24 - 8 * (k : Int))) 255 = 0 := q
        show 1 ≤ ian (isr v (24 - 8 * (k : Int))) 255 ∧ ian (isr v (24 - 8 * (k : Int))) 255 ≤ 255
        omega
theorem nbk_mono (v : Int) (a : Nat) : ∀ k : Nat, nbk v a ≤ nbk v (a + k)
  | 0 => Nat.le_refl _
  | k + 1 => by
    have := nbk_mono v a k
    show nbk v a ≤ nbk v (a + k) + (if byK v (a + k) = 0 then 0 else 1)
    split <;> omega
theorem t_takeG (v : Int) (hl : bs.length + nbk v 4 ≤ 600) (h : BfC I bs) : Tr (f_Src_take v I) (fun _ J => BfC J (bs ++ fedN v 4) ∧ Fm FSrc I J) := by
  unfold f_Src_take
  refine tr_call (P := fun _ J => BfC J (bs ++ fedN v 4) ∧ Fm FSrc I J) (tr_cnt (fun k => 24 - 8 * (k : Int)) (fun k J => BfC J (bs ++ fedN v k) ∧ Fm FSrc I J) 4 rfl ⟨by rw [show fedN v 0 = [] from rfl, List.append_nil]; exact h, Fm.refl _ _⟩ ?_ ?_) (fun _ _ q => tr_ret q)
  · rintro k J hk ⟨⟨e, eb⟩, f⟩
    have hm := nbk_mono v (k + 1) (4 - (k + 1))
    rw [show k + 1 + (4 - (k + 1)) = 4 by omega] at hm
    have hs : nbk v (k + 1) = nbk v k + (if byK v k = 0 then 0 else 1) := rfl
    have hlen : (bs ++ fedN v k).length = bs.length + nbk v k := by rw [List.length_append, fedN_len]
    have es : bs ++ fedN v (k + 1) = bs ++ fedN v k ++ (if byK v k = 0 then [] else [byK v k]) := by rw [List.append_assoc]; rfl
    unfold f_Src_take_w3
    rw [w32_of (x := 24 - 8 * (k : Int)) (by omega) (by omega), if_neg (by omega), by_eq v hk, by_w]
    by_cases q : byK v k = 0
    · rw [if_pos q]
      refine tr_ret ⟨by omega, ?_, f⟩
      rw [es, if_pos q, List.append_nil]
      exact ⟨e, eb⟩
    · rw [if_neg q] at hs
      rw [if_neg q, e, w32_of (x := ((bs ++ fedN v k).length : Int)) (by omega) (by omega), if_pos (by omega), if_pos (by omega), Int.toNat_natCast]
      try dsimp only [ltI]
      rw [sI_ne (by omega), e]
      refine tr_ret ⟨by omega, ?_, f.trans ((Fm.sI (by decide) (by omega) (by omega) (Or.inl rfl)).trans (Fm.sI (by decide) (by omega) (by omega) (Or.inr ⟨rfl, rfl⟩)))⟩
      rw [es, if_neg q]
      refine ⟨by rw [sI_self, List.length_append (as := bs ++ fedN v k)]; rfl, fun j hj => ?_⟩
      rw [List.length_append (as := bs ++ fedN v k)] at hj
      have hj : j < (bs ++ fedN v k).length + 1 := hj
      rw [sI_ne (by omega)]
      by_cases z : j = (bs ++ fedN v k).length
      · subst z
        rw [sI_self, gd_r (Nat.le_refl _), Nat.sub_self]
        rfl
      · rw [sI_ne (by omega), gd_l (by omega)]
        exact eb j (by omega)
  · rintro J z
    unfold f_Src_take_w3
    rw [if_pos (by decide)]
    exact tr_ret z
theorem t_feedsG (v : Int) (hl : bs.length + nbk v 4 ≤ 600) (h : BfM I bs) : Tr (f_M_feeds v I) (fun _ J => BfM J (bs ++ fedN v 4) ∧ Fm FMf I J) := by
  unfold f_M_feeds
  refine tr_call (P := fun _ J => BfM J (bs ++ fedN v 4) ∧ Fm FMf I J) (tr_cnt (fun k => 24 - 8 * (k : Int)) (fun k J => BfM J (bs ++ fedN v k) ∧ Fm FMf I J) 4 rfl ⟨by rw [show fedN v 0 = [] from rfl, List.append_nil]; exact h, Fm.refl _ _⟩ ?_ ?_) (fun _ _ q => tr_ret q)
  · rintro k J hk ⟨⟨e, eb⟩, f⟩
    have hm := nbk_mono v (k + 1) (4 - (k + 1))
    rw [show k + 1 + (4 - (k + 1)) = 4 by omega] at hm
    have hs : nbk v (k + 1) = nbk v k + (if byK v k = 0 then 0 else 1) := rfl
    have hlen : (bs ++ fedN v k).length = bs.length + nbk v k := by rw [List.length_append, fedN_len]
    have es : bs ++ fedN v (k + 1) = bs ++ fedN v k ++ (if byK v k = 0 then [] else [byK v k]) := by rw [List.append_assoc]; rfl
    unfold f_M_feeds_w3
    rw [w32_of (x := 24 - 8 * (k : Int)) (by omega) (by omega), if_neg (by omega), by_w]
    by_cases q : byK v k = 0
    · rw [if_pos q]
      refine tr_ret ⟨by omega, ?_, f⟩
      rw [es, if_pos q, List.append_nil]
      exact ⟨e, eb⟩
    · rw [if_neg q] at hs
      rw [if_neg q, e, w32_of (x := ((bs ++ fedN v k).length : Int)) (by omega) (by omega), if_pos (by omega), Int.toNat_natCast]
      try dsimp only [ltI]
      rw [sI_ne (by omega), e]
      refine tr_ret ⟨by omega, ?_, f.trans ((Fm.sI (by decide) (by omega) (by omega) (Or.inl ⟨rfl, rfl⟩)).trans (Fm.sI (by decide) (by omega) (by omega) (Or.inr ⟨rfl, rfl⟩)))⟩
      rw [es, if_neg q]
      refine ⟨by rw [sI_self, List.length_append (as := bs ++ fedN v k)]; rfl, fun j hj => ?_⟩
      rw [List.length_append (as := bs ++ fedN v k)] at hj
      have hj : j < (bs ++ fedN v k).length + 1 := hj
      rw [sI_ne (by omega)]
      by_cases z : j = (bs ++ fedN v k).length
      · subst z
        rw [sI_self, gd_r (Nat.le_refl _), Nat.sub_self]
        rfl
      · rw [sI_ne (by omega), gd_l (by omega)]
        exact eb j (by omega)
  · rintro J z
    unfold f_M_feeds_w3
    rw [if_pos (by decide)]
    exact tr_ret z
theorem og_0 (h : SI I s) (a1 a2 a3 a4 a5 : Int) : OGI (f_PR_feed a1 a2 a3 a4 a5) (f_M_feed a1 a2 a3 a4 a5) I := by
  obtain ⟨g, ps, kp, bs, rp⟩ := s
  have hl : bs.length ≤ 600 := h.2.2.2.2.2.1.1
  have hbr : ∀ b ∈ bs, 1 ≤ b ∧ b ≤ 255 := h.2.2.2.2.2.1.2
  have n1 := nbk_le a1 4
  have n2 := nbk_le a2 4
  have n3 := nbk_le a3 4
  have n4 := nbk_le a4 4
  have n5 := nbk_le a5 4
  have l1 := fedN_len a1 4
  have l2 := fedN_len a2 4
  have l3 := fedN_len a3 4
  have l4 := fedN_len a4 4
  have l5 := fedN_len a5 4
  obtain ⟨a1', b2, b3, b4, b5, b6, b7⟩ := h.1
  have e6 : I 6 0 1 = (bs.length : Int) := b6.1
  by_cases hr : 600 < bs.length + nbk a1 4 + nbk a2 4 + nbk a3 4 + nbk a4 4 + nbk a5 4
  · refine og_I (s' := (g, ps, kp, bs, rp)) (u := w32 (-1)) h h.2.2 ?_ (fun J sm => m_endI ?_)
    · have er : f_Src_hasRoomFor (((((nbk a1 4 : Int) + (nbk a2 4 : Int)) + (nbk a3 4 : Int)) + (nbk a4 4 : Int)) + (nbk a5 4 : Int)) I = some (0, I) := by
        unfold f_Src_hasRoomFor
        rw [e6, w32_of (by omega) (by omega), if_pos (by omega)]
      unfold f_PR_feed
      rw [s_bytesIn, bnd_some, s_bytesIn, bnd_some, s_bytesIn, bnd_some, s_bytesIn, bnd_some, s_bytesIn, bnd_some, er, bnd_some, if_pos (by decide)]
      exact tr_ret ⟨rfl, h.1, Fm.refl _ _⟩
    · have s0 := sm.t7 (v := 0)
      have e20 : (sI J 26 0 7 0) 26 0 20 = (bs.length : Int) := s0.2.2.2.1.1
      unfold f_M_feed
      try dsimp only [ltI]
      rw [m_bytesIn, bnd_some, m_bytesIn, bnd_some, m_bytesIn, bnd_some, m_bytesIn, bnd_some, m_bytesIn, bnd_some, e20, w32_of (by omega) (by omega), if_pos (by omega)]
      exact tr_ret ⟨rfl, s0, Fm.refl _ _⟩
  · have L : ∀ x y : List Int, (x ++ y).length = x.length + y.length := fun x y => List.length_append
    have hw : SW (g, ps, kp, bs ++ fedN a1 4 ++ fedN a2 4 ++ fedN a3 4 ++ fedN a4 4 ++ fedN a5 4, rp) := by
      refine ⟨h.2.2.1, h.2.2.2.1, h.2.2.2.2.1, ⟨?_, fun b hb => ?_⟩, h.2.2.2.2.2.2⟩
      · show (bs ++ fedN a1 4 ++ fedN a2 4 ++ fedN a3 4 ++ fedN a4 4 ++ fedN a5 4).length ≤ 600
        rw [L, L, L, L, L]
        omega
      · have hb : b ∈ bs ++ fedN a1 4 ++ fedN a2 4 ++ fedN a3 4 ++ fedN a4 4 ++ fedN a5 4 := hb
        rcases List.mem_append.mp hb with hb | z
        · rcases List.mem_append.mp hb with hb | z
          · rcases List.mem_append.mp hb with hb | z
            · rcases List.mem_append.mp hb with hb | z
              · rcases List.mem_append.mp hb with hb | z
                · exact hbr b hb
                · exact fedN_rng _ _ b z
              · exact fedN_rng _ _ b z
            · exact fedN_rng _ _ b z
          · exact fedN_rng _ _ b z
        · exact fedN_rng _ _ b z
    refine og_I (s' := (g, ps, kp, bs ++ fedN a1 4 ++ fedN a2 4 ++ fedN a3 4 ++ fedN a4 4 ++ fedN a5 4, rp)) (u := w32 ((bs ++ fedN a1 4 ++ fedN a2 4 ++ fedN a3 4 ++ fedN a4 4 ++ fedN a5 4).length : Int)) h hw ?_ (fun J sm => m_endI ?_)
    · have er : f_Src_hasRoomFor (((((nbk a1 4 : Int) + (nbk a2 4 : Int)) + (nbk a3 4 : Int)) + (nbk a4 4 : Int)) + (nbk a5 4 : Int)) I = some (1, I) := by
        unfold f_Src_hasRoomFor
        rw [e6, w32_of (by omega) (by omega), if_neg (by omega)]
      unfold f_PR_feed
      rw [s_bytesIn, bnd_some, s_bytesIn, bnd_some, s_bytesIn, bnd_some, s_bytesIn, bnd_some, s_bytesIn, bnd_some, er, bnd_some, if_neg (by decide)]
      refine tr_call (t_takeG (bs := bs) a1 (by omega) b6) ?_
      rintro _ J1 ⟨e, f1⟩
      refine tr_call (t_takeG a2 (by rw [L]; show bs.length + _ + _ ≤ 600; omega) e) ?_
      rintro _ J2 ⟨e, f2⟩
      refine tr_call (t_takeG a3 (by rw [L, L]; show bs.length + _ + _ + _ ≤ 600; omega) e) ?_
      rintro _ J3 ⟨e, f3⟩
      refine tr_call (t_takeG a4 (by rw [L, L, L]; show bs.length + _ + _ + _ + _ ≤ 600; omega) e) ?_
      rintro _ J4 ⟨e, f4⟩
      refine tr_call (t_takeG a5 (by rw [L, L, L, L]; show bs.length + _ + _ + _ + _ + _ ≤ 600; omega) e) ?_
      rintro _ J5 ⟨e, f5⟩
      have f := f1.trans (f2.trans (f3.trans (f4.trans f5)))
      rw [e.1]
      exact tr_ret ⟨rfl, ⟨a1'.fm f (fun k i s z q => by unfold FG at z; unfold FSrc at q; omega), b2.fm f (fun t _ k i s z q => by unfold FG at z; unfold FSrc at q; omega), b3.fm f (fun i s => ⟨fun z => by unfold FSrc at z; omega, fun z => by unfold FSrc at z; omega⟩), b4.fm f (fun s z => by unfold FSrc at z; omega) (fun t _ _ k i s z q => by unfold FG at z; unfold FSrc at q; omega), b5.fm f (fun s z => by unfold FSrc at z; omega) (fun t _ _ k i s z q => by unfold FG at z; unfold FSrc at q; omega), e, b7.fm f (fun s z => by unfold FSrc at z; omega) (fun s z => by unfold FSrc at z; omega)⟩, f.mono (fun a b c z => by unfold FSrc at z; unfold FCl; omega)⟩
    · have s0 := sm.t7 (v := 0)
      have e20 : (sI J 26 0 7 0) 26 0 20 = (bs.length : Int) := s0.2.2.2.1.1
      unfold f_M_feed
      try dsimp only [ltI]
      rw [m_bytesIn, bnd_some, m_bytesIn, bnd_some, m_bytesIn, bnd_some, m_bytesIn, bnd_some, m_bytesIn, bnd_some, e20, w32_of (by omega) (by omega), if_neg (by omega)]
      generalize sI J 26 0 7 0 = J0 at s0
      refine tr_call (t_feedsG a1 (by show bs.length + _ ≤ 600; omega) s0.2.2.2.1) ?_
      rintro _ J1 ⟨e, f1⟩
      refine tr_call (t_feedsG a2 (by rw [L]; show bs.length + _ + _ ≤ 600; omega) e) ?_
      rintro _ J2 ⟨e, f2⟩
      refine tr_call (t_feedsG a3 (by rw [L, L]; show bs.length + _ + _ + _ ≤ 600; omega) e) ?_
      rintro _ J3 ⟨e, f3⟩
      refine tr_call (t_feedsG a4 (by rw [L, L, L]; show bs.length + _ + _ + _ + _ ≤ 600; omega) e) ?_
      rintro _ J4 ⟨e, f4⟩
      refine tr_call (t_feedsG a5 (by rw [L, L, L, L]; show bs.length + _ + _ + _ + _ + _ ≤ 600; omega) e) ?_
      rintro _ J5 ⟨e, f5⟩
      have f := f1.trans (f2.trans (f3.trans (f4.trans f5)))
      rw [e.1]
      exact tr_ret ⟨rfl, ⟨s0.1.fm f (fun s _ z => by unfold FMf at z; omega), s0.2.1.fm f (fun z => by unfold FMf at z; omega) (fun s z => by unfold FMf at z; omega), s0.2.2.1.fm f (fun s z => by unfold FMf at z; omega) (fun s z => by unfold FMf at z; omega), e, s0.2.2.2.2.fm f (fun z => by unfold FMf at z; omega) (fun s z => by unfold FMf at z; omega)⟩, f.mono (fun a b c z => by unfold FMf at z; unfold FMq; omega)⟩
end FEED
