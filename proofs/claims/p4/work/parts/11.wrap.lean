/-! ===== more: a value of two roads, loops with one way out, words ===== -/
section MORE
variable {Z : ZT} {Y : YT} {I0 : Mem} {gr : Nat → Nat} {pc : Nat} {lv : List (Nat × Value)} {st : List Value} {I : Mem} {α : Type} {e : Option (α × Mem)} {κ : α → Mem → Option OT}
theorem WQ.via (pc' : Nat) (st' : List Value) (k : WQ Z Y I0 gr pc' lv st' I e κ) (h : WQ Z Y I0 gr pc' lv st' I e κ → WQ Z Y I0 gr pc lv st I e κ) : WQ Z Y I0 gr pc lv st I e κ := h k
theorem wq_loopS {σ ρ : Type} {step : σ → Mem → Option ((σ ⊕ ρ) × Mem)} {K : ρ → Mem → Option (α × Mem)} (lvf : σ → List (Nat × Value)) (xpc : Nat) (lvx : ρ → List (Nat × Value))
    (hb : ∀ κ2 : σ ⊕ ρ → Mem → Option OT, (∀ (gr : Nat → Nat) (s : σ) (J : Mem), WQ Z Y I0 gr pc (lvf s) [] J (some (.inl s, J)) κ2) → (∀ (gr : Nat → Nat) (r : ρ) (J : Mem), WQ Z Y I0 gr xpc (lvx r) [] J (some (.inr r, J)) κ2) → ∀ (gr : Nat → Nat) (s : σ) (J : Mem), WQ Z Y I0 gr pc (lvf s) [] J (step s J) κ2)
    (hx : ∀ (gr : Nat → Nat) (r : ρ) (J : Mem), WQ Z Y I0 gr xpc (lvx r) [] J (K r J) κ) (gr : Nat → Nat) (s : σ) (h : lvf s = lv) : WQ Z Y I0 gr pc lv [] I (bnd (whl step s I) K) κ := by
  refine WQ.assoc ?_
  refine wq_loop lvf (fun κ2 back hr gr s J => ?_) gr s h
  refine hb κ2 back (fun gr r J => ?_) gr s J
  intro o ho
  exact hx gr r J o ((hr r J).symm.trans ho)
/-- a word goes into the script's row of words -/
theorem wq_wastn {w n : Nat} {j j' m : Int} {f : Mem → Option (α × Mem)} (he : ∀ J : Mem, ent Z gr J 20 0 = arR (zC Z 6) n (fun j => zA Z 11 (J 20 0 j).toNat)) (hw : w < 15) (hj : w32 j = j') (hin : 0 ≤ j' ∧ j' < m) (hm : m.toNat ≤ n) (d : decode Y.2.1 pc = .ok (.aastore, 1)) (kk : ∀ J : Mem, WQ Z Y I0 gr (pc + 1) lv st J (f J) κ) : WQ Z Y I0 gr pc lv (vr Z 11 w :: vi j :: vr Z 20 0 :: st) I (ltI (sI I 20 0 j'.toNat ((w : Nat) : Int)) f) κ := by
  refine WQ.mem (sI_30 (by decide)) (fun X B o H locs ls cells slots hH hlo hl k1 => ?_) (kk _)
  have hat := hH.at (k := 20) (i := 0) (by decide)
  rw [he I] at hat
  have hat : H[zA Z 20 0]? = some (vp_cell (zC Z 6) (n, .inr (.inr (.inr (.inr fun j => some (zA Z 11 (I 20 0 j).toNat)))))) := hat
  have hi := w_in (n := n) hj hin hm
  have h0 : ¬ Int32.ofInt j < 0 := fun q => hi (Or.inl q)
  have hlt : (Int32.ofInt j).toNatClampNeg < n := Nat.not_le.mp fun q => hi (Or.inr q)
  obtain ⟨cellV, g1, g2, g3, -⟩ := (B.2.2.2.2.2.1.2.1.1 w hw).2.1.kept (old_kept hH)
  obtain ⟨kA, comp, k1', k2, k3, -⟩ := (B.2.2.2.2.2.1.1.2 6 _ rfl).2
  obtain ⟨kC, hkC, -⟩ := Vm.findClass_spec k3
  have e9 : comp = cellV.cls := Option.some.inj (k3.symm.trans g3)
  refine W.aast B.1 B.2.1 hat (fun q h => by cases h) (fun h => by cases h) k1' k2 rfl hkC ⟨h0, by show _ < (arrV _ _ _).slots.size; rw [arrV_size]; exact hlt⟩ g1 (fun q h => by rw [h] at g2; cases g2) (by rw [← e9]; exact hkC) (vb_asgS comp cellV.cls k3 g3) rfl rfl d fun H1 e1 z oq => ?_
  have hHn : HHA Z gr (sI I 20 0 j'.toNat ((w : Nat) : Int)) H1 := by
    refine hH.upd (k := 20) (i := 0) (by decide) z oq ?_ (fun k' i' hi' hne => sI_ent (fun q => absurd q.1 (by decide)) (fun q => absurd q.1 (by decide)) hne)
    rw [he]
    show H1[zA Z 20 0]? = some (vp_cell (zC Z 6) (n, .inr (.inr (.inr (.inr fun j => some (zA Z 11 (sI I 20 0 j'.toNat ((w : Nat) : Int) 20 0 j).toNat))))))
    rw [e1, vp_cell_q, vp_cell_q, arrV_store, w_nat hj]
    congr 2
    funext q
    by_cases hq : q = j'.toNat
    · subst hq; simp [updV, sI, va_rf]
    · simp [updV, hq, sI]
  exact k1 H1 _ ls hHn (locs_put hlo (hH.2.2.1 20 0 (by decide))) hl
theorem wq_wast {w : Nat} {j j' : Int} {f : Mem → Option (α × Mem)} (hw : w < 15) (hj : w32 j = j') (hin : 0 ≤ j' ∧ j' < 60) (d : decode Y.2.1 pc = .ok (.aastore, 1)) (kk : ∀ J : Mem, WQ Z Y I0 gr (pc + 1) lv st J (f J) κ) : WQ Z Y I0 gr pc lv (vr Z 11 w :: vi j :: vr Z 20 0 :: st) I (ltI (sI I 20 0 j'.toNat ((w : Nat) : Int)) f) κ :=
  wq_wastn (n := 60) (m := 60) (fun _ => rfl) hw hj hin (Nat.le_refl _) d kk
def wLow (j : Nat) : Int := [0, 0, 0, 2, 0, 0, 1, 0, 0, 0, 0, 1, 0, 0, 0].getD j 0
def wHig (j : Nat) : Int := [39, 0, 1, 9, 2, 1, 50, 0, 0, 39, 0, 400, 20, 0, 0].getD j 0
def wOrd (j : Nat) : Int := [0, 0, 0, 1, 1, 1, 1, 1, 1, 1, 1, 1, 1, 0, 0].getD j 0
theorem wq_wordLowest {j index : Nat} {host : String} (hj : j < 15) (hln : Cond.fieldLinkNest Y.1.cls index RX11 "lowest" "I" host ∈ lw_nw) (d : decode Y.2.1 pc = .ok (.getfield index, 3)) (k : WQ Z Y I0 gr (pc + 3) lv (vi (wLow j) :: st) I e κ) : WQ Z Y I0 gr pc lv (vr Z 11 j :: st) I e κ :=
  wq_word (q := 2) rfl hj ((by decide +kernel : ∀ j, j < 15 → [0, 0, 0, 2, 0, 0, 1, 0, 0, 0, 0, 1, 0, 0, (0 : Int32)].getD j 0 = Int32.ofInt (wLow j)) j hj) hln d k
theorem wq_wordHighest {j index : Nat} {host : String} (hj : j < 15) (hln : Cond.fieldLinkNest Y.1.cls index RX11 "highest" "I" host ∈ lw_nw) (d : decode Y.2.1 pc = .ok (.getfield index, 3)) (k : WQ Z Y I0 gr (pc + 3) lv (vi (wHig j) :: st) I e κ) : WQ Z Y I0 gr pc lv (vr Z 11 j :: st) I e κ :=
  wq_word (q := 3) rfl hj ((by decide +kernel : ∀ j, j < 15 → [39, 0, 1, 9, 2, 1, 50, 0, 0, 39, 0, 400, 20, 0, (0 : Int32)].getD j 0 = Int32.ofInt (wHig j)) j hj) hln d k
theorem wq_wordOrders {j index : Nat} {host : String} (hj : j < 15) (hln : Cond.fieldLinkNest Y.1.cls index RX11 "orders" "Z" host ∈ lw_nw) (d : decode Y.2.1 pc = .ok (.getfield index, 3)) (k : WQ Z Y I0 gr (pc + 3) lv (vi (wOrd j) :: st) I e κ) : WQ Z Y I0 gr pc lv (vr Z 11 j :: st) I e κ :=
  wq_word (q := 1) rfl hj ((by decide +kernel : ∀ j, j < 15 → [0, 0, 0, 1, 1, 1, 1, 1, 1, 1, 1, 1, 1, 0, (0 : Int32)].getD j 0 = Int32.ofInt (wOrd j)) j hj) hln d k
end MORE
section WRAP
variable {Z : ZT} {Y : YT} {I0 : Mem} {gr : Nat → Nat} {pc : Nat} {lv : List (Nat × Value)} {st : List Value} {I : Mem} {α : Type} {e : Option (α × Mem)} {κ : α → Mem → Option OT}
theorem in_0 : ∀ w ∈ u_ws RX12 TX12 10, w ∈ lw_good := by decide +kernel
theorem ob_0 : Ob Z gr I (zA Z 0 0) RX12 := ⟨0, 0, 0, 10, TX12, _, rfl, (by decide), rfl, rfl⟩
theorem g_0_0 {index : Nat} (hln : Cond.fieldLink Y.1.cls index RX12 "now" "LPairRules$Grammar;" ∈ lw_good) (d : decode Y.2.1 pc = .ok (.getfield index, 3)) (kk : WQ Z Y I0 gr (pc + 3) lv (vr Z 1 0 :: st) I e κ) : WQ Z Y I0 gr pc lv (vr Z 0 0 :: st) I e κ :=
  wq_get (k := 0) (i := 0) (fk := 0) (ci := 0) (N := 10) (T := TX12) rfl (by decide) rfl rfl in_0 (by decide) rfl rfl hln d kk
theorem g_0_1 {index : Nat} (hln : Cond.fieldLink Y.1.cls index RX12 "trial" "LPairRules$Grammar;" ∈ lw_good) (d : decode Y.2.1 pc = .ok (.getfield index, 3)) (kk : WQ Z Y I0 gr (pc + 3) lv (vr Z 1 1 :: st) I e κ) : WQ Z Y I0 gr pc lv (vr Z 0 0 :: st) I e κ :=
  wq_get (k := 0) (i := 0) (fk := 1) (ci := 0) (N := 10) (T := TX12) rfl (by decide) rfl rfl in_0 (by decide) rfl rfl hln d kk
theorem g_0_2 {index : Nat} (hln : Cond.fieldLink Y.1.cls index RX12 "stepper" "LPairRules$Stepper;" ∈ lw_good) (d : decode Y.2.1 pc = .ok (.getfield index, 3)) (kk : WQ Z Y I0 gr (pc + 3) lv (vr Z 3 0 :: st) I e κ) : WQ Z Y I0 gr pc lv (vr Z 0 0 :: st) I e κ :=
  wq_get (k := 0) (i := 0) (fk := 2) (ci := 0) (N := 10) (T := TX12) rfl (by decide) rfl rfl in_0 (by decide) rfl rfl hln d kk
theorem g_0_3 {index : Nat} (hln : Cond.fieldLink Y.1.cls index RX12 "survey" "LPairRules$Survey;" ∈ lw_good) (d : decode Y.2.1 pc = .ok (.getfield index, 3)) (kk : WQ Z Y I0 gr (pc + 3) lv (vr Z 5 0 :: st) I e κ) : WQ Z Y I0 gr pc lv (vr Z 0 0 :: st) I e κ :=
  wq_get (k := 0) (i := 0) (fk := 3) (ci := 0) (N := 10) (T := TX12) rfl (by decide) rfl rfl in_0 (by decide) rfl rfl hln d kk
theorem g_0_4 {index : Nat} (hln : Cond.fieldLink Y.1.cls index RX12 "source" "LPairRules$Source;" ∈ lw_good) (d : decode Y.2.1 pc = .ok (.getfield index, 3)) (kk : WQ Z Y I0 gr (pc + 3) lv (vr Z 6 0 :: st) I e κ) : WQ Z Y I0 gr pc lv (vr Z 0 0 :: st) I e κ :=
  wq_get (k := 0) (i := 0) (fk := 4) (ci := 0) (N := 10) (T := TX12) rfl (by decide) rfl rfl in_0 (by decide) rfl rfl hln d kk
theorem g_0_5 {index : Nat} (hln : Cond.fieldLink Y.1.cls index RX12 "setup" "LPairRules$Setup;" ∈ lw_good) (d : decode Y.2.1 pc = .ok (.getfield index, 3)) (kk : WQ Z Y I0 gr (pc + 3) lv (vr Z 7 0 :: st) I e κ) : WQ Z Y I0 gr pc lv (vr Z 0 0 :: st) I e κ :=
  wq_get (k := 0) (i := 0) (fk := 5) (ci := 0) (N := 10) (T := TX12) rfl (by decide) rfl rfl in_0 (by decide) rfl rfl hln d kk
theorem g_0_6 {index : Nat} (hln : Cond.fieldLink Y.1.cls index RX12 "script" "LPairRules$Script;" ∈ lw_good) (d : decode Y.2.1 pc = .ok (.getfield index, 3)) (kk : WQ Z Y I0 gr (pc + 3) lv (vr Z 8 0 :: st) I e κ) : WQ Z Y I0 gr pc lv (vr Z 0 0 :: st) I e κ :=
  wq_get (k := 0) (i := 0) (fk := 6) (ci := 0) (N := 10) (T := TX12) rfl (by decide) rfl rfl in_0 (by decide) rfl rfl hln d kk
theorem g_0_7 {index : Nat} (hln : Cond.fieldLink Y.1.cls index RX12 "history" "LPairRules$History;" ∈ lw_good) (d : decode Y.2.1 pc = .ok (.getfield index, 3)) (kk : WQ Z Y I0 gr (pc + 3) lv (vr Z 9 0 :: st) I e κ) : WQ Z Y I0 gr pc lv (vr Z 0 0 :: st) I e κ :=
  wq_get (k := 0) (i := 0) (fk := 7) (ci := 0) (N := 10) (T := TX12) rfl (by decide) rfl rfl in_0 (by decide) rfl rfl hln d kk
theorem g_0_8 {index : Nat} (hln : Cond.fieldLink Y.1.cls index RX12 "written" "LPairRules$Report;" ∈ lw_good) (d : decode Y.2.1 pc = .ok (.getfield index, 3)) (kk : WQ Z Y I0 gr (pc + 3) lv (vr Z 10 0 :: st) I e κ) : WQ Z Y I0 gr pc lv (vr Z 0 0 :: st) I e κ :=
  wq_get (k := 0) (i := 0) (fk := 8) (ci := 0) (N := 10) (T := TX12) rfl (by decide) rfl rfl in_0 (by decide) rfl rfl hln d kk
theorem g_0_9 {index : Nat} (hln : Cond.fieldLink Y.1.cls index RX12 "errorAt" "I" ∈ lw_good) (d : decode Y.2.1 pc = .ok (.getfield index, 3)) (kk : WQ Z Y I0 gr (pc + 3) lv (vi (I 0 0 9) :: st) I e κ) : WQ Z Y I0 gr pc lv (vr Z 0 0 :: st) I e κ :=
  wq_get (k := 0) (i := 0) (fk := 9) (ci := 0) (N := 10) (T := TX12) rfl (by decide) rfl rfl in_0 (by decide) rfl rfl hln d kk
theorem p_0_9 {index : Nat} {x : Int} {f : Mem → Option (α × Mem)} (hln : Cond.fieldLink Y.1.cls index RX12 "errorAt" "I" ∈ lw_good) (d : decode Y.2.1 pc = .ok (.putfield index, 3)) (kk : ∀ J : Mem, WQ Z Y I0 gr (pc + 3) lv st J (f J) κ) : WQ Z Y I0 gr pc lv (vi x :: vr Z 0 0 :: st) I (ltI (sI I 0 0 9 x) f) κ :=
  wq_put (k := 0) (i := 0) (fk := 9) (ci := 0) (N := 10) (T := TX12) (v := vi x) rfl (by simp [ent, sI]) (by decide) rfl rfl in_0 tyX12_ok nmX12 (by decide) rfl (Nat.le_of_ble_eq_true rfl) rfl rfl (by decide) (by decide) (by decide) hln d kk
theorem in_1 : ∀ w ∈ u_ws RX1 TX1 10, w ∈ lw_good := by decide +kernel
theorem ob_1 {i : Nat} (hi : i < 12) : Ob Z gr I (zA Z 1 i) RX1 := ⟨1, i, 1, 10, TX1, _, rfl, hi, rfl, rfl⟩
theorem g_1_0 {i : Nat} (hi : i < 12) {index : Nat} (hln : Cond.fieldLink Y.1.cls index RX1 "start" "LPairRules$Row;" ∈ lw_good) (d : decode Y.2.1 pc = .ok (.getfield index, 3)) (kk : WQ Z Y I0 gr (pc + 3) lv (vr Z 2 (43 * i) :: st) I e κ) : WQ Z Y I0 gr pc lv (vr Z 1 i :: st) I e κ :=
  wq_get (k := 1) (i := i) (fk := 0) (ci := 1) (N := 10) (T := TX1) rfl hi rfl rfl in_1 (by decide) rfl rfl hln d kk
theorem g_1_1 {i : Nat} (hi : i < 12) {index : Nat} (hln : Cond.fieldLink Y.1.cls index RX1 "told" "LPairRules$Row;" ∈ lw_good) (d : decode Y.2.1 pc = .ok (.getfield index, 3)) (kk : WQ Z Y I0 gr (pc + 3) lv (vr Z 2 (43 * i + 1) :: st) I e κ) : WQ Z Y I0 gr pc lv (vr Z 1 i :: st) I e κ :=
  wq_get (k := 1) (i := i) (fk := 1) (ci := 1) (N := 10) (T := TX1) rfl hi rfl rfl in_1 (by decide) rfl rfl hln d kk
theorem g_1_2 {i : Nat} (hi : i < 12) {index : Nat} (hln : Cond.fieldLink Y.1.cls index RX1 "bodies" "[LPairRules$Row;" ∈ lw_good) (d : decode Y.2.1 pc = .ok (.getfield index, 3)) (kk : WQ Z Y I0 gr (pc + 3) lv (vr Z 13 i :: st) I e κ) : WQ Z Y I0 gr pc lv (vr Z 1 i :: st) I e κ :=
  wq_get (k := 1) (i := i) (fk := 2) (ci := 1) (N := 10) (T := TX1) rfl hi rfl rfl in_1 (by decide) rfl rfl hln d kk
theorem g_1_3 {i : Nat} (hi : i < 12) {index : Nat} (hln : Cond.fieldLink Y.1.cls index RX1 "nothing" "LPairRules$Row;" ∈ lw_good) (d : decode Y.2.1 pc = .ok (.getfield index, 3)) (kk : WQ Z Y I0 gr (pc + 3) lv (vr Z 2 (43 * i + 2) :: st) I e κ) : WQ Z Y I0 gr pc lv (vr Z 1 i :: st) I e κ :=
  wq_get (k := 1) (i := i) (fk := 3) (ci := 1) (N := 10) (T := TX1) rfl hi rfl rfl in_1 (by decide) rfl rfl hln d kk
theorem g_1_4 {i : Nat} (hi : i < 12) {index : Nat} (hln : Cond.fieldLink Y.1.cls index RX1 "lengths" "[I" ∈ lw_good) (d : decode Y.2.1 pc = .ok (.getfield index, 3)) (kk : WQ Z Y I0 gr (pc + 3) lv (vr Z 14 i :: st) I e κ) : WQ Z Y I0 gr pc lv (vr Z 1 i :: st) I e κ :=
  wq_get (k := 1) (i := i) (fk := 4) (ci := 1) (N := 10) (T := TX1) rfl hi rfl rfl in_1 (by decide) rfl rfl hln d kk
theorem g_1_5 {i : Nat} (hi : i < 12) {index : Nat} (hln : Cond.fieldLink Y.1.cls index RX1 "accounts" "[I" ∈ lw_good) (d : decode Y.2.1 pc = .ok (.getfield index, 3)) (kk : WQ Z Y I0 gr (pc + 3) lv (vr Z 15 i :: st) I e κ) : WQ Z Y I0 gr pc lv (vr Z 1 i :: st) I e κ :=
  wq_get (k := 1) (i := i) (fk := 5) (ci := 1) (N := 10) (T := TX1) rfl hi rfl rfl in_1 (by decide) rfl rfl hln d kk
theorem g_1_6 {i : Nat} (hi : i < 12) {index : Nat} (hln : Cond.fieldLink Y.1.cls index RX1 "least" "I" ∈ lw_good) (d : decode Y.2.1 pc = .ok (.getfield index, 3)) (kk : WQ Z Y I0 gr (pc + 3) lv (vi (I 1 i 6) :: st) I e κ) : WQ Z Y I0 gr pc lv (vr Z 1 i :: st) I e κ :=
  wq_get (k := 1) (i := i) (fk := 6) (ci := 1) (N := 10) (T := TX1) rfl hi rfl rfl in_1 (by decide) rfl rfl hln d kk
theorem p_1_6 {i : Nat} (hi : i < 12) {index : Nat} {x : Int} {f : Mem → Option (α × Mem)} (hln : Cond.fieldLink Y.1.cls index RX1 "least" "I" ∈ lw_good) (d : decode Y.2.1 pc = .ok (.putfield index, 3)) (kk : ∀ J : Mem, WQ Z Y I0 gr (pc + 3) lv st J (f J) κ) : WQ Z Y I0 gr pc lv (vi x :: vr Z 1 i :: st) I (ltI (sI I 1 i 6 x) f) κ :=
  wq_put (k := 1) (i := i) (fk := 6) (ci := 1) (N := 10) (T := TX1) (v := vi x) rfl (by simp [ent, sI]) hi rfl rfl in_1 tyX1_ok nmX1 (by decide) rfl (Nat.le_of_ble_eq_true rfl) rfl rfl (by decide) (by decide) (by decide) hln d kk
theorem g_1_7 {i : Nat} (hi : i < 12) {index : Nat} (hln : Cond.fieldLink Y.1.cls index RX1 "tie" "I" ∈ lw_good) (d : decode Y.2.1 pc = .ok (.getfield index, 3)) (kk : WQ Z Y I0 gr (pc + 3) lv (vi (I 1 i 7) :: st) I e κ) : WQ Z Y I0 gr pc lv (vr Z 1 i :: st) I e κ :=
  wq_get (k := 1) (i := i) (fk := 7) (ci := 1) (N := 10) (T := TX1) rfl hi rfl rfl in_1 (by decide) rfl rfl hln d kk
theorem p_1_7 {i : Nat} (hi : i < 12) {index : Nat} {x : Int} {f : Mem → Option (α × Mem)} (hln : Cond.fieldLink Y.1.cls index RX1 "tie" "I" ∈ lw_good) (d : decode Y.2.1 pc = .ok (.putfield index, 3)) (kk : ∀ J : Mem, WQ Z Y I0 gr (pc + 3) lv st J (f J) κ) : WQ Z Y I0 gr pc lv (vi x :: vr Z 1 i :: st) I (ltI (sI I 1 i 7 x) f) κ :=
  wq_put (k := 1) (i := i) (fk := 7) (ci := 1) (N := 10) (T := TX1) (v := vi x) rfl (by simp [ent, sI]) hi rfl rfl in_1 tyX1_ok nmX1 (by decide) rfl (Nat.le_of_ble_eq_true rfl) rfl rfl (by decide) (by decide) (by decide) hln d kk
theorem g_1_8 {i : Nat} (hi : i < 12) {index : Nat} (hln : Cond.fieldLink Y.1.cls index RX1 "inlines" "I" ∈ lw_good) (d : decode Y.2.1 pc = .ok (.getfield index, 3)) (kk : WQ Z Y I0 gr (pc + 3) lv (vi (I 1 i 8) :: st) I e κ) : WQ Z Y I0 gr pc lv (vr Z 1 i :: st) I e κ :=
  wq_get (k := 1) (i := i) (fk := 8) (ci := 1) (N := 10) (T := TX1) rfl hi rfl rfl in_1 (by decide) rfl rfl hln d kk
theorem p_1_8 {i : Nat} (hi : i < 12) {index : Nat} {x : Int} {f : Mem → Option (α × Mem)} (hln : Cond.fieldLink Y.1.cls index RX1 "inlines" "I" ∈ lw_good) (d : decode Y.2.1 pc = .ok (.putfield index, 3)) (kk : ∀ J : Mem, WQ Z Y I0 gr (pc + 3) lv st J (f J) κ) : WQ Z Y I0 gr pc lv (vi x :: vr Z 1 i :: st) I (ltI (sI I 1 i 8 x) f) κ :=
  wq_put (k := 1) (i := i) (fk := 8) (ci := 1) (N := 10) (T := TX1) (v := vi x) rfl (by simp [ent, sI]) hi rfl rfl in_1 tyX1_ok nmX1 (by decide) rfl (Nat.le_of_ble_eq_true rfl) rfl rfl (by decide) (by decide) (by decide) hln d kk
theorem g_1_9 {i : Nat} (hi : i < 12) {index : Nat} (hln : Cond.fieldLink Y.1.cls index RX1 "rulesAtFirst" "I" ∈ lw_good) (d : decode Y.2.1 pc = .ok (.getfield index, 3)) (kk : WQ Z Y I0 gr (pc + 3) lv (vi (I 1 i 9) :: st) I e κ) : WQ Z Y I0 gr pc lv (vr Z 1 i :: st) I e κ :=
  wq_get (k := 1) (i := i) (fk := 9) (ci := 1) (N := 10) (T := TX1) rfl hi rfl rfl in_1 (by decide) rfl rfl hln d kk
theorem p_1_9 {i : Nat} (hi : i < 12) {index : Nat} {x : Int} {f : Mem → Option (α × Mem)} (hln : Cond.fieldLink Y.1.cls index RX1 "rulesAtFirst" "I" ∈ lw_good) (d : decode Y.2.1 pc = .ok (.putfield index, 3)) (kk : ∀ J : Mem, WQ Z Y I0 gr (pc + 3) lv st J (f J) κ) : WQ Z Y I0 gr pc lv (vi x :: vr Z 1 i :: st) I (ltI (sI I 1 i 9 x) f) κ :=
  wq_put (k := 1) (i := i) (fk := 9) (ci := 1) (N := 10) (T := TX1) (v := vi x) rfl (by simp [ent, sI]) hi rfl rfl in_1 tyX1_ok nmX1 (by decide) rfl (Nat.le_of_ble_eq_true rfl) rfl rfl (by decide) (by decide) (by decide) hln d kk
theorem in_2 : ∀ w ∈ u_ws RX5 TX5 2, w ∈ lw_good := by decide +kernel
theorem ob_2 {i : Nat} (hi : i < 516) : Ob Z gr I (zA Z 2 i) RX5 := ⟨2, i, 2, 2, TX5, _, rfl, hi, rfl, rfl⟩
theorem g_2_0 {i : Nat} (hi : i < 516) {index : Nat} (hln : Cond.fieldLink Y.1.cls index RX5 "cells" "[I" ∈ lw_good) (d : decode Y.2.1 pc = .ok (.getfield index, 3)) (kk : WQ Z Y I0 gr (pc + 3) lv (.ref (gr i) :: st) I e κ) : WQ Z Y I0 gr pc lv (vr Z 2 i :: st) I e κ :=
  wq_get (k := 2) (i := i) (fk := 0) (ci := 2) (N := 2) (T := TX5) rfl hi rfl rfl in_2 (by decide) rfl rfl hln d kk
theorem g_2_1 {i : Nat} (hi : i < 516) {index : Nat} (hln : Cond.fieldLink Y.1.cls index RX5 "many" "I" ∈ lw_good) (d : decode Y.2.1 pc = .ok (.getfield index, 3)) (kk : WQ Z Y I0 gr (pc + 3) lv (vi (I 2 i 1) :: st) I e κ) : WQ Z Y I0 gr pc lv (vr Z 2 i :: st) I e κ :=
  wq_get (k := 2) (i := i) (fk := 1) (ci := 2) (N := 2) (T := TX5) rfl hi rfl rfl in_2 (by decide) rfl rfl hln d kk
theorem p_2_1 {i : Nat} (hi : i < 516) {index : Nat} {x : Int} {f : Mem → Option (α × Mem)} (hln : Cond.fieldLink Y.1.cls index RX5 "many" "I" ∈ lw_good) (d : decode Y.2.1 pc = .ok (.putfield index, 3)) (kk : ∀ J : Mem, WQ Z Y I0 gr (pc + 3) lv st J (f J) κ) : WQ Z Y I0 gr pc lv (vi x :: vr Z 2 i :: st) I (ltI (sI I 2 i 1 x) f) κ :=
  wq_put (k := 2) (i := i) (fk := 1) (ci := 2) (N := 2) (T := TX5) (v := vi x) rfl (by simp [ent, sI]) hi rfl rfl in_2 tyX5_ok nmX5 (by decide) rfl (Nat.le_of_ble_eq_true rfl) rfl rfl (by decide) (by decide) (by decide) hln d kk
theorem in_3 : ∀ w ∈ u_ws RX9 TX9 2, w ∈ lw_good := by decide +kernel
theorem ob_3 : Ob Z gr I (zA Z 3 0) RX9 := ⟨3, 0, 3, 2, TX9, _, rfl, (by decide), rfl, rfl⟩
theorem g_3_0 {index : Nat} (hln : Cond.fieldLink Y.1.cls index RX9 "pairs" "LPairRules$PairTable;" ∈ lw_good) (d : decode Y.2.1 pc = .ok (.getfield index, 3)) (kk : WQ Z Y I0 gr (pc + 3) lv (vr Z 4 0 :: st) I e κ) : WQ Z Y I0 gr pc lv (vr Z 3 0 :: st) I e κ :=
  wq_get (k := 3) (i := 0) (fk := 0) (ci := 3) (N := 2) (T := TX9) rfl (by decide) rfl rfl in_3 (by decide) rfl rfl hln d kk
theorem g_3_1 {index : Nat} (hln : Cond.fieldLink Y.1.cls index RX9 "uses" "[I" ∈ lw_good) (d : decode Y.2.1 pc = .ok (.getfield index, 3)) (kk : WQ Z Y I0 gr (pc + 3) lv (vr Z 17 0 :: st) I e κ) : WQ Z Y I0 gr pc lv (vr Z 3 0 :: st) I e κ :=
  wq_get (k := 3) (i := 0) (fk := 1) (ci := 3) (N := 2) (T := TX9) rfl (by decide) rfl rfl in_3 (by decide) rfl rfl hln d kk
theorem in_4 : ∀ w ∈ u_ws RX3 TX3 10, w ∈ lw_good := by decide +kernel
theorem ob_4 : Ob Z gr I (zA Z 4 0) RX3 := ⟨4, 0, 4, 10, TX3, _, rfl, (by decide), rfl, rfl⟩
theorem g_4_0 {index : Nat} (hln : Cond.fieldLink Y.1.cls index RX3 "counts" "[I" ∈ lw_good) (d : decode Y.2.1 pc = .ok (.getfield index, 3)) (kk : WQ Z Y I0 gr (pc + 3) lv (vr Z 16 0 :: st) I e κ) : WQ Z Y I0 gr pc lv (vr Z 4 0 :: st) I e κ :=
  wq_get (k := 4) (i := 0) (fk := 0) (ci := 4) (N := 10) (T := TX3) rfl (by decide) rfl rfl in_4 (by decide) rfl rfl hln d kk
theorem g_4_1 {index : Nat} (hln : Cond.fieldLink Y.1.cls index RX3 "places" "[I" ∈ lw_good) (d : decode Y.2.1 pc = .ok (.getfield index, 3)) (kk : WQ Z Y I0 gr (pc + 3) lv (vr Z 16 1 :: st) I e κ) : WQ Z Y I0 gr pc lv (vr Z 4 0 :: st) I e κ :=
  wq_get (k := 4) (i := 0) (fk := 1) (ci := 4) (N := 10) (T := TX3) rfl (by decide) rfl rfl in_4 (by decide) rfl rfl hln d kk
theorem g_4_2 {index : Nat} (hln : Cond.fieldLink Y.1.cls index RX3 "kepts" "[I" ∈ lw_good) (d : decode Y.2.1 pc = .ok (.getfield index, 3)) (kk : WQ Z Y I0 gr (pc + 3) lv (vr Z 16 2 :: st) I e κ) : WQ Z Y I0 gr pc lv (vr Z 4 0 :: st) I e κ :=
  wq_get (k := 4) (i := 0) (fk := 2) (ci := 4) (N := 10) (T := TX3) rfl (by decide) rfl rfl in_4 (by decide) rfl rfl hln d kk
theorem g_4_3 {index : Nat} (hln : Cond.fieldLink Y.1.cls index RX3 "touched" "[I" ∈ lw_good) (d : decode Y.2.1 pc = .ok (.getfield index, 3)) (kk : WQ Z Y I0 gr (pc + 3) lv (vr Z 16 3 :: st) I e κ) : WQ Z Y I0 gr pc lv (vr Z 4 0 :: st) I e κ :=
  wq_get (k := 4) (i := 0) (fk := 3) (ci := 4) (N := 10) (T := TX3) rfl (by decide) rfl rfl in_4 (by decide) rfl rfl hln d kk
theorem g_4_4 {index : Nat} (hln : Cond.fieldLink Y.1.cls index RX3 "manyTouched" "I" ∈ lw_good) (d : decode Y.2.1 pc = .ok (.getfield index, 3)) (kk : WQ Z Y I0 gr (pc + 3) lv (vi (I 4 0 4) :: st) I e κ) : WQ Z Y I0 gr pc lv (vr Z 4 0 :: st) I e κ :=
  wq_get (k := 4) (i := 0) (fk := 4) (ci := 4) (N := 10) (T := TX3) rfl (by decide) rfl rfl in_4 (by decide) rfl rfl hln d kk
theorem p_4_4 {index : Nat} {x : Int} {f : Mem → Option (α × Mem)} (hln : Cond.fieldLink Y.1.cls index RX3 "manyTouched" "I" ∈ lw_good) (d : decode Y.2.1 pc = .ok (.putfield index, 3)) (kk : ∀ J : Mem, WQ Z Y I0 gr (pc + 3) lv st J (f J) κ) : WQ Z Y I0 gr pc lv (vi x :: vr Z 4 0 :: st) I (ltI (sI I 4 0 4 x) f) κ :=
  wq_put (k := 4) (i := 0) (fk := 4) (ci := 4) (N := 10) (T := TX3) (v := vi x) rfl (by simp [ent, sI]) (by decide) rfl rfl in_4 tyX3_ok nmX3 (by decide) rfl (Nat.le_of_ble_eq_true rfl) rfl rfl (by decide) (by decide) (by decide) hln d kk
theorem g_4_5 {index : Nat} (hln : Cond.fieldLink Y.1.cls index RX3 "grammar" "LPairRules$Grammar;" ∈ lw_good) (d : decode Y.2.1 pc = .ok (.getfield index, 3)) (kk : WQ Z Y I0 gr (pc + 3) lv (vrn Z 1 (I 4 0 5) :: st) I e κ) : WQ Z Y I0 gr pc lv (vr Z 4 0 :: st) I e κ :=
  wq_get (k := 4) (i := 0) (fk := 5) (ci := 4) (N := 10) (T := TX3) rfl (by decide) rfl rfl in_4 (by decide) rfl rfl hln d kk
theorem p_4_5 {g index : Nat} {f : Mem → Option (α × Mem)} (hln : Cond.fieldLink Y.1.cls index RX3 "grammar" "LPairRules$Grammar;" ∈ lw_good) (d : decode Y.2.1 pc = .ok (.putfield index, 3)) (kk : ∀ J : Mem, WQ Z Y I0 gr (pc + 3) lv st J (f J) κ) : WQ Z Y I0 gr pc lv (vr Z 1 g :: vr Z 4 0 :: st) I (ltI (sI I 4 0 5 ((g : Nat) : Int)) f) κ :=
  wq_put (k := 4) (i := 0) (fk := 5) (ci := 4) (N := 10) (T := TX3) (v := vr Z 1 g) rfl (by simp [ent, sI, vrn]) (by decide) rfl rfl in_4 tyX3_ok nmX3 (by decide) rfl (Nat.le_of_ble_eq_true rfl) rfl rfl (by decide) (by decide) (by decide) hln d kk
theorem g_4_6 {index : Nat} (hln : Cond.fieldLink Y.1.cls index RX3 "free" "Z" ∈ lw_good) (d : decode Y.2.1 pc = .ok (.getfield index, 3)) (kk : WQ Z Y I0 gr (pc + 3) lv (vi (I 4 0 6) :: st) I e κ) : WQ Z Y I0 gr pc lv (vr Z 4 0 :: st) I e κ :=
  wq_get (k := 4) (i := 0) (fk := 6) (ci := 4) (N := 10) (T := TX3) rfl (by decide) rfl rfl in_4 (by decide) rfl rfl hln d kk
theorem p_4_6 {index : Nat} {x : Int} {f : Mem → Option (α × Mem)} (hz : x = 0 ∨ x = 1) (hln : Cond.fieldLink Y.1.cls index RX3 "free" "Z" ∈ lw_good) (d : decode Y.2.1 pc = .ok (.putfield index, 3)) (kk : ∀ J : Mem, WQ Z Y I0 gr (pc + 3) lv st J (f J) κ) : WQ Z Y I0 gr pc lv (vi x :: vr Z 4 0 :: st) I (ltI (sI I 4 0 6 x) f) κ :=
  wq_put (k := 4) (i := 0) (fk := 6) (ci := 4) (N := 10) (T := TX3) (v := vi x) rfl (by simp [ent, sI]) (by decide) rfl rfl in_4 tyX3_ok nmX3 (by decide) rfl (Nat.le_of_ble_eq_true rfl) (by rcases hz with rfl | rfl <;> rfl) (by rcases hz with rfl | rfl <;> rfl) (by decide) (by decide) (by decide) hln d kk
theorem g_4_7 {index : Nat} (hln : Cond.fieldLink Y.1.cls index RX3 "best" "I" ∈ lw_good) (d : decode Y.2.1 pc = .ok (.getfield index, 3)) (kk : WQ Z Y I0 gr (pc + 3) lv (vi (I 4 0 7) :: st) I e κ) : WQ Z Y I0 gr pc lv (vr Z 4 0 :: st) I e κ :=
  wq_get (k := 4) (i := 0) (fk := 7) (ci := 4) (N := 10) (T := TX3) rfl (by decide) rfl rfl in_4 (by decide) rfl rfl hln d kk
theorem p_4_7 {index : Nat} {x : Int} {f : Mem → Option (α × Mem)} (hln : Cond.fieldLink Y.1.cls index RX3 "best" "I" ∈ lw_good) (d : decode Y.2.1 pc = .ok (.putfield index, 3)) (kk : ∀ J : Mem, WQ Z Y I0 gr (pc + 3) lv st J (f J) κ) : WQ Z Y I0 gr pc lv (vi x :: vr Z 4 0 :: st) I (ltI (sI I 4 0 7 x) f) κ :=
  wq_put (k := 4) (i := 0) (fk := 7) (ci := 4) (N := 10) (T := TX3) (v := vi x) rfl (by simp [ent, sI]) (by decide) rfl rfl in_4 tyX3_ok nmX3 (by decide) rfl (Nat.le_of_ble_eq_true rfl) rfl rfl (by decide) (by decide) (by decide) hln d kk
theorem g_4_8 {index : Nat} (hln : Cond.fieldLink Y.1.cls index RX3 "worth" "I" ∈ lw_good) (d : decode Y.2.1 pc = .ok (.getfield index, 3)) (kk : WQ Z Y I0 gr (pc + 3) lv (vi (I 4 0 8) :: st) I e κ) : WQ Z Y I0 gr pc lv (vr Z 4 0 :: st) I e κ :=
  wq_get (k := 4) (i := 0) (fk := 8) (ci := 4) (N := 10) (T := TX3) rfl (by decide) rfl rfl in_4 (by decide) rfl rfl hln d kk
theorem p_4_8 {index : Nat} {x : Int} {f : Mem → Option (α × Mem)} (hln : Cond.fieldLink Y.1.cls index RX3 "worth" "I" ∈ lw_good) (d : decode Y.2.1 pc = .ok (.putfield index, 3)) (kk : ∀ J : Mem, WQ Z Y I0 gr (pc + 3) lv st J (f J) κ) : WQ Z Y I0 gr pc lv (vi x :: vr Z 4 0 :: st) I (ltI (sI I 4 0 8 x) f) κ :=
  wq_put (k := 4) (i := 0) (fk := 8) (ci := 4) (N := 10) (T := TX3) (v := vi x) rfl (by simp [ent, sI]) (by decide) rfl rfl in_4 tyX3_ok nmX3 (by decide) rfl (Nat.le_of_ble_eq_true rfl) rfl rfl (by decide) (by decide) (by decide) hln d kk
theorem g_4_9 {index : Nat} (hln : Cond.fieldLink Y.1.cls index RX3 "alike" "I" ∈ lw_good) (d : decode Y.2.1 pc = .ok (.getfield index, 3)) (kk : WQ Z Y I0 gr (pc + 3) lv (vi (I 4 0 9) :: st) I e κ) : WQ Z Y I0 gr pc lv (vr Z 4 0 :: st) I e κ :=
  wq_get (k := 4) (i := 0) (fk := 9) (ci := 4) (N := 10) (T := TX3) rfl (by decide) rfl rfl in_4 (by decide) rfl rfl hln d kk
theorem p_4_9 {index : Nat} {x : Int} {f : Mem → Option (α × Mem)} (hln : Cond.fieldLink Y.1.cls index RX3 "alike" "I" ∈ lw_good) (d : decode Y.2.1 pc = .ok (.putfield index, 3)) (kk : ∀ J : Mem, WQ Z Y I0 gr (pc + 3) lv st J (f J) κ) : WQ Z Y I0 gr pc lv (vi x :: vr Z 4 0 :: st) I (ltI (sI I 4 0 9 x) f) κ :=
  wq_put (k := 4) (i := 0) (fk := 9) (ci := 4) (N := 10) (T := TX3) (v := vi x) rfl (by simp [ent, sI]) (by decide) rfl rfl in_4 tyX3_ok nmX3 (by decide) rfl (Nat.le_of_ble_eq_true rfl) rfl rfl (by decide) (by decide) (by decide) hln d kk
theorem in_5 : ∀ w ∈ u_ws RX10 TX10 8, w ∈ lw_good := by decide +kernel
theorem ob_5 : Ob Z gr I (zA Z 5 0) RX10 := ⟨5, 0, 5, 8, TX10, _, rfl, (by decide), rfl, rfl⟩
theorem g_5_0 {index : Nat} (hln : Cond.fieldLink Y.1.cls index RX10 "order" "[I" ∈ lw_good) (d : decode Y.2.1 pc = .ok (.getfield index, 3)) (kk : WQ Z Y I0 gr (pc + 3) lv (vr Z 18 0 :: st) I e κ) : WQ Z Y I0 gr pc lv (vr Z 5 0 :: st) I e κ :=
  wq_get (k := 5) (i := 0) (fk := 0) (ci := 5) (N := 8) (T := TX10) rfl (by decide) rfl rfl in_5 (by decide) rfl rfl hln d kk
theorem g_5_1 {index : Nat} (hln : Cond.fieldLink Y.1.cls index RX10 "depths" "[I" ∈ lw_good) (d : decode Y.2.1 pc = .ok (.getfield index, 3)) (kk : WQ Z Y I0 gr (pc + 3) lv (vr Z 18 1 :: st) I e κ) : WQ Z Y I0 gr pc lv (vr Z 5 0 :: st) I e κ :=
  wq_get (k := 5) (i := 0) (fk := 1) (ci := 5) (N := 8) (T := TX10) rfl (by decide) rfl rfl in_5 (by decide) rfl rfl hln d kk
theorem g_5_2 {index : Nat} (hln : Cond.fieldLink Y.1.cls index RX10 "comings" "[I" ∈ lw_good) (d : decode Y.2.1 pc = .ok (.getfield index, 3)) (kk : WQ Z Y I0 gr (pc + 3) lv (vr Z 18 2 :: st) I e κ) : WQ Z Y I0 gr pc lv (vr Z 5 0 :: st) I e κ :=
  wq_get (k := 5) (i := 0) (fk := 2) (ci := 5) (N := 8) (T := TX10) rfl (by decide) rfl rfl in_5 (by decide) rfl rfl hln d kk
theorem g_5_3 {index : Nat} (hln : Cond.fieldLink Y.1.cls index RX10 "text" "[I" ∈ lw_good) (d : decode Y.2.1 pc = .ok (.getfield index, 3)) (kk : WQ Z Y I0 gr (pc + 3) lv (vr Z 18 3 :: st) I e κ) : WQ Z Y I0 gr pc lv (vr Z 5 0 :: st) I e κ :=
  wq_get (k := 5) (i := 0) (fk := 3) (ci := 5) (N := 8) (T := TX10) rfl (by decide) rfl rfl in_5 (by decide) rfl rfl hln d kk
theorem g_5_4 {index : Nat} (hln : Cond.fieldLink Y.1.cls index RX10 "openRules" "[I" ∈ lw_good) (d : decode Y.2.1 pc = .ok (.getfield index, 3)) (kk : WQ Z Y I0 gr (pc + 3) lv (vr Z 18 4 :: st) I e κ) : WQ Z Y I0 gr pc lv (vr Z 5 0 :: st) I e κ :=
  wq_get (k := 5) (i := 0) (fk := 4) (ci := 5) (N := 8) (T := TX10) rfl (by decide) rfl rfl in_5 (by decide) rfl rfl hln d kk
theorem g_5_5 {index : Nat} (hln : Cond.fieldLink Y.1.cls index RX10 "openPlaces" "[I" ∈ lw_good) (d : decode Y.2.1 pc = .ok (.getfield index, 3)) (kk : WQ Z Y I0 gr (pc + 3) lv (vr Z 18 5 :: st) I e κ) : WQ Z Y I0 gr pc lv (vr Z 5 0 :: st) I e κ :=
  wq_get (k := 5) (i := 0) (fk := 5) (ci := 5) (N := 8) (T := TX10) rfl (by decide) rfl rfl in_5 (by decide) rfl rfl hln d kk
theorem g_5_6 {index : Nat} (hln : Cond.fieldLink Y.1.cls index RX10 "manyOrdered" "I" ∈ lw_good) (d : decode Y.2.1 pc = .ok (.getfield index, 3)) (kk : WQ Z Y I0 gr (pc + 3) lv (vi (I 5 0 6) :: st) I e κ) : WQ Z Y I0 gr pc lv (vr Z 5 0 :: st) I e κ :=
  wq_get (k := 5) (i := 0) (fk := 6) (ci := 5) (N := 8) (T := TX10) rfl (by decide) rfl rfl in_5 (by decide) rfl rfl hln d kk
theorem p_5_6 {index : Nat} {x : Int} {f : Mem → Option (α × Mem)} (hln : Cond.fieldLink Y.1.cls index RX10 "manyOrdered" "I" ∈ lw_good) (d : decode Y.2.1 pc = .ok (.putfield index, 3)) (kk : ∀ J : Mem, WQ Z Y I0 gr (pc + 3) lv st J (f J) κ) : WQ Z Y I0 gr pc lv (vi x :: vr Z 5 0 :: st) I (ltI (sI I 5 0 6 x) f) κ :=
  wq_put (k := 5) (i := 0) (fk := 6) (ci := 5) (N := 8) (T := TX10) (v := vi x) rfl (by simp [ent, sI]) (by decide) rfl rfl in_5 tyX10_ok nmX10 (by decide) rfl (Nat.le_of_ble_eq_true rfl) rfl rfl (by decide) (by decide) (by decide) hln d kk
theorem g_5_7 {index : Nat} (hln : Cond.fieldLink Y.1.cls index RX10 "manyLetters" "I" ∈ lw_good) (d : decode Y.2.1 pc = .ok (.getfield index, 3)) (kk : WQ Z Y I0 gr (pc + 3) lv (vi (I 5 0 7) :: st) I e κ) : WQ Z Y I0 gr pc lv (vr Z 5 0 :: st) I e κ :=
  wq_get (k := 5) (i := 0) (fk := 7) (ci := 5) (N := 8) (T := TX10) rfl (by decide) rfl rfl in_5 (by decide) rfl rfl hln d kk
theorem p_5_7 {index : Nat} {x : Int} {f : Mem → Option (α × Mem)} (hln : Cond.fieldLink Y.1.cls index RX10 "manyLetters" "I" ∈ lw_good) (d : decode Y.2.1 pc = .ok (.putfield index, 3)) (kk : ∀ J : Mem, WQ Z Y I0 gr (pc + 3) lv st J (f J) κ) : WQ Z Y I0 gr pc lv (vi x :: vr Z 5 0 :: st) I (ltI (sI I 5 0 7 x) f) κ :=
  wq_put (k := 5) (i := 0) (fk := 7) (ci := 5) (N := 8) (T := TX10) (v := vi x) rfl (by simp [ent, sI]) (by decide) rfl rfl in_5 tyX10_ok nmX10 (by decide) rfl (Nat.le_of_ble_eq_true rfl) rfl rfl (by decide) (by decide) (by decide) hln d kk
theorem in_6 : ∀ w ∈ u_ws RX8 TX8 8, w ∈ lw_good := by decide +kernel
theorem ob_6 : Ob Z gr I (zA Z 6 0) RX8 := ⟨6, 0, 6, 8, TX8, _, rfl, (by decide), rfl, rfl⟩
theorem g_6_0 {index : Nat} (hln : Cond.fieldLink Y.1.cls index RX8 "bytes" "[I" ∈ lw_good) (d : decode Y.2.1 pc = .ok (.getfield index, 3)) (kk : WQ Z Y I0 gr (pc + 3) lv (vr Z 19 0 :: st) I e κ) : WQ Z Y I0 gr pc lv (vr Z 6 0 :: st) I e κ :=
  wq_get (k := 6) (i := 0) (fk := 0) (ci := 6) (N := 8) (T := TX8) rfl (by decide) rfl rfl in_6 (by decide) rfl rfl hln d kk
theorem g_6_1 {index : Nat} (hln : Cond.fieldLink Y.1.cls index RX8 "many" "I" ∈ lw_good) (d : decode Y.2.1 pc = .ok (.getfield index, 3)) (kk : WQ Z Y I0 gr (pc + 3) lv (vi (I 6 0 1) :: st) I e κ) : WQ Z Y I0 gr pc lv (vr Z 6 0 :: st) I e κ :=
  wq_get (k := 6) (i := 0) (fk := 1) (ci := 6) (N := 8) (T := TX8) rfl (by decide) rfl rfl in_6 (by decide) rfl rfl hln d kk
theorem p_6_1 {index : Nat} {x : Int} {f : Mem → Option (α × Mem)} (hln : Cond.fieldLink Y.1.cls index RX8 "many" "I" ∈ lw_good) (d : decode Y.2.1 pc = .ok (.putfield index, 3)) (kk : ∀ J : Mem, WQ Z Y I0 gr (pc + 3) lv st J (f J) κ) : WQ Z Y I0 gr pc lv (vi x :: vr Z 6 0 :: st) I (ltI (sI I 6 0 1 x) f) κ :=
  wq_put (k := 6) (i := 0) (fk := 1) (ci := 6) (N := 8) (T := TX8) (v := vi x) rfl (by simp [ent, sI]) (by decide) rfl rfl in_6 tyX8_ok nmX8 (by decide) rfl (Nat.le_of_ble_eq_true rfl) rfl rfl (by decide) (by decide) (by decide) hln d kk
theorem g_6_2 {index : Nat} (hln : Cond.fieldLink Y.1.cls index RX8 "kind" "I" ∈ lw_good) (d : decode Y.2.1 pc = .ok (.getfield index, 3)) (kk : WQ Z Y I0 gr (pc + 3) lv (vi (I 6 0 2) :: st) I e κ) : WQ Z Y I0 gr pc lv (vr Z 6 0 :: st) I e κ :=
  wq_get (k := 6) (i := 0) (fk := 2) (ci := 6) (N := 8) (T := TX8) rfl (by decide) rfl rfl in_6 (by decide) rfl rfl hln d kk
theorem p_6_2 {index : Nat} {x : Int} {f : Mem → Option (α × Mem)} (hln : Cond.fieldLink Y.1.cls index RX8 "kind" "I" ∈ lw_good) (d : decode Y.2.1 pc = .ok (.putfield index, 3)) (kk : ∀ J : Mem, WQ Z Y I0 gr (pc + 3) lv st J (f J) κ) : WQ Z Y I0 gr pc lv (vi x :: vr Z 6 0 :: st) I (ltI (sI I 6 0 2 x) f) κ :=
  wq_put (k := 6) (i := 0) (fk := 2) (ci := 6) (N := 8) (T := TX8) (v := vi x) rfl (by simp [ent, sI]) (by decide) rfl rfl in_6 tyX8_ok nmX8 (by decide) rfl (Nat.le_of_ble_eq_true rfl) rfl rfl (by decide) (by decide) (by decide) hln d kk
theorem g_6_3 {index : Nat} (hln : Cond.fieldLink Y.1.cls index RX8 "from" "I" ∈ lw_good) (d : decode Y.2.1 pc = .ok (.getfield index, 3)) (kk : WQ Z Y I0 gr (pc + 3) lv (vi (I 6 0 3) :: st) I e κ) : WQ Z Y I0 gr pc lv (vr Z 6 0 :: st) I e κ :=
  wq_get (k := 6) (i := 0) (fk := 3) (ci := 6) (N := 8) (T := TX8) rfl (by decide) rfl rfl in_6 (by decide) rfl rfl hln d kk
theorem p_6_3 {index : Nat} {x : Int} {f : Mem → Option (α × Mem)} (hln : Cond.fieldLink Y.1.cls index RX8 "from" "I" ∈ lw_good) (d : decode Y.2.1 pc = .ok (.putfield index, 3)) (kk : ∀ J : Mem, WQ Z Y I0 gr (pc + 3) lv st J (f J) κ) : WQ Z Y I0 gr pc lv (vi x :: vr Z 6 0 :: st) I (ltI (sI I 6 0 3 x) f) κ :=
  wq_put (k := 6) (i := 0) (fk := 3) (ci := 6) (N := 8) (T := TX8) (v := vi x) rfl (by simp [ent, sI]) (by decide) rfl rfl in_6 tyX8_ok nmX8 (by decide) rfl (Nat.le_of_ble_eq_true rfl) rfl rfl (by decide) (by decide) (by decide) hln d kk
theorem g_6_4 {index : Nat} (hln : Cond.fieldLink Y.1.cls index RX8 "to" "I" ∈ lw_good) (d : decode Y.2.1 pc = .ok (.getfield index, 3)) (kk : WQ Z Y I0 gr (pc + 3) lv (vi (I 6 0 4) :: st) I e κ) : WQ Z Y I0 gr pc lv (vr Z 6 0 :: st) I e κ :=
  wq_get (k := 6) (i := 0) (fk := 4) (ci := 6) (N := 8) (T := TX8) rfl (by decide) rfl rfl in_6 (by decide) rfl rfl hln d kk
theorem p_6_4 {index : Nat} {x : Int} {f : Mem → Option (α × Mem)} (hln : Cond.fieldLink Y.1.cls index RX8 "to" "I" ∈ lw_good) (d : decode Y.2.1 pc = .ok (.putfield index, 3)) (kk : ∀ J : Mem, WQ Z Y I0 gr (pc + 3) lv st J (f J) κ) : WQ Z Y I0 gr pc lv (vi x :: vr Z 6 0 :: st) I (ltI (sI I 6 0 4 x) f) κ :=
  wq_put (k := 6) (i := 0) (fk := 4) (ci := 6) (N := 8) (T := TX8) (v := vi x) rfl (by simp [ent, sI]) (by decide) rfl rfl in_6 tyX8_ok nmX8 (by decide) rfl (Nat.le_of_ble_eq_true rfl) rfl rfl (by decide) (by decide) (by decide) hln d kk
theorem g_6_5 {index : Nat} (hln : Cond.fieldLink Y.1.cls index RX8 "value" "I" ∈ lw_good) (d : decode Y.2.1 pc = .ok (.getfield index, 3)) (kk : WQ Z Y I0 gr (pc + 3) lv (vi (I 6 0 5) :: st) I e κ) : WQ Z Y I0 gr pc lv (vr Z 6 0 :: st) I e κ :=
  wq_get (k := 6) (i := 0) (fk := 5) (ci := 6) (N := 8) (T := TX8) rfl (by decide) rfl rfl in_6 (by decide) rfl rfl hln d kk
theorem p_6_5 {index : Nat} {x : Int} {f : Mem → Option (α × Mem)} (hln : Cond.fieldLink Y.1.cls index RX8 "value" "I" ∈ lw_good) (d : decode Y.2.1 pc = .ok (.putfield index, 3)) (kk : ∀ J : Mem, WQ Z Y I0 gr (pc + 3) lv st J (f J) κ) : WQ Z Y I0 gr pc lv (vi x :: vr Z 6 0 :: st) I (ltI (sI I 6 0 5 x) f) κ :=
  wq_put (k := 6) (i := 0) (fk := 5) (ci := 6) (N := 8) (T := TX8) (v := vi x) rfl (by simp [ent, sI]) (by decide) rfl rfl in_6 tyX8_ok nmX8 (by decide) rfl (Nat.le_of_ble_eq_true rfl) rfl rfl (by decide) (by decide) (by decide) hln d kk
theorem g_6_6 {index : Nat} (hln : Cond.fieldLink Y.1.cls index RX8 "errorCode" "I" ∈ lw_good) (d : decode Y.2.1 pc = .ok (.getfield index, 3)) (kk : WQ Z Y I0 gr (pc + 3) lv (vi (I 6 0 6) :: st) I e κ) : WQ Z Y I0 gr pc lv (vr Z 6 0 :: st) I e κ :=
  wq_get (k := 6) (i := 0) (fk := 6) (ci := 6) (N := 8) (T := TX8) rfl (by decide) rfl rfl in_6 (by decide) rfl rfl hln d kk
theorem p_6_6 {index : Nat} {x : Int} {f : Mem → Option (α × Mem)} (hln : Cond.fieldLink Y.1.cls index RX8 "errorCode" "I" ∈ lw_good) (d : decode Y.2.1 pc = .ok (.putfield index, 3)) (kk : ∀ J : Mem, WQ Z Y I0 gr (pc + 3) lv st J (f J) κ) : WQ Z Y I0 gr pc lv (vi x :: vr Z 6 0 :: st) I (ltI (sI I 6 0 6 x) f) κ :=
  wq_put (k := 6) (i := 0) (fk := 6) (ci := 6) (N := 8) (T := TX8) (v := vi x) rfl (by simp [ent, sI]) (by decide) rfl rfl in_6 tyX8_ok nmX8 (by decide) rfl (Nat.le_of_ble_eq_true rfl) rfl rfl (by decide) (by decide) (by decide) hln d kk
theorem g_6_7 {index : Nat} (hln : Cond.fieldLink Y.1.cls index RX8 "errorAt" "I" ∈ lw_good) (d : decode Y.2.1 pc = .ok (.getfield index, 3)) (kk : WQ Z Y I0 gr (pc + 3) lv (vi (I 6 0 7) :: st) I e κ) : WQ Z Y I0 gr pc lv (vr Z 6 0 :: st) I e κ :=
  wq_get (k := 6) (i := 0) (fk := 7) (ci := 6) (N := 8) (T := TX8) rfl (by decide) rfl rfl in_6 (by decide) rfl rfl hln d kk
theorem p_6_7 {index : Nat} {x : Int} {f : Mem → Option (α × Mem)} (hln : Cond.fieldLink Y.1.cls index RX8 "errorAt" "I" ∈ lw_good) (d : decode Y.2.1 pc = .ok (.putfield index, 3)) (kk : ∀ J : Mem, WQ Z Y I0 gr (pc + 3) lv st J (f J) κ) : WQ Z Y I0 gr pc lv (vi x :: vr Z 6 0 :: st) I (ltI (sI I 6 0 7 x) f) κ :=
  wq_put (k := 6) (i := 0) (fk := 7) (ci := 6) (N := 8) (T := TX8) (v := vi x) rfl (by simp [ent, sI]) (by decide) rfl rfl in_6 tyX8_ok nmX8 (by decide) rfl (Nat.le_of_ble_eq_true rfl) rfl rfl (by decide) (by decide) (by decide) hln d kk
theorem in_7 : ∀ w ∈ u_ws RX7 TX7 7, w ∈ lw_good := by decide +kernel
theorem ob_7 : Ob Z gr I (zA Z 7 0) RX7 := ⟨7, 0, 7, 7, TX7, _, rfl, (by decide), rfl, rfl⟩
theorem g_7_0 {index : Nat} (hln : Cond.fieldLink Y.1.cls index RX7 "source" "LPairRules$Source;" ∈ lw_good) (d : decode Y.2.1 pc = .ok (.getfield index, 3)) (kk : WQ Z Y I0 gr (pc + 3) lv (vr Z 6 0 :: st) I e κ) : WQ Z Y I0 gr pc lv (vr Z 7 0 :: st) I e κ :=
  wq_get (k := 7) (i := 0) (fk := 0) (ci := 7) (N := 7) (T := TX7) rfl (by decide) rfl rfl in_7 (by decide) rfl rfl hln d kk
theorem g_7_1 {index : Nat} (hln : Cond.fieldLink Y.1.cls index RX7 "goal" "LPairRules$Grammar;" ∈ lw_good) (d : decode Y.2.1 pc = .ok (.getfield index, 3)) (kk : WQ Z Y I0 gr (pc + 3) lv (vr Z 1 1 :: st) I e κ) : WQ Z Y I0 gr pc lv (vr Z 7 0 :: st) I e κ :=
  wq_get (k := 7) (i := 0) (fk := 1) (ci := 7) (N := 7) (T := TX7) rfl (by decide) rfl rfl in_7 (by decide) rfl rfl hln d kk
theorem g_7_2 {index : Nat} (hln : Cond.fieldLink Y.1.cls index RX7 "rulesTold" "I" ∈ lw_good) (d : decode Y.2.1 pc = .ok (.getfield index, 3)) (kk : WQ Z Y I0 gr (pc + 3) lv (vi (I 7 0 2) :: st) I e κ) : WQ Z Y I0 gr pc lv (vr Z 7 0 :: st) I e κ :=
  wq_get (k := 7) (i := 0) (fk := 2) (ci := 7) (N := 7) (T := TX7) rfl (by decide) rfl rfl in_7 (by decide) rfl rfl hln d kk
theorem p_7_2 {index : Nat} {x : Int} {f : Mem → Option (α × Mem)} (hln : Cond.fieldLink Y.1.cls index RX7 "rulesTold" "I" ∈ lw_good) (d : decode Y.2.1 pc = .ok (.putfield index, 3)) (kk : ∀ J : Mem, WQ Z Y I0 gr (pc + 3) lv st J (f J) κ) : WQ Z Y I0 gr pc lv (vi x :: vr Z 7 0 :: st) I (ltI (sI I 7 0 2 x) f) κ :=
  wq_put (k := 7) (i := 0) (fk := 2) (ci := 7) (N := 7) (T := TX7) (v := vi x) rfl (by simp [ent, sI]) (by decide) rfl rfl in_7 tyX7_ok nmX7 (by decide) rfl (Nat.le_of_ble_eq_true rfl) rfl rfl (by decide) (by decide) (by decide) hln d kk
theorem g_7_3 {index : Nat} (hln : Cond.fieldLink Y.1.cls index RX7 "length" "I" ∈ lw_good) (d : decode Y.2.1 pc = .ok (.getfield index, 3)) (kk : WQ Z Y I0 gr (pc + 3) lv (vi (I 7 0 3) :: st) I e κ) : WQ Z Y I0 gr pc lv (vr Z 7 0 :: st) I e κ :=
  wq_get (k := 7) (i := 0) (fk := 3) (ci := 7) (N := 7) (T := TX7) rfl (by decide) rfl rfl in_7 (by decide) rfl rfl hln d kk
theorem p_7_3 {index : Nat} {x : Int} {f : Mem → Option (α × Mem)} (hln : Cond.fieldLink Y.1.cls index RX7 "length" "I" ∈ lw_good) (d : decode Y.2.1 pc = .ok (.putfield index, 3)) (kk : ∀ J : Mem, WQ Z Y I0 gr (pc + 3) lv st J (f J) κ) : WQ Z Y I0 gr pc lv (vi x :: vr Z 7 0 :: st) I (ltI (sI I 7 0 3 x) f) κ :=
  wq_put (k := 7) (i := 0) (fk := 3) (ci := 7) (N := 7) (T := TX7) (v := vi x) rfl (by simp [ent, sI]) (by decide) rfl rfl in_7 tyX7_ok nmX7 (by decide) rfl (Nat.le_of_ble_eq_true rfl) rfl rfl (by decide) (by decide) (by decide) hln d kk
theorem g_7_4 {index : Nat} (hln : Cond.fieldLink Y.1.cls index RX7 "leastTold" "Z" ∈ lw_good) (d : decode Y.2.1 pc = .ok (.getfield index, 3)) (kk : WQ Z Y I0 gr (pc + 3) lv (vi (I 7 0 4) :: st) I e κ) : WQ Z Y I0 gr pc lv (vr Z 7 0 :: st) I e κ :=
  wq_get (k := 7) (i := 0) (fk := 4) (ci := 7) (N := 7) (T := TX7) rfl (by decide) rfl rfl in_7 (by decide) rfl rfl hln d kk
theorem p_7_4 {index : Nat} {x : Int} {f : Mem → Option (α × Mem)} (hz : x = 0 ∨ x = 1) (hln : Cond.fieldLink Y.1.cls index RX7 "leastTold" "Z" ∈ lw_good) (d : decode Y.2.1 pc = .ok (.putfield index, 3)) (kk : ∀ J : Mem, WQ Z Y I0 gr (pc + 3) lv st J (f J) κ) : WQ Z Y I0 gr pc lv (vi x :: vr Z 7 0 :: st) I (ltI (sI I 7 0 4 x) f) κ :=
  wq_put (k := 7) (i := 0) (fk := 4) (ci := 7) (N := 7) (T := TX7) (v := vi x) rfl (by simp [ent, sI]) (by decide) rfl rfl in_7 tyX7_ok nmX7 (by decide) rfl (Nat.le_of_ble_eq_true rfl) (by rcases hz with rfl | rfl <;> rfl) (by rcases hz with rfl | rfl <;> rfl) (by decide) (by decide) (by decide) hln d kk
theorem g_7_5 {index : Nat} (hln : Cond.fieldLink Y.1.cls index RX7 "tieTold" "Z" ∈ lw_good) (d : decode Y.2.1 pc = .ok (.getfield index, 3)) (kk : WQ Z Y I0 gr (pc + 3) lv (vi (I 7 0 5) :: st) I e κ) : WQ Z Y I0 gr pc lv (vr Z 7 0 :: st) I e κ :=
  wq_get (k := 7) (i := 0) (fk := 5) (ci := 7) (N := 7) (T := TX7) rfl (by decide) rfl rfl in_7 (by decide) rfl rfl hln d kk
theorem p_7_5 {index : Nat} {x : Int} {f : Mem → Option (α × Mem)} (hz : x = 0 ∨ x = 1) (hln : Cond.fieldLink Y.1.cls index RX7 "tieTold" "Z" ∈ lw_good) (d : decode Y.2.1 pc = .ok (.putfield index, 3)) (kk : ∀ J : Mem, WQ Z Y I0 gr (pc + 3) lv st J (f J) κ) : WQ Z Y I0 gr pc lv (vi x :: vr Z 7 0 :: st) I (ltI (sI I 7 0 5 x) f) κ :=
  wq_put (k := 7) (i := 0) (fk := 5) (ci := 7) (N := 7) (T := TX7) (v := vi x) rfl (by simp [ent, sI]) (by decide) rfl rfl in_7 tyX7_ok nmX7 (by decide) rfl (Nat.le_of_ble_eq_true rfl) (by rcases hz with rfl | rfl <;> rfl) (by rcases hz with rfl | rfl <;> rfl) (by decide) (by decide) (by decide) hln d kk
theorem g_7_6 {index : Nat} (hln : Cond.fieldLink Y.1.cls index RX7 "inlineTold" "Z" ∈ lw_good) (d : decode Y.2.1 pc = .ok (.getfield index, 3)) (kk : WQ Z Y I0 gr (pc + 3) lv (vi (I 7 0 6) :: st) I e κ) : WQ Z Y I0 gr pc lv (vr Z 7 0 :: st) I e κ :=
  wq_get (k := 7) (i := 0) (fk := 6) (ci := 7) (N := 7) (T := TX7) rfl (by decide) rfl rfl in_7 (by decide) rfl rfl hln d kk
theorem p_7_6 {index : Nat} {x : Int} {f : Mem → Option (α × Mem)} (hz : x = 0 ∨ x = 1) (hln : Cond.fieldLink Y.1.cls index RX7 "inlineTold" "Z" ∈ lw_good) (d : decode Y.2.1 pc = .ok (.putfield index, 3)) (kk : ∀ J : Mem, WQ Z Y I0 gr (pc + 3) lv st J (f J) κ) : WQ Z Y I0 gr pc lv (vi x :: vr Z 7 0 :: st) I (ltI (sI I 7 0 6 x) f) κ :=
  wq_put (k := 7) (i := 0) (fk := 6) (ci := 7) (N := 7) (T := TX7) (v := vi x) rfl (by simp [ent, sI]) (by decide) rfl rfl in_7 tyX7_ok nmX7 (by decide) rfl (Nat.le_of_ble_eq_true rfl) (by rcases hz with rfl | rfl <;> rfl) (by rcases hz with rfl | rfl <;> rfl) (by decide) (by decide) (by decide) hln d kk
theorem in_8 : ∀ w ∈ u_ws RX6 TX6 11, w ∈ lw_good := by decide +kernel
theorem ob_8 : Ob Z gr I (zA Z 8 0) RX6 := ⟨8, 0, 8, 11, TX6, _, rfl, (by decide), rfl, rfl⟩
theorem g_8_0 {index : Nat} (hln : Cond.fieldLink Y.1.cls index RX6 "source" "LPairRules$Source;" ∈ lw_good) (d : decode Y.2.1 pc = .ok (.getfield index, 3)) (kk : WQ Z Y I0 gr (pc + 3) lv (vr Z 6 0 :: st) I e κ) : WQ Z Y I0 gr pc lv (vr Z 8 0 :: st) I e κ :=
  wq_get (k := 8) (i := 0) (fk := 0) (ci := 8) (N := 11) (T := TX6) rfl (by decide) rfl rfl in_8 (by decide) rfl rfl hln d kk
theorem g_8_1 {index : Nat} (hln : Cond.fieldLink Y.1.cls index RX6 "words" "[LPairRules$Word;" ∈ lw_good) (d : decode Y.2.1 pc = .ok (.getfield index, 3)) (kk : WQ Z Y I0 gr (pc + 3) lv (vr Z 20 0 :: st) I e κ) : WQ Z Y I0 gr pc lv (vr Z 8 0 :: st) I e κ :=
  wq_get (k := 8) (i := 0) (fk := 1) (ci := 8) (N := 11) (T := TX6) rfl (by decide) rfl rfl in_8 (by decide) rfl rfl hln d kk
theorem g_8_2 {index : Nat} (hln : Cond.fieldLink Y.1.cls index RX6 "numbers" "[I" ∈ lw_good) (d : decode Y.2.1 pc = .ok (.getfield index, 3)) (kk : WQ Z Y I0 gr (pc + 3) lv (vr Z 21 0 :: st) I e κ) : WQ Z Y I0 gr pc lv (vr Z 8 0 :: st) I e κ :=
  wq_get (k := 8) (i := 0) (fk := 2) (ci := 8) (N := 11) (T := TX6) rfl (by decide) rfl rfl in_8 (by decide) rfl rfl hln d kk
theorem g_8_3 {index : Nat} (hln : Cond.fieldLink Y.1.cls index RX6 "lettersFrom" "[I" ∈ lw_good) (d : decode Y.2.1 pc = .ok (.getfield index, 3)) (kk : WQ Z Y I0 gr (pc + 3) lv (vr Z 21 1 :: st) I e κ) : WQ Z Y I0 gr pc lv (vr Z 8 0 :: st) I e κ :=
  wq_get (k := 8) (i := 0) (fk := 3) (ci := 8) (N := 11) (T := TX6) rfl (by decide) rfl rfl in_8 (by decide) rfl rfl hln d kk
theorem g_8_4 {index : Nat} (hln : Cond.fieldLink Y.1.cls index RX6 "lettersMany" "[I" ∈ lw_good) (d : decode Y.2.1 pc = .ok (.getfield index, 3)) (kk : WQ Z Y I0 gr (pc + 3) lv (vr Z 21 2 :: st) I e κ) : WQ Z Y I0 gr pc lv (vr Z 8 0 :: st) I e κ :=
  wq_get (k := 8) (i := 0) (fk := 4) (ci := 8) (N := 11) (T := TX6) rfl (by decide) rfl rfl in_8 (by decide) rfl rfl hln d kk
theorem g_8_5 {index : Nat} (hln : Cond.fieldLink Y.1.cls index RX6 "partners" "[I" ∈ lw_good) (d : decode Y.2.1 pc = .ok (.getfield index, 3)) (kk : WQ Z Y I0 gr (pc + 3) lv (vr Z 21 3 :: st) I e κ) : WQ Z Y I0 gr pc lv (vr Z 8 0 :: st) I e κ :=
  wq_get (k := 8) (i := 0) (fk := 5) (ci := 8) (N := 11) (T := TX6) rfl (by decide) rfl rfl in_8 (by decide) rfl rfl hln d kk
theorem g_8_6 {index : Nat} (hln : Cond.fieldLink Y.1.cls index RX6 "timesLeft" "[I" ∈ lw_good) (d : decode Y.2.1 pc = .ok (.getfield index, 3)) (kk : WQ Z Y I0 gr (pc + 3) lv (vr Z 21 4 :: st) I e κ) : WQ Z Y I0 gr pc lv (vr Z 8 0 :: st) I e κ :=
  wq_get (k := 8) (i := 0) (fk := 6) (ci := 8) (N := 11) (T := TX6) rfl (by decide) rfl rfl in_8 (by decide) rfl rfl hln d kk
theorem g_8_7 {index : Nat} (hln : Cond.fieldLink Y.1.cls index RX6 "openAgains" "[I" ∈ lw_good) (d : decode Y.2.1 pc = .ok (.getfield index, 3)) (kk : WQ Z Y I0 gr (pc + 3) lv (vr Z 21 5 :: st) I e κ) : WQ Z Y I0 gr pc lv (vr Z 8 0 :: st) I e κ :=
  wq_get (k := 8) (i := 0) (fk := 7) (ci := 8) (N := 11) (T := TX6) rfl (by decide) rfl rfl in_8 (by decide) rfl rfl hln d kk
theorem g_8_8 {index : Nat} (hln : Cond.fieldLink Y.1.cls index RX6 "many" "I" ∈ lw_good) (d : decode Y.2.1 pc = .ok (.getfield index, 3)) (kk : WQ Z Y I0 gr (pc + 3) lv (vi (I 8 0 8) :: st) I e κ) : WQ Z Y I0 gr pc lv (vr Z 8 0 :: st) I e κ :=
  wq_get (k := 8) (i := 0) (fk := 8) (ci := 8) (N := 11) (T := TX6) rfl (by decide) rfl rfl in_8 (by decide) rfl rfl hln d kk
theorem p_8_8 {index : Nat} {x : Int} {f : Mem → Option (α × Mem)} (hln : Cond.fieldLink Y.1.cls index RX6 "many" "I" ∈ lw_good) (d : decode Y.2.1 pc = .ok (.putfield index, 3)) (kk : ∀ J : Mem, WQ Z Y I0 gr (pc + 3) lv st J (f J) κ) : WQ Z Y I0 gr pc lv (vi x :: vr Z 8 0 :: st) I (ltI (sI I 8 0 8 x) f) κ :=
  wq_put (k := 8) (i := 0) (fk := 8) (ci := 8) (N := 11) (T := TX6) (v := vi x) rfl (by simp [ent, sI]) (by decide) rfl rfl in_8 tyX6_ok nmX6 (by decide) rfl (Nat.le_of_ble_eq_true rfl) rfl rfl (by decide) (by decide) (by decide) hln d kk
theorem g_8_9 {index : Nat} (hln : Cond.fieldLink Y.1.cls index RX6 "orders" "I" ∈ lw_good) (d : decode Y.2.1 pc = .ok (.getfield index, 3)) (kk : WQ Z Y I0 gr (pc + 3) lv (vi (I 8 0 9) :: st) I e κ) : WQ Z Y I0 gr pc lv (vr Z 8 0 :: st) I e κ :=
  wq_get (k := 8) (i := 0) (fk := 9) (ci := 8) (N := 11) (T := TX6) rfl (by decide) rfl rfl in_8 (by decide) rfl rfl hln d kk
theorem p_8_9 {index : Nat} {x : Int} {f : Mem → Option (α × Mem)} (hln : Cond.fieldLink Y.1.cls index RX6 "orders" "I" ∈ lw_good) (d : decode Y.2.1 pc = .ok (.putfield index, 3)) (kk : ∀ J : Mem, WQ Z Y I0 gr (pc + 3) lv st J (f J) κ) : WQ Z Y I0 gr pc lv (vi x :: vr Z 8 0 :: st) I (ltI (sI I 8 0 9 x) f) κ :=
  wq_put (k := 8) (i := 0) (fk := 9) (ci := 8) (N := 11) (T := TX6) (v := vi x) rfl (by simp [ent, sI]) (by decide) rfl rfl in_8 tyX6_ok nmX6 (by decide) rfl (Nat.le_of_ble_eq_true rfl) rfl rfl (by decide) (by decide) (by decide) hln d kk
theorem g_8_10 {index : Nat} (hln : Cond.fieldLink Y.1.cls index RX6 "open" "I" ∈ lw_good) (d : decode Y.2.1 pc = .ok (.getfield index, 3)) (kk : WQ Z Y I0 gr (pc + 3) lv (vi (I 8 0 10) :: st) I e κ) : WQ Z Y I0 gr pc lv (vr Z 8 0 :: st) I e κ :=
  wq_get (k := 8) (i := 0) (fk := 10) (ci := 8) (N := 11) (T := TX6) rfl (by decide) rfl rfl in_8 (by decide) rfl rfl hln d kk
theorem p_8_10 {index : Nat} {x : Int} {f : Mem → Option (α × Mem)} (hln : Cond.fieldLink Y.1.cls index RX6 "open" "I" ∈ lw_good) (d : decode Y.2.1 pc = .ok (.putfield index, 3)) (kk : ∀ J : Mem, WQ Z Y I0 gr (pc + 3) lv st J (f J) κ) : WQ Z Y I0 gr pc lv (vi x :: vr Z 8 0 :: st) I (ltI (sI I 8 0 10 x) f) κ :=
  wq_put (k := 8) (i := 0) (fk := 10) (ci := 8) (N := 11) (T := TX6) (v := vi x) rfl (by simp [ent, sI]) (by decide) rfl rfl in_8 tyX6_ok nmX6 (by decide) rfl (Nat.le_of_ble_eq_true rfl) rfl rfl (by decide) (by decide) (by decide) hln d kk
theorem in_9 : ∀ w ∈ u_ws RX2 TX2 5, w ∈ lw_good := by decide +kernel
theorem ob_9 : Ob Z gr I (zA Z 9 0) RX2 := ⟨9, 0, 9, 5, TX2, _, rfl, (by decide), rfl, rfl⟩
theorem g_9_0 {index : Nat} (hln : Cond.fieldLink Y.1.cls index RX2 "past" "[LPairRules$Grammar;" ∈ lw_good) (d : decode Y.2.1 pc = .ok (.getfield index, 3)) (kk : WQ Z Y I0 gr (pc + 3) lv (vr Z 22 0 :: st) I e κ) : WQ Z Y I0 gr pc lv (vr Z 9 0 :: st) I e κ :=
  wq_get (k := 9) (i := 0) (fk := 0) (ci := 9) (N := 5) (T := TX2) rfl (by decide) rfl rfl in_9 (by decide) rfl rfl hln d kk
theorem g_9_1 {index : Nat} (hln : Cond.fieldLink Y.1.cls index RX2 "kept" "[LPairRules$Grammar;" ∈ lw_good) (d : decode Y.2.1 pc = .ok (.getfield index, 3)) (kk : WQ Z Y I0 gr (pc + 3) lv (vr Z 23 0 :: st) I e κ) : WQ Z Y I0 gr pc lv (vr Z 9 0 :: st) I e κ :=
  wq_get (k := 9) (i := 0) (fk := 1) (ci := 9) (N := 5) (T := TX2) rfl (by decide) rfl rfl in_9 (by decide) rfl rfl hln d kk
theorem g_9_2 {index : Nat} (hln : Cond.fieldLink Y.1.cls index RX2 "isKept" "[Z" ∈ lw_good) (d : decode Y.2.1 pc = .ok (.getfield index, 3)) (kk : WQ Z Y I0 gr (pc + 3) lv (vr Z 24 0 :: st) I e κ) : WQ Z Y I0 gr pc lv (vr Z 9 0 :: st) I e κ :=
  wq_get (k := 9) (i := 0) (fk := 2) (ci := 9) (N := 5) (T := TX2) rfl (by decide) rfl rfl in_9 (by decide) rfl rfl hln d kk
theorem g_9_3 {index : Nat} (hln : Cond.fieldLink Y.1.cls index RX2 "next" "I" ∈ lw_good) (d : decode Y.2.1 pc = .ok (.getfield index, 3)) (kk : WQ Z Y I0 gr (pc + 3) lv (vi (I 9 0 3) :: st) I e κ) : WQ Z Y I0 gr pc lv (vr Z 9 0 :: st) I e κ :=
  wq_get (k := 9) (i := 0) (fk := 3) (ci := 9) (N := 5) (T := TX2) rfl (by decide) rfl rfl in_9 (by decide) rfl rfl hln d kk
theorem p_9_3 {index : Nat} {x : Int} {f : Mem → Option (α × Mem)} (hln : Cond.fieldLink Y.1.cls index RX2 "next" "I" ∈ lw_good) (d : decode Y.2.1 pc = .ok (.putfield index, 3)) (kk : ∀ J : Mem, WQ Z Y I0 gr (pc + 3) lv st J (f J) κ) : WQ Z Y I0 gr pc lv (vi x :: vr Z 9 0 :: st) I (ltI (sI I 9 0 3 x) f) κ :=
  wq_put (k := 9) (i := 0) (fk := 3) (ci := 9) (N := 5) (T := TX2) (v := vi x) rfl (by simp [ent, sI]) (by decide) rfl rfl in_9 tyX2_ok nmX2 (by decide) rfl (Nat.le_of_ble_eq_true rfl) rfl rfl (by decide) (by decide) (by decide) hln d kk
theorem g_9_4 {index : Nat} (hln : Cond.fieldLink Y.1.cls index RX2 "many" "I" ∈ lw_good) (d : decode Y.2.1 pc = .ok (.getfield index, 3)) (kk : WQ Z Y I0 gr (pc + 3) lv (vi (I 9 0 4) :: st) I e κ) : WQ Z Y I0 gr pc lv (vr Z 9 0 :: st) I e κ :=
  wq_get (k := 9) (i := 0) (fk := 4) (ci := 9) (N := 5) (T := TX2) rfl (by decide) rfl rfl in_9 (by decide) rfl rfl hln d kk
theorem p_9_4 {index : Nat} {x : Int} {f : Mem → Option (α × Mem)} (hln : Cond.fieldLink Y.1.cls index RX2 "many" "I" ∈ lw_good) (d : decode Y.2.1 pc = .ok (.putfield index, 3)) (kk : ∀ J : Mem, WQ Z Y I0 gr (pc + 3) lv st J (f J) κ) : WQ Z Y I0 gr pc lv (vi x :: vr Z 9 0 :: st) I (ltI (sI I 9 0 4 x) f) κ :=
  wq_put (k := 9) (i := 0) (fk := 4) (ci := 9) (N := 5) (T := TX2) (v := vi x) rfl (by simp [ent, sI]) (by decide) rfl rfl in_9 tyX2_ok nmX2 (by decide) rfl (Nat.le_of_ble_eq_true rfl) rfl rfl (by decide) (by decide) (by decide) hln d kk
theorem in_10 : ∀ w ∈ u_ws RX4 TX4 2, w ∈ lw_good := by decide +kernel
theorem ob_10 : Ob Z gr I (zA Z 10 0) RX4 := ⟨10, 0, 10, 2, TX4, _, rfl, (by decide), rfl, rfl⟩
theorem g_10_0 {index : Nat} (hln : Cond.fieldLink Y.1.cls index RX4 "bytes" "[B" ∈ lw_good) (d : decode Y.2.1 pc = .ok (.getfield index, 3)) (kk : WQ Z Y I0 gr (pc + 3) lv (.ref (gr 516) :: st) I e κ) : WQ Z Y I0 gr pc lv (vr Z 10 0 :: st) I e κ :=
  wq_get (k := 10) (i := 0) (fk := 0) (ci := 10) (N := 2) (T := TX4) rfl (by decide) rfl rfl in_10 (by decide) rfl rfl hln d kk
theorem g_10_1 {index : Nat} (hln : Cond.fieldLink Y.1.cls index RX4 "many" "I" ∈ lw_good) (d : decode Y.2.1 pc = .ok (.getfield index, 3)) (kk : WQ Z Y I0 gr (pc + 3) lv (vi (I 10 0 1) :: st) I e κ) : WQ Z Y I0 gr pc lv (vr Z 10 0 :: st) I e κ :=
  wq_get (k := 10) (i := 0) (fk := 1) (ci := 10) (N := 2) (T := TX4) rfl (by decide) rfl rfl in_10 (by decide) rfl rfl hln d kk
theorem p_10_1 {index : Nat} {x : Int} {f : Mem → Option (α × Mem)} (hln : Cond.fieldLink Y.1.cls index RX4 "many" "I" ∈ lw_good) (d : decode Y.2.1 pc = .ok (.putfield index, 3)) (kk : ∀ J : Mem, WQ Z Y I0 gr (pc + 3) lv st J (f J) κ) : WQ Z Y I0 gr pc lv (vi x :: vr Z 10 0 :: st) I (ltI (sI I 10 0 1 x) f) κ :=
  wq_put (k := 10) (i := 0) (fk := 1) (ci := 10) (N := 2) (T := TX4) (v := vi x) rfl (by simp [ent, sI]) (by decide) rfl rfl in_10 tyX4_ok nmX4 (by decide) rfl (Nat.le_of_ble_eq_true rfl) rfl rfl (by decide) (by decide) (by decide) hln d kk
theorem in_26 : ∀ w ∈ u_ws RX13 TX13 44, w ∈ lw_good := by decide +kernel
theorem ob_26 : Ob Z gr I (zA Z 26 0) RX13 := ⟨26, 0, 11, 44, TX13, _, rfl, (by decide), rfl, rfl⟩
theorem g_26_0 {index : Nat} (hln : Cond.fieldLink Y.1.cls index RX13 "w" "[I" ∈ lw_good) (d : decode Y.2.1 pc = .ok (.getfield index, 3)) (kk : WQ Z Y I0 gr (pc + 3) lv (vr Z 27 0 :: st) I e κ) : WQ Z Y I0 gr pc lv (vr Z 26 0 :: st) I e κ :=
  wq_get (k := 26) (i := 0) (fk := 0) (ci := 11) (N := 44) (T := TX13) rfl (by decide) rfl rfl in_26 (by decide) rfl rfl hln d kk
theorem g_26_1 {index : Nat} (hln : Cond.fieldLink Y.1.cls index RX13 "other" "[I" ∈ lw_good) (d : decode Y.2.1 pc = .ok (.getfield index, 3)) (kk : WQ Z Y I0 gr (pc + 3) lv (vr Z 27 1 :: st) I e κ) : WQ Z Y I0 gr pc lv (vr Z 26 0 :: st) I e κ :=
  wq_get (k := 26) (i := 0) (fk := 1) (ci := 11) (N := 44) (T := TX13) rfl (by decide) rfl rfl in_26 (by decide) rfl rfl hln d kk
theorem g_26_2 {index : Nat} (hln : Cond.fieldLink Y.1.cls index RX13 "ahead" "[I" ∈ lw_good) (d : decode Y.2.1 pc = .ok (.getfield index, 3)) (kk : WQ Z Y I0 gr (pc + 3) lv (vr Z 27 2 :: st) I e κ) : WQ Z Y I0 gr pc lv (vr Z 26 0 :: st) I e κ :=
  wq_get (k := 26) (i := 0) (fk := 2) (ci := 11) (N := 44) (T := TX13) rfl (by decide) rfl rfl in_26 (by decide) rfl rfl hln d kk
theorem g_26_3 {index : Nat} (hln : Cond.fieldLink Y.1.cls index RX13 "past" "[I" ∈ lw_good) (d : decode Y.2.1 pc = .ok (.getfield index, 3)) (kk : WQ Z Y I0 gr (pc + 3) lv (vr Z 27 3 :: st) I e κ) : WQ Z Y I0 gr pc lv (vr Z 26 0 :: st) I e κ :=
  wq_get (k := 26) (i := 0) (fk := 3) (ci := 11) (N := 44) (T := TX13) rfl (by decide) rfl rfl in_26 (by decide) rfl rfl hln d kk
theorem g_26_4 {index : Nat} (hln : Cond.fieldLink Y.1.cls index RX13 "kept" "[I" ∈ lw_good) (d : decode Y.2.1 pc = .ok (.getfield index, 3)) (kk : WQ Z Y I0 gr (pc + 3) lv (vr Z 27 4 :: st) I e κ) : WQ Z Y I0 gr pc lv (vr Z 26 0 :: st) I e κ :=
  wq_get (k := 26) (i := 0) (fk := 4) (ci := 11) (N := 44) (T := TX13) rfl (by decide) rfl rfl in_26 (by decide) rfl rfl hln d kk
theorem g_26_5 {index : Nat} (hln : Cond.fieldLink Y.1.cls index RX13 "isKept" "[Z" ∈ lw_good) (d : decode Y.2.1 pc = .ok (.getfield index, 3)) (kk : WQ Z Y I0 gr (pc + 3) lv (vr Z 28 0 :: st) I e κ) : WQ Z Y I0 gr pc lv (vr Z 26 0 :: st) I e κ :=
  wq_get (k := 26) (i := 0) (fk := 5) (ci := 11) (N := 44) (T := TX13) rfl (by decide) rfl rfl in_26 (by decide) rfl rfl hln d kk
theorem g_26_6 {index : Nat} (hln : Cond.fieldLink Y.1.cls index RX13 "undos" "I" ∈ lw_good) (d : decode Y.2.1 pc = .ok (.getfield index, 3)) (kk : WQ Z Y I0 gr (pc + 3) lv (vi (I 26 0 6) :: st) I e κ) : WQ Z Y I0 gr pc lv (vr Z 26 0 :: st) I e κ :=
  wq_get (k := 26) (i := 0) (fk := 6) (ci := 11) (N := 44) (T := TX13) rfl (by decide) rfl rfl in_26 (by decide) rfl rfl hln d kk
theorem p_26_6 {index : Nat} {x : Int} {f : Mem → Option (α × Mem)} (hln : Cond.fieldLink Y.1.cls index RX13 "undos" "I" ∈ lw_good) (d : decode Y.2.1 pc = .ok (.putfield index, 3)) (kk : ∀ J : Mem, WQ Z Y I0 gr (pc + 3) lv st J (f J) κ) : WQ Z Y I0 gr pc lv (vi x :: vr Z 26 0 :: st) I (ltI (sI I 26 0 6 x) f) κ :=
  wq_put (k := 26) (i := 0) (fk := 6) (ci := 11) (N := 44) (T := TX13) (v := vi x) rfl (by simp [ent, sI]) (by decide) rfl rfl in_26 tyX13_ok nmX13 (by decide) rfl (Nat.le_of_ble_eq_true rfl) rfl rfl (by decide) (by decide) (by decide) hln d kk
theorem g_26_7 {index : Nat} (hln : Cond.fieldLink Y.1.cls index RX13 "thrown" "I" ∈ lw_good) (d : decode Y.2.1 pc = .ok (.getfield index, 3)) (kk : WQ Z Y I0 gr (pc + 3) lv (vi (I 26 0 7) :: st) I e κ) : WQ Z Y I0 gr pc lv (vr Z 26 0 :: st) I e κ :=
  wq_get (k := 26) (i := 0) (fk := 7) (ci := 11) (N := 44) (T := TX13) rfl (by decide) rfl rfl in_26 (by decide) rfl rfl hln d kk
theorem p_26_7 {index : Nat} {x : Int} {f : Mem → Option (α × Mem)} (hln : Cond.fieldLink Y.1.cls index RX13 "thrown" "I" ∈ lw_good) (d : decode Y.2.1 pc = .ok (.putfield index, 3)) (kk : ∀ J : Mem, WQ Z Y I0 gr (pc + 3) lv st J (f J) κ) : WQ Z Y I0 gr pc lv (vi x :: vr Z 26 0 :: st) I (ltI (sI I 26 0 7 x) f) κ :=
  wq_put (k := 26) (i := 0) (fk := 7) (ci := 11) (N := 44) (T := TX13) (v := vi x) rfl (by simp [ent, sI]) (by decide) rfl rfl in_26 tyX13_ok nmX13 (by decide) rfl (Nat.le_of_ble_eq_true rfl) rfl rfl (by decide) (by decide) (by decide) hln d kk
theorem g_26_8 {index : Nat} (hln : Cond.fieldLink Y.1.cls index RX13 "lengths" "[I" ∈ lw_good) (d : decode Y.2.1 pc = .ok (.getfield index, 3)) (kk : WQ Z Y I0 gr (pc + 3) lv (vr Z 27 5 :: st) I e κ) : WQ Z Y I0 gr pc lv (vr Z 26 0 :: st) I e κ :=
  wq_get (k := 26) (i := 0) (fk := 8) (ci := 11) (N := 44) (T := TX13) rfl (by decide) rfl rfl in_26 (by decide) rfl rfl hln d kk
theorem g_26_9 {index : Nat} (hln : Cond.fieldLink Y.1.cls index RX13 "depths" "[I" ∈ lw_good) (d : decode Y.2.1 pc = .ok (.getfield index, 3)) (kk : WQ Z Y I0 gr (pc + 3) lv (vr Z 27 6 :: st) I e κ) : WQ Z Y I0 gr pc lv (vr Z 26 0 :: st) I e κ :=
  wq_get (k := 26) (i := 0) (fk := 9) (ci := 11) (N := 44) (T := TX13) rfl (by decide) rfl rfl in_26 (by decide) rfl rfl hln d kk
theorem g_26_10 {index : Nat} (hln : Cond.fieldLink Y.1.cls index RX13 "deepest" "I" ∈ lw_good) (d : decode Y.2.1 pc = .ok (.getfield index, 3)) (kk : WQ Z Y I0 gr (pc + 3) lv (vi (I 26 0 10) :: st) I e κ) : WQ Z Y I0 gr pc lv (vr Z 26 0 :: st) I e κ :=
  wq_get (k := 26) (i := 0) (fk := 10) (ci := 11) (N := 44) (T := TX13) rfl (by decide) rfl rfl in_26 (by decide) rfl rfl hln d kk
theorem p_26_10 {index : Nat} {x : Int} {f : Mem → Option (α × Mem)} (hln : Cond.fieldLink Y.1.cls index RX13 "deepest" "I" ∈ lw_good) (d : decode Y.2.1 pc = .ok (.putfield index, 3)) (kk : ∀ J : Mem, WQ Z Y I0 gr (pc + 3) lv st J (f J) κ) : WQ Z Y I0 gr pc lv (vi x :: vr Z 26 0 :: st) I (ltI (sI I 26 0 10 x) f) κ :=
  wq_put (k := 26) (i := 0) (fk := 10) (ci := 11) (N := 44) (T := TX13) (v := vi x) rfl (by simp [ent, sI]) (by decide) rfl rfl in_26 tyX13_ok nmX13 (by decide) rfl (Nat.le_of_ble_eq_true rfl) rfl rfl (by decide) (by decide) (by decide) hln d kk
theorem g_26_11 {index : Nat} (hln : Cond.fieldLink Y.1.cls index RX13 "unfolded" "[I" ∈ lw_good) (d : decode Y.2.1 pc = .ok (.getfield index, 3)) (kk : WQ Z Y I0 gr (pc + 3) lv (vr Z 27 7 :: st) I e κ) : WQ Z Y I0 gr pc lv (vr Z 26 0 :: st) I e κ :=
  wq_get (k := 26) (i := 0) (fk := 11) (ci := 11) (N := 44) (T := TX13) rfl (by decide) rfl rfl in_26 (by decide) rfl rfl hln d kk
theorem g_26_12 {index : Nat} (hln : Cond.fieldLink Y.1.cls index RX13 "madeBy" "[I" ∈ lw_good) (d : decode Y.2.1 pc = .ok (.getfield index, 3)) (kk : WQ Z Y I0 gr (pc + 3) lv (vr Z 27 8 :: st) I e κ) : WQ Z Y I0 gr pc lv (vr Z 26 0 :: st) I e κ :=
  wq_get (k := 26) (i := 0) (fk := 12) (ci := 11) (N := 44) (T := TX13) rfl (by decide) rfl rfl in_26 (by decide) rfl rfl hln d kk
theorem g_26_13 {index : Nat} (hln : Cond.fieldLink Y.1.cls index RX13 "inRow" "[I" ∈ lw_good) (d : decode Y.2.1 pc = .ok (.getfield index, 3)) (kk : WQ Z Y I0 gr (pc + 3) lv (vr Z 27 9 :: st) I e κ) : WQ Z Y I0 gr pc lv (vr Z 26 0 :: st) I e κ :=
  wq_get (k := 26) (i := 0) (fk := 13) (ci := 11) (N := 44) (T := TX13) rfl (by decide) rfl rfl in_26 (by decide) rfl rfl hln d kk
theorem g_26_14 {index : Nat} (hln : Cond.fieldLink Y.1.cls index RX13 "inPlace" "[I" ∈ lw_good) (d : decode Y.2.1 pc = .ok (.getfield index, 3)) (kk : WQ Z Y I0 gr (pc + 3) lv (vr Z 27 10 :: st) I e κ) : WQ Z Y I0 gr pc lv (vr Z 26 0 :: st) I e κ :=
  wq_get (k := 26) (i := 0) (fk := 14) (ci := 11) (N := 44) (T := TX13) rfl (by decide) rfl rfl in_26 (by decide) rfl rfl hln d kk
theorem g_26_15 {index : Nat} (hln : Cond.fieldLink Y.1.cls index RX13 "found" "[I" ∈ lw_good) (d : decode Y.2.1 pc = .ok (.getfield index, 3)) (kk : WQ Z Y I0 gr (pc + 3) lv (vr Z 27 11 :: st) I e κ) : WQ Z Y I0 gr pc lv (vr Z 26 0 :: st) I e κ :=
  wq_get (k := 26) (i := 0) (fk := 15) (ci := 11) (N := 44) (T := TX13) rfl (by decide) rfl rfl in_26 (by decide) rfl rfl hln d kk
theorem g_26_16 {index : Nat} (hln : Cond.fieldLink Y.1.cls index RX13 "order" "[I" ∈ lw_good) (d : decode Y.2.1 pc = .ok (.getfield index, 3)) (kk : WQ Z Y I0 gr (pc + 3) lv (vr Z 27 12 :: st) I e κ) : WQ Z Y I0 gr pc lv (vr Z 26 0 :: st) I e κ :=
  wq_get (k := 26) (i := 0) (fk := 16) (ci := 11) (N := 44) (T := TX13) rfl (by decide) rfl rfl in_26 (by decide) rfl rfl hln d kk
theorem g_26_17 {index : Nat} (hln : Cond.fieldLink Y.1.cls index RX13 "keeper" "[I" ∈ lw_good) (d : decode Y.2.1 pc = .ok (.getfield index, 3)) (kk : WQ Z Y I0 gr (pc + 3) lv (vr Z 27 13 :: st) I e κ) : WQ Z Y I0 gr pc lv (vr Z 26 0 :: st) I e κ :=
  wq_get (k := 26) (i := 0) (fk := 17) (ci := 11) (N := 44) (T := TX13) rfl (by decide) rfl rfl in_26 (by decide) rfl rfl hln d kk
theorem g_26_18 {index : Nat} (hln : Cond.fieldLink Y.1.cls index RX13 "orders0" "I" ∈ lw_good) (d : decode Y.2.1 pc = .ok (.getfield index, 3)) (kk : WQ Z Y I0 gr (pc + 3) lv (vi (I 26 0 18) :: st) I e κ) : WQ Z Y I0 gr pc lv (vr Z 26 0 :: st) I e κ :=
  wq_get (k := 26) (i := 0) (fk := 18) (ci := 11) (N := 44) (T := TX13) rfl (by decide) rfl rfl in_26 (by decide) rfl rfl hln d kk
theorem p_26_18 {index : Nat} {x : Int} {f : Mem → Option (α × Mem)} (hln : Cond.fieldLink Y.1.cls index RX13 "orders0" "I" ∈ lw_good) (d : decode Y.2.1 pc = .ok (.putfield index, 3)) (kk : ∀ J : Mem, WQ Z Y I0 gr (pc + 3) lv st J (f J) κ) : WQ Z Y I0 gr pc lv (vi x :: vr Z 26 0 :: st) I (ltI (sI I 26 0 18 x) f) κ :=
  wq_put (k := 26) (i := 0) (fk := 18) (ci := 11) (N := 44) (T := TX13) (v := vi x) rfl (by simp [ent, sI]) (by decide) rfl rfl in_26 tyX13_ok nmX13 (by decide) rfl (Nat.le_of_ble_eq_true rfl) rfl rfl (by decide) (by decide) (by decide) hln d kk
theorem g_26_19 {index : Nat} (hln : Cond.fieldLink Y.1.cls index RX13 "buffer" "[I" ∈ lw_good) (d : decode Y.2.1 pc = .ok (.getfield index, 3)) (kk : WQ Z Y I0 gr (pc + 3) lv (vr Z 27 14 :: st) I e κ) : WQ Z Y I0 gr pc lv (vr Z 26 0 :: st) I e κ :=
  wq_get (k := 26) (i := 0) (fk := 19) (ci := 11) (N := 44) (T := TX13) rfl (by decide) rfl rfl in_26 (by decide) rfl rfl hln d kk
theorem g_26_20 {index : Nat} (hln : Cond.fieldLink Y.1.cls index RX13 "filled" "I" ∈ lw_good) (d : decode Y.2.1 pc = .ok (.getfield index, 3)) (kk : WQ Z Y I0 gr (pc + 3) lv (vi (I 26 0 20) :: st) I e κ) : WQ Z Y I0 gr pc lv (vr Z 26 0 :: st) I e κ :=
  wq_get (k := 26) (i := 0) (fk := 20) (ci := 11) (N := 44) (T := TX13) rfl (by decide) rfl rfl in_26 (by decide) rfl rfl hln d kk
theorem p_26_20 {index : Nat} {x : Int} {f : Mem → Option (α × Mem)} (hln : Cond.fieldLink Y.1.cls index RX13 "filled" "I" ∈ lw_good) (d : decode Y.2.1 pc = .ok (.putfield index, 3)) (kk : ∀ J : Mem, WQ Z Y I0 gr (pc + 3) lv st J (f J) κ) : WQ Z Y I0 gr pc lv (vi x :: vr Z 26 0 :: st) I (ltI (sI I 26 0 20 x) f) κ :=
  wq_put (k := 26) (i := 0) (fk := 20) (ci := 11) (N := 44) (T := TX13) (v := vi x) rfl (by simp [ent, sI]) (by decide) rfl rfl in_26 tyX13_ok nmX13 (by decide) rfl (Nat.le_of_ble_eq_true rfl) rfl rfl (by decide) (by decide) (by decide) hln d kk
theorem g_26_21 {index : Nat} (hln : Cond.fieldLink Y.1.cls index RX13 "begin" "I" ∈ lw_good) (d : decode Y.2.1 pc = .ok (.getfield index, 3)) (kk : WQ Z Y I0 gr (pc + 3) lv (vi (I 26 0 21) :: st) I e κ) : WQ Z Y I0 gr pc lv (vr Z 26 0 :: st) I e κ :=
  wq_get (k := 26) (i := 0) (fk := 21) (ci := 11) (N := 44) (T := TX13) rfl (by decide) rfl rfl in_26 (by decide) rfl rfl hln d kk
theorem p_26_21 {index : Nat} {x : Int} {f : Mem → Option (α × Mem)} (hln : Cond.fieldLink Y.1.cls index RX13 "begin" "I" ∈ lw_good) (d : decode Y.2.1 pc = .ok (.putfield index, 3)) (kk : ∀ J : Mem, WQ Z Y I0 gr (pc + 3) lv st J (f J) κ) : WQ Z Y I0 gr pc lv (vi x :: vr Z 26 0 :: st) I (ltI (sI I 26 0 21 x) f) κ :=
  wq_put (k := 26) (i := 0) (fk := 21) (ci := 11) (N := 44) (T := TX13) (v := vi x) rfl (by simp [ent, sI]) (by decide) rfl rfl in_26 tyX13_ok nmX13 (by decide) rfl (Nat.le_of_ble_eq_true rfl) rfl rfl (by decide) (by decide) (by decide) hln d kk
theorem g_26_22 {index : Nat} (hln : Cond.fieldLink Y.1.cls index RX13 "next" "I" ∈ lw_good) (d : decode Y.2.1 pc = .ok (.getfield index, 3)) (kk : WQ Z Y I0 gr (pc + 3) lv (vi (I 26 0 22) :: st) I e κ) : WQ Z Y I0 gr pc lv (vr Z 26 0 :: st) I e κ :=
  wq_get (k := 26) (i := 0) (fk := 22) (ci := 11) (N := 44) (T := TX13) rfl (by decide) rfl rfl in_26 (by decide) rfl rfl hln d kk
theorem p_26_22 {index : Nat} {x : Int} {f : Mem → Option (α × Mem)} (hln : Cond.fieldLink Y.1.cls index RX13 "next" "I" ∈ lw_good) (d : decode Y.2.1 pc = .ok (.putfield index, 3)) (kk : ∀ J : Mem, WQ Z Y I0 gr (pc + 3) lv st J (f J) κ) : WQ Z Y I0 gr pc lv (vi x :: vr Z 26 0 :: st) I (ltI (sI I 26 0 22 x) f) κ :=
  wq_put (k := 26) (i := 0) (fk := 22) (ci := 11) (N := 44) (T := TX13) (v := vi x) rfl (by simp [ent, sI]) (by decide) rfl rfl in_26 tyX13_ok nmX13 (by decide) rfl (Nat.le_of_ble_eq_true rfl) rfl rfl (by decide) (by decide) (by decide) hln d kk
theorem g_26_23 {index : Nat} (hln : Cond.fieldLink Y.1.cls index RX13 "token" "I" ∈ lw_good) (d : decode Y.2.1 pc = .ok (.getfield index, 3)) (kk : WQ Z Y I0 gr (pc + 3) lv (vi (I 26 0 23) :: st) I e κ) : WQ Z Y I0 gr pc lv (vr Z 26 0 :: st) I e κ :=
  wq_get (k := 26) (i := 0) (fk := 23) (ci := 11) (N := 44) (T := TX13) rfl (by decide) rfl rfl in_26 (by decide) rfl rfl hln d kk
theorem p_26_23 {index : Nat} {x : Int} {f : Mem → Option (α × Mem)} (hln : Cond.fieldLink Y.1.cls index RX13 "token" "I" ∈ lw_good) (d : decode Y.2.1 pc = .ok (.putfield index, 3)) (kk : ∀ J : Mem, WQ Z Y I0 gr (pc + 3) lv st J (f J) κ) : WQ Z Y I0 gr pc lv (vi x :: vr Z 26 0 :: st) I (ltI (sI I 26 0 23 x) f) κ :=
  wq_put (k := 26) (i := 0) (fk := 23) (ci := 11) (N := 44) (T := TX13) (v := vi x) rfl (by simp [ent, sI]) (by decide) rfl rfl in_26 tyX13_ok nmX13 (by decide) rfl (Nat.le_of_ble_eq_true rfl) rfl rfl (by decide) (by decide) (by decide) hln d kk
theorem g_26_24 {index : Nat} (hln : Cond.fieldLink Y.1.cls index RX13 "value" "I" ∈ lw_good) (d : decode Y.2.1 pc = .ok (.getfield index, 3)) (kk : WQ Z Y I0 gr (pc + 3) lv (vi (I 26 0 24) :: st) I e κ) : WQ Z Y I0 gr pc lv (vr Z 26 0 :: st) I e κ :=
  wq_get (k := 26) (i := 0) (fk := 24) (ci := 11) (N := 44) (T := TX13) rfl (by decide) rfl rfl in_26 (by decide) rfl rfl hln d kk
theorem p_26_24 {index : Nat} {x : Int} {f : Mem → Option (α × Mem)} (hln : Cond.fieldLink Y.1.cls index RX13 "value" "I" ∈ lw_good) (d : decode Y.2.1 pc = .ok (.putfield index, 3)) (kk : ∀ J : Mem, WQ Z Y I0 gr (pc + 3) lv st J (f J) κ) : WQ Z Y I0 gr pc lv (vi x :: vr Z 26 0 :: st) I (ltI (sI I 26 0 24 x) f) κ :=
  wq_put (k := 26) (i := 0) (fk := 24) (ci := 11) (N := 44) (T := TX13) (v := vi x) rfl (by simp [ent, sI]) (by decide) rfl rfl in_26 tyX13_ok nmX13 (by decide) rfl (Nat.le_of_ble_eq_true rfl) rfl rfl (by decide) (by decide) (by decide) hln d kk
theorem g_26_25 {index : Nat} (hln : Cond.fieldLink Y.1.cls index RX13 "error" "I" ∈ lw_good) (d : decode Y.2.1 pc = .ok (.getfield index, 3)) (kk : WQ Z Y I0 gr (pc + 3) lv (vi (I 26 0 25) :: st) I e κ) : WQ Z Y I0 gr pc lv (vr Z 26 0 :: st) I e κ :=
  wq_get (k := 26) (i := 0) (fk := 25) (ci := 11) (N := 44) (T := TX13) rfl (by decide) rfl rfl in_26 (by decide) rfl rfl hln d kk
theorem p_26_25 {index : Nat} {x : Int} {f : Mem → Option (α × Mem)} (hln : Cond.fieldLink Y.1.cls index RX13 "error" "I" ∈ lw_good) (d : decode Y.2.1 pc = .ok (.putfield index, 3)) (kk : ∀ J : Mem, WQ Z Y I0 gr (pc + 3) lv st J (f J) κ) : WQ Z Y I0 gr pc lv (vi x :: vr Z 26 0 :: st) I (ltI (sI I 26 0 25 x) f) κ :=
  wq_put (k := 26) (i := 0) (fk := 25) (ci := 11) (N := 44) (T := TX13) (v := vi x) rfl (by simp [ent, sI]) (by decide) rfl rfl in_26 tyX13_ok nmX13 (by decide) rfl (Nat.le_of_ble_eq_true rfl) rfl rfl (by decide) (by decide) (by decide) hln d kk
theorem g_26_26 {index : Nat} (hln : Cond.fieldLink Y.1.cls index RX13 "errorAt" "I" ∈ lw_good) (d : decode Y.2.1 pc = .ok (.getfield index, 3)) (kk : WQ Z Y I0 gr (pc + 3) lv (vi (I 26 0 26) :: st) I e κ) : WQ Z Y I0 gr pc lv (vr Z 26 0 :: st) I e κ :=
  wq_get (k := 26) (i := 0) (fk := 26) (ci := 11) (N := 44) (T := TX13) rfl (by decide) rfl rfl in_26 (by decide) rfl rfl hln d kk
theorem p_26_26 {index : Nat} {x : Int} {f : Mem → Option (α × Mem)} (hln : Cond.fieldLink Y.1.cls index RX13 "errorAt" "I" ∈ lw_good) (d : decode Y.2.1 pc = .ok (.putfield index, 3)) (kk : ∀ J : Mem, WQ Z Y I0 gr (pc + 3) lv st J (f J) κ) : WQ Z Y I0 gr pc lv (vi x :: vr Z 26 0 :: st) I (ltI (sI I 26 0 26 x) f) κ :=
  wq_put (k := 26) (i := 0) (fk := 26) (ci := 11) (N := 44) (T := TX13) (v := vi x) rfl (by simp [ent, sI]) (by decide) rfl rfl in_26 tyX13_ok nmX13 (by decide) rfl (Nat.le_of_ble_eq_true rfl) rfl rfl (by decide) (by decide) (by decide) hln d kk
theorem g_26_27 {index : Nat} (hln : Cond.fieldLink Y.1.cls index RX13 "lastError" "I" ∈ lw_good) (d : decode Y.2.1 pc = .ok (.getfield index, 3)) (kk : WQ Z Y I0 gr (pc + 3) lv (vi (I 26 0 27) :: st) I e κ) : WQ Z Y I0 gr pc lv (vr Z 26 0 :: st) I e κ :=
  wq_get (k := 26) (i := 0) (fk := 27) (ci := 11) (N := 44) (T := TX13) rfl (by decide) rfl rfl in_26 (by decide) rfl rfl hln d kk
theorem p_26_27 {index : Nat} {x : Int} {f : Mem → Option (α × Mem)} (hln : Cond.fieldLink Y.1.cls index RX13 "lastError" "I" ∈ lw_good) (d : decode Y.2.1 pc = .ok (.putfield index, 3)) (kk : ∀ J : Mem, WQ Z Y I0 gr (pc + 3) lv st J (f J) κ) : WQ Z Y I0 gr pc lv (vi x :: vr Z 26 0 :: st) I (ltI (sI I 26 0 27 x) f) κ :=
  wq_put (k := 26) (i := 0) (fk := 27) (ci := 11) (N := 44) (T := TX13) (v := vi x) rfl (by simp [ent, sI]) (by decide) rfl rfl in_26 tyX13_ok nmX13 (by decide) rfl (Nat.le_of_ble_eq_true rfl) rfl rfl (by decide) (by decide) (by decide) hln d kk
theorem g_26_28 {index : Nat} (hln : Cond.fieldLink Y.1.cls index RX13 "toldOnce" "I" ∈ lw_good) (d : decode Y.2.1 pc = .ok (.getfield index, 3)) (kk : WQ Z Y I0 gr (pc + 3) lv (vi (I 26 0 28) :: st) I e κ) : WQ Z Y I0 gr pc lv (vr Z 26 0 :: st) I e κ :=
  wq_get (k := 26) (i := 0) (fk := 28) (ci := 11) (N := 44) (T := TX13) rfl (by decide) rfl rfl in_26 (by decide) rfl rfl hln d kk
theorem p_26_28 {index : Nat} {x : Int} {f : Mem → Option (α × Mem)} (hln : Cond.fieldLink Y.1.cls index RX13 "toldOnce" "I" ∈ lw_good) (d : decode Y.2.1 pc = .ok (.putfield index, 3)) (kk : ∀ J : Mem, WQ Z Y I0 gr (pc + 3) lv st J (f J) κ) : WQ Z Y I0 gr pc lv (vi x :: vr Z 26 0 :: st) I (ltI (sI I 26 0 28 x) f) κ :=
  wq_put (k := 26) (i := 0) (fk := 28) (ci := 11) (N := 44) (T := TX13) (v := vi x) rfl (by simp [ent, sI]) (by decide) rfl rfl in_26 tyX13_ok nmX13 (by decide) rfl (Nat.le_of_ble_eq_true rfl) rfl rfl (by decide) (by decide) (by decide) hln d kk
theorem g_26_29 {index : Nat} (hln : Cond.fieldLink Y.1.cls index RX13 "soLong" "I" ∈ lw_good) (d : decode Y.2.1 pc = .ok (.getfield index, 3)) (kk : WQ Z Y I0 gr (pc + 3) lv (vi (I 26 0 29) :: st) I e κ) : WQ Z Y I0 gr pc lv (vr Z 26 0 :: st) I e κ :=
  wq_get (k := 26) (i := 0) (fk := 29) (ci := 11) (N := 44) (T := TX13) rfl (by decide) rfl rfl in_26 (by decide) rfl rfl hln d kk
theorem p_26_29 {index : Nat} {x : Int} {f : Mem → Option (α × Mem)} (hln : Cond.fieldLink Y.1.cls index RX13 "soLong" "I" ∈ lw_good) (d : decode Y.2.1 pc = .ok (.putfield index, 3)) (kk : ∀ J : Mem, WQ Z Y I0 gr (pc + 3) lv st J (f J) κ) : WQ Z Y I0 gr pc lv (vi x :: vr Z 26 0 :: st) I (ltI (sI I 26 0 29 x) f) κ :=
  wq_put (k := 26) (i := 0) (fk := 29) (ci := 11) (N := 44) (T := TX13) (v := vi x) rfl (by simp [ent, sI]) (by decide) rfl rfl in_26 tyX13_ok nmX13 (by decide) rfl (Nat.le_of_ble_eq_true rfl) rfl rfl (by decide) (by decide) (by decide) hln d kk
theorem g_26_30 {index : Nat} (hln : Cond.fieldLink Y.1.cls index RX13 "ruleMany" "I" ∈ lw_good) (d : decode Y.2.1 pc = .ok (.getfield index, 3)) (kk : WQ Z Y I0 gr (pc + 3) lv (vi (I 26 0 30) :: st) I e κ) : WQ Z Y I0 gr pc lv (vr Z 26 0 :: st) I e κ :=
  wq_get (k := 26) (i := 0) (fk := 30) (ci := 11) (N := 44) (T := TX13) rfl (by decide) rfl rfl in_26 (by decide) rfl rfl hln d kk
theorem p_26_30 {index : Nat} {x : Int} {f : Mem → Option (α × Mem)} (hln : Cond.fieldLink Y.1.cls index RX13 "ruleMany" "I" ∈ lw_good) (d : decode Y.2.1 pc = .ok (.putfield index, 3)) (kk : ∀ J : Mem, WQ Z Y I0 gr (pc + 3) lv st J (f J) κ) : WQ Z Y I0 gr pc lv (vi x :: vr Z 26 0 :: st) I (ltI (sI I 26 0 30 x) f) κ :=
  wq_put (k := 26) (i := 0) (fk := 30) (ci := 11) (N := 44) (T := TX13) (v := vi x) rfl (by simp [ent, sI]) (by decide) rfl rfl in_26 tyX13_ok nmX13 (by decide) rfl (Nat.le_of_ble_eq_true rfl) rfl rfl (by decide) (by decide) (by decide) hln d kk
theorem g_26_31 {index : Nat} (hln : Cond.fieldLink Y.1.cls index RX13 "ends" "Z" ∈ lw_good) (d : decode Y.2.1 pc = .ok (.getfield index, 3)) (kk : WQ Z Y I0 gr (pc + 3) lv (vi (I 26 0 31) :: st) I e κ) : WQ Z Y I0 gr pc lv (vr Z 26 0 :: st) I e κ :=
  wq_get (k := 26) (i := 0) (fk := 31) (ci := 11) (N := 44) (T := TX13) rfl (by decide) rfl rfl in_26 (by decide) rfl rfl hln d kk
theorem p_26_31 {index : Nat} {x : Int} {f : Mem → Option (α × Mem)} (hz : x = 0 ∨ x = 1) (hln : Cond.fieldLink Y.1.cls index RX13 "ends" "Z" ∈ lw_good) (d : decode Y.2.1 pc = .ok (.putfield index, 3)) (kk : ∀ J : Mem, WQ Z Y I0 gr (pc + 3) lv st J (f J) κ) : WQ Z Y I0 gr pc lv (vi x :: vr Z 26 0 :: st) I (ltI (sI I 26 0 31 x) f) κ :=
  wq_put (k := 26) (i := 0) (fk := 31) (ci := 11) (N := 44) (T := TX13) (v := vi x) rfl (by simp [ent, sI]) (by decide) rfl rfl in_26 tyX13_ok nmX13 (by decide) rfl (Nat.le_of_ble_eq_true rfl) (by rcases hz with rfl | rfl <;> rfl) (by rcases hz with rfl | rfl <;> rfl) (by decide) (by decide) (by decide) hln d kk
theorem g_26_32 {index : Nat} (hln : Cond.fieldLink Y.1.cls index RX13 "orders" "[I" ∈ lw_good) (d : decode Y.2.1 pc = .ok (.getfield index, 3)) (kk : WQ Z Y I0 gr (pc + 3) lv (vr Z 27 15 :: st) I e κ) : WQ Z Y I0 gr pc lv (vr Z 26 0 :: st) I e κ :=
  wq_get (k := 26) (i := 0) (fk := 32) (ci := 11) (N := 44) (T := TX13) rfl (by decide) rfl rfl in_26 (by decide) rfl rfl hln d kk
theorem g_26_33 {index : Nat} (hln : Cond.fieldLink Y.1.cls index RX13 "first" "[I" ∈ lw_good) (d : decode Y.2.1 pc = .ok (.getfield index, 3)) (kk : WQ Z Y I0 gr (pc + 3) lv (vr Z 27 16 :: st) I e κ) : WQ Z Y I0 gr pc lv (vr Z 26 0 :: st) I e κ :=
  wq_get (k := 26) (i := 0) (fk := 33) (ci := 11) (N := 44) (T := TX13) rfl (by decide) rfl rfl in_26 (by decide) rfl rfl hln d kk
theorem g_26_34 {index : Nat} (hln : Cond.fieldLink Y.1.cls index RX13 "second" "[I" ∈ lw_good) (d : decode Y.2.1 pc = .ok (.getfield index, 3)) (kk : WQ Z Y I0 gr (pc + 3) lv (vr Z 27 17 :: st) I e κ) : WQ Z Y I0 gr pc lv (vr Z 26 0 :: st) I e κ :=
  wq_get (k := 26) (i := 0) (fk := 34) (ci := 11) (N := 44) (T := TX13) rfl (by decide) rfl rfl in_26 (by decide) rfl rfl hln d kk
theorem g_26_35 {index : Nat} (hln : Cond.fieldLink Y.1.cls index RX13 "closers" "[I" ∈ lw_good) (d : decode Y.2.1 pc = .ok (.getfield index, 3)) (kk : WQ Z Y I0 gr (pc + 3) lv (vr Z 27 18 :: st) I e κ) : WQ Z Y I0 gr pc lv (vr Z 26 0 :: st) I e κ :=
  wq_get (k := 26) (i := 0) (fk := 35) (ci := 11) (N := 44) (T := TX13) rfl (by decide) rfl rfl in_26 (by decide) rfl rfl hln d kk
theorem g_26_36 {index : Nat} (hln : Cond.fieldLink Y.1.cls index RX13 "begun" "[I" ∈ lw_good) (d : decode Y.2.1 pc = .ok (.getfield index, 3)) (kk : WQ Z Y I0 gr (pc + 3) lv (vr Z 27 19 :: st) I e κ) : WQ Z Y I0 gr pc lv (vr Z 26 0 :: st) I e κ :=
  wq_get (k := 26) (i := 0) (fk := 36) (ci := 11) (N := 44) (T := TX13) rfl (by decide) rfl rfl in_26 (by decide) rfl rfl hln d kk
theorem g_26_37 {index : Nat} (hln : Cond.fieldLink Y.1.cls index RX13 "left" "[I" ∈ lw_good) (d : decode Y.2.1 pc = .ok (.getfield index, 3)) (kk : WQ Z Y I0 gr (pc + 3) lv (vr Z 27 20 :: st) I e κ) : WQ Z Y I0 gr pc lv (vr Z 26 0 :: st) I e κ :=
  wq_get (k := 26) (i := 0) (fk := 37) (ci := 11) (N := 44) (T := TX13) rfl (by decide) rfl rfl in_26 (by decide) rfl rfl hln d kk
theorem g_26_38 {index : Nat} (hln : Cond.fieldLink Y.1.cls index RX13 "lines" "I" ∈ lw_good) (d : decode Y.2.1 pc = .ok (.getfield index, 3)) (kk : WQ Z Y I0 gr (pc + 3) lv (vi (I 26 0 38) :: st) I e κ) : WQ Z Y I0 gr pc lv (vr Z 26 0 :: st) I e κ :=
  wq_get (k := 26) (i := 0) (fk := 38) (ci := 11) (N := 44) (T := TX13) rfl (by decide) rfl rfl in_26 (by decide) rfl rfl hln d kk
theorem p_26_38 {index : Nat} {x : Int} {f : Mem → Option (α × Mem)} (hln : Cond.fieldLink Y.1.cls index RX13 "lines" "I" ∈ lw_good) (d : decode Y.2.1 pc = .ok (.putfield index, 3)) (kk : ∀ J : Mem, WQ Z Y I0 gr (pc + 3) lv st J (f J) κ) : WQ Z Y I0 gr pc lv (vi x :: vr Z 26 0 :: st) I (ltI (sI I 26 0 38 x) f) κ :=
  wq_put (k := 26) (i := 0) (fk := 38) (ci := 11) (N := 44) (T := TX13) (v := vi x) rfl (by simp [ent, sI]) (by decide) rfl rfl in_26 tyX13_ok nmX13 (by decide) rfl (Nat.le_of_ble_eq_true rfl) rfl rfl (by decide) (by decide) (by decide) hln d kk
theorem g_26_39 {index : Nat} (hln : Cond.fieldLink Y.1.cls index RX13 "toldOrders" "I" ∈ lw_good) (d : decode Y.2.1 pc = .ok (.getfield index, 3)) (kk : WQ Z Y I0 gr (pc + 3) lv (vi (I 26 0 39) :: st) I e κ) : WQ Z Y I0 gr pc lv (vr Z 26 0 :: st) I e κ :=
  wq_get (k := 26) (i := 0) (fk := 39) (ci := 11) (N := 44) (T := TX13) rfl (by decide) rfl rfl in_26 (by decide) rfl rfl hln d kk
theorem p_26_39 {index : Nat} {x : Int} {f : Mem → Option (α × Mem)} (hln : Cond.fieldLink Y.1.cls index RX13 "toldOrders" "I" ∈ lw_good) (d : decode Y.2.1 pc = .ok (.putfield index, 3)) (kk : ∀ J : Mem, WQ Z Y I0 gr (pc + 3) lv st J (f J) κ) : WQ Z Y I0 gr pc lv (vi x :: vr Z 26 0 :: st) I (ltI (sI I 26 0 39 x) f) κ :=
  wq_put (k := 26) (i := 0) (fk := 39) (ci := 11) (N := 44) (T := TX13) (v := vi x) rfl (by simp [ent, sI]) (by decide) rfl rfl in_26 tyX13_ok nmX13 (by decide) rfl (Nat.le_of_ble_eq_true rfl) rfl rfl (by decide) (by decide) (by decide) hln d kk
theorem g_26_40 {index : Nat} (hln : Cond.fieldLink Y.1.cls index RX13 "opened" "I" ∈ lw_good) (d : decode Y.2.1 pc = .ok (.getfield index, 3)) (kk : WQ Z Y I0 gr (pc + 3) lv (vi (I 26 0 40) :: st) I e κ) : WQ Z Y I0 gr pc lv (vr Z 26 0 :: st) I e κ :=
  wq_get (k := 26) (i := 0) (fk := 40) (ci := 11) (N := 44) (T := TX13) rfl (by decide) rfl rfl in_26 (by decide) rfl rfl hln d kk
theorem p_26_40 {index : Nat} {x : Int} {f : Mem → Option (α × Mem)} (hln : Cond.fieldLink Y.1.cls index RX13 "opened" "I" ∈ lw_good) (d : decode Y.2.1 pc = .ok (.putfield index, 3)) (kk : ∀ J : Mem, WQ Z Y I0 gr (pc + 3) lv st J (f J) κ) : WQ Z Y I0 gr pc lv (vi x :: vr Z 26 0 :: st) I (ltI (sI I 26 0 40 x) f) κ :=
  wq_put (k := 26) (i := 0) (fk := 40) (ci := 11) (N := 44) (T := TX13) (v := vi x) rfl (by simp [ent, sI]) (by decide) rfl rfl in_26 tyX13_ok nmX13 (by decide) rfl (Nat.le_of_ble_eq_true rfl) rfl rfl (by decide) (by decide) (by decide) hln d kk
theorem g_26_41 {index : Nat} (hln : Cond.fieldLink Y.1.cls index RX13 "comes" "[I" ∈ lw_good) (d : decode Y.2.1 pc = .ok (.getfield index, 3)) (kk : WQ Z Y I0 gr (pc + 3) lv (vr Z 27 21 :: st) I e κ) : WQ Z Y I0 gr pc lv (vr Z 26 0 :: st) I e κ :=
  wq_get (k := 26) (i := 0) (fk := 41) (ci := 11) (N := 44) (T := TX13) rfl (by decide) rfl rfl in_26 (by decide) rfl rfl hln d kk
theorem g_26_42 {index : Nat} (hln : Cond.fieldLink Y.1.cls index RX13 "page" "[I" ∈ lw_good) (d : decode Y.2.1 pc = .ok (.getfield index, 3)) (kk : WQ Z Y I0 gr (pc + 3) lv (vr Z 27 22 :: st) I e κ) : WQ Z Y I0 gr pc lv (vr Z 26 0 :: st) I e κ :=
  wq_get (k := 26) (i := 0) (fk := 42) (ci := 11) (N := 44) (T := TX13) rfl (by decide) rfl rfl in_26 (by decide) rfl rfl hln d kk
theorem g_26_43 {index : Nat} (hln : Cond.fieldLink Y.1.cls index RX13 "pageMany" "I" ∈ lw_good) (d : decode Y.2.1 pc = .ok (.getfield index, 3)) (kk : WQ Z Y I0 gr (pc + 3) lv (vi (I 26 0 43) :: st) I e κ) : WQ Z Y I0 gr pc lv (vr Z 26 0 :: st) I e κ :=
  wq_get (k := 26) (i := 0) (fk := 43) (ci := 11) (N := 44) (T := TX13) rfl (by decide) rfl rfl in_26 (by decide) rfl rfl hln d kk
theorem p_26_43 {index : Nat} {x : Int} {f : Mem → Option (α × Mem)} (hln : Cond.fieldLink Y.1.cls index RX13 "pageMany" "I" ∈ lw_good) (d : decode Y.2.1 pc = .ok (.putfield index, 3)) (kk : ∀ J : Mem, WQ Z Y I0 gr (pc + 3) lv st J (f J) κ) : WQ Z Y I0 gr pc lv (vi x :: vr Z 26 0 :: st) I (ltI (sI I 26 0 43 x) f) κ :=
  wq_put (k := 26) (i := 0) (fk := 43) (ci := 11) (N := 44) (T := TX13) (v := vi x) rfl (by simp [ent, sI]) (by decide) rfl rfl in_26 tyX13_ok nmX13 (by decide) rfl (Nat.le_of_ble_eq_true rfl) rfl rfl (by decide) (by decide) (by decide) hln d kk
theorem mt_max_s : Cond.static Lib.Math.max.name ∈ lw_good := li_5 21 (by decide +kernel) (by decide +kernel)
theorem mt_max_c : Cond.code Lib.Math.max.name Lib.Math.max.code 2 (some .int) ∈ lw_good := li_5 22 (by decide +kernel) (by decide +kernel)
theorem mt_min_s : Cond.static Lib.Math.min.name ∈ lw_good := li_2 95 (by decide +kernel) (by decide +kernel)
theorem mt_min_c : Cond.code Lib.Math.min.name Lib.Math.min.code 2 (some .int) ∈ lw_good := li_2 96 (by decide +kernel) (by decide +kernel)
theorem mt_abs_s : Cond.static Lib.Math.abs.name ∈ lw_good := li_9 89 (by decide +kernel) (by decide +kernel)
theorem mt_abs_c : Cond.code Lib.Math.abs.name Lib.Math.abs.code 1 (some .int) ∈ lw_good := li_9 90 (by decide +kernel) (by decide +kernel)
theorem mt_i : Cond.initialized "java/lang/Math" ∈ lw_good := li_1 14 (by decide +kernel) (by decide +kernel)
end WRAP
