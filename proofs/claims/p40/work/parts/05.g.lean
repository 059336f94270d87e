section
/-! ===== more: a value of two roads, loops with one way out, words ===== -/
section MORE
variable {Z : ZT} {Y : YT} {I0 : Mem} {gr : Nat → Nat} {pc : Nat} {lv : List (Nat × Value)} {st : List Value} {I : Mem} {α : Type} {e : Option (α × Mem)} {κ : α → Mem → Option OT}
theorem WQ.via (pc' : Nat) (st' : List Value) (k : WQ Z Y I0 gr pc' lv st' I e κ) (h : WQ Z Y I0 gr pc' lv st' I e κ → WQ Z Y I0 gr pc lv st I e κ) : WQ Z Y I0 gr pc lv st I e κ := h k
theorem wq_loopS {σ ρ : Type} {step : σ → Mem → Option ((σ ⊕ ρ) × Mem)} {K : ρ → Mem → Option (α × Mem)} (lvf : σ → List (Nat × Value)) (xpc : Nat) (lvx : ρ → List (Nat × Value))
    (hb : ∀ κ2 : σ ⊕ ρ → Mem → Option OT, (∀ (gr : Nat → Nat) (s : σ) (J : Mem), WQ Z Y I0 gr pc (lvf s) [] J (some (.inl s, J)) κ2) → (∀ (gr : Nat → Nat) (r : ρ) (J : Mem), WQ Z Y I0 gr xpc (lvx r) [] J (some (.inr r, J)) κ2) → ∀ (gr : Nat → Nat) (s : σ) (J : Mem), WQ Z Y I0 gr pc (lvf s) [] J (step s J) κ2)
    (hx : ∀ (gr : Nat → Nat) (r : ρ) (J : Mem), WQ Z Y I0 gr xpc (lvx r) [] J (K r J) κ) (gr : Nat → Nat) (s : σ) (h : lvf s = lv) : WQ Z Y I0 gr pc lv [] I (bnd (whl step s I) K) κ := by
  refine WQ.assoc ?_
  refine wq_loop lvf (fun κ2 back hr gr s J => ?_) gr s h
  refine hb κ2 back (fun gr r J => ?_) gr s J
  intro o ho
  exact hx gr r J o ((hr r J).symm.trans ho)
/-- a word goes into the script's row of words -/
theorem wq_wastn {w n : Nat} {j j' m : Int} {f : Mem → Option (α × Mem)} (he : ∀ J : Mem, ent Z gr J 20 0 = arR (zC Z 6) n (fun j => zA Z 11 (J 20 0 j).toNat)) (hw : w < 15) (hj : w32 j = j') (hin : 0 ≤ j' ∧ j' < m) (hm : m.toNat ≤ n) (d : decode Y.2.1 pc = .ok (.aastore, 1)) (kk : ∀ J : Mem, WQ Z Y I0 gr (pc + 1) lv st J (f J) κ) : WQ Z Y I0 gr pc lv (vr Z 11 w :: vi j :: vr Z 20 0 :: st) I (ltI (sI I 20 0 j'.toNat ((w : Nat) : Int)) f) κ := by
  refine WQ.mem (sI_30 (by decide)) (fun X B o H locs ls cells slots hH hlo hl k1 => ?_) (kk _)
  have hat := hH.at (k := 20) (i := 0) (by decide)
  rw [he I] at hat
  have hat : H[zA Z 20 0]? = some (vp_cell (zC Z 6) (n, .inr (.inr (.inr (.inr fun j => some (zA Z 11 (I 20 0 j).toNat)))))) := hat
  have hi := w_in (n := n) hj hin hm
  have h0 : ¬ Int32.ofInt j < 0 := fun q => hi (Or.inl q)
  have hlt : (Int32.ofInt j).toNatClampNeg < n := Nat.not_le.mp fun q => hi (Or.inr q)
  obtain ⟨cellV, g1, g2, g3, -⟩ := (B.2.2.2.2.2.1.2.1.1 w hw).2.1.kept (old_kept hH)
  obtain ⟨kA, comp, k1', k2, k3, -⟩ := (B.2.2.2.2.2.1.1.2 6 _ rfl).2
  obtain ⟨kC, hkC, -⟩ := Vm.findClass_spec k3
  have e9 : comp = cellV.cls := Option.some.inj (k3.symm.trans g3)
  refine W.aast B.1 B.2.1 hat (fun q h => by cases h) (fun h => by cases h) k1' k2 rfl hkC ⟨h0, by show _ < (arrV _ _ _).slots.size; rw [arrV_size]; exact hlt⟩ g1 (fun q h => by rw [h] at g2; cases g2) (by rw [← e9]; exact hkC) (vb_asgS comp cellV.cls k3 g3) rfl rfl d fun H1 e1 z oq => ?_
  have hHn : HHA Z gr (sI I 20 0 j'.toNat ((w : Nat) : Int)) H1 := by
    refine hH.upd (k := 20) (i := 0) (by decide) z oq ?_ (fun k' i' hi' hne => sI_ent (fun q => absurd q.1 (by decide)) (fun q => absurd q.1 (by decide)) hne)
    rw [he]
    show H1[zA Z 20 0]? = some (vp_cell (zC Z 6) (n, .inr (.inr (.inr (.inr fun j => some (zA Z 11 (sI I 20 0 j'.toNat ((w : Nat) : Int) 20 0 j).toNat))))))
    rw [e1, vp_cell_q, vp_cell_q, arrV_store, w_nat hj]
    congr 2
    funext q
    by_cases hq : q = j'.toNat
    · subst hq; simp [updV, sI, va_rf]
    · simp [updV, hq, sI]
  exact k1 H1 _ ls hHn (locs_put hlo (hH.2.2.1 20 0 (by decide))) hl
theorem wq_wast {w : Nat} {j j' : Int} {f : Mem → Option (α × Mem)} (hw : w < 15) (hj : w32 j = j') (hin : 0 ≤ j' ∧ j' < 60) (d : decode Y.2.1 pc = .ok (.aastore, 1)) (kk : ∀ J : Mem, WQ Z Y I0 gr (pc + 1) lv st J (f J) κ) : WQ Z Y I0 gr pc lv (vr Z 11 w :: vi j :: vr Z 20 0 :: st) I (ltI (sI I 20 0 j'.toNat ((w : Nat) : Int)) f) κ :=
  wq_wastn (n := 60) (m := 60) (fun _ => rfl) hw hj hin (Nat.le_refl _) d kk
def wLow (j : Nat) : Int := [0, 0, 0, 2, 0, 0, 1, 0, 0, 0, 0, 1, 0, 0, 0].getD j 0
def wHig (j : Nat) : Int := [39, 0, 1, 9, 2, 1, 50, 0, 0, 39, 0, 400, 20, 0, 0].getD j 0
def wOrd (j : Nat) : Int := [0, 0, 0, 1, 1, 1, 1, 1, 1, 1, 1, 1, 1, 0, 0].getD j 0
theorem wq_wordLowest {j index : Nat} {host : String} (hj : j < 15) (hln : Cond.fieldLinkNest Y.1.cls index RX11 "lowest" "I" host ∈ lw_nw) (d : decode Y.2.1 pc = .ok (.getfield index, 3)) (k : WQ Z Y I0 gr (pc + 3) lv (vi (wLow j) :: st) I e κ) : WQ Z Y I0 gr pc lv (vr Z 11 j :: st) I e κ :=
  wq_word (q := 2) rfl hj ((by decide +kernel : ∀ j, j < 15 → [0, 0, 0, 2, 0, 0, 1, 0, 0, 0, 0, 1, 0, 0, (0 : Int32)].getD j 0 = Int32.ofInt (wLow j)) j hj) hln d k
theorem wq_wordHighest {j index : Nat} {host : String} (hj : j < 15) (hln : Cond.fieldLinkNest Y.1.cls index RX11 "highest" "I" host ∈ lw_nw) (d : decode Y.2.1 pc = .ok (.getfield index, 3)) (k : WQ Z Y I0 gr (pc + 3) lv (vi (wHig j) :: st) I e κ) : WQ Z Y I0 gr pc lv (vr Z 11 j :: st) I e κ :=
  wq_word (q := 3) rfl hj ((by decide +kernel : ∀ j, j < 15 → [39, 0, 1, 9, 2, 1, 50, 0, 0, 39, 0, 400, 20, 0, (0 : Int32)].getD j 0 = Int32.ofInt (wHig j)) j hj) hln d k
theorem wq_wordOrders {j index : Nat} {host : String} (hj : j < 15) (hln : Cond.fieldLinkNest Y.1.cls index RX11 "orders" "Z" host ∈ lw_nw) (d : decode Y.2.1 pc = .ok (.getfield index, 3)) (k : WQ Z Y I0 gr (pc + 3) lv (vi (wOrd j) :: st) I e κ) : WQ Z Y I0 gr pc lv (vr Z 11 j :: st) I e κ :=
  wq_word (q := 1) rfl hj ((by decide +kernel : ∀ j, j < 15 → [0, 0, 0, 1, 1, 1, 1, 1, 1, 1, 1, 1, 1, 0, (0 : Int32)].getD j 0 = Int32.ofInt (wOrd j)) j hj) hln d k
end MORE
section WRAP
variable {Z : ZT} {Y : YT} {I0 : Mem} {gr : Nat → Nat} {pc : Nat} {lv : List (Nat × Value)} {st : List Value} {I : Mem} {α : Type} {e : Option (α × Mem)} {κ : α → Mem → Option OT}
theorem in_0 : ∀ w ∈ u_ws RX12 TX12 10, w ∈ lw_good := by decide +kernel
theorem ob_0 : Ob Z gr I (zA Z 0 0) RX12 := ⟨0, 0, 0, 10, TX12, _, rfl, (by decide), rfl, rfl⟩
theorem g_0_0 {index : Nat} (hln : Cond.fieldLink Y.1.cls index RX12 "now" "LPairRules$Grammar;" ∈ lw_good) (d : decode Y.2.1 pc = .ok (.getfield index, 3)) (kk : WQ Z Y I0 gr (pc + 3) lv (vr Z 1 0 :: st) I e κ) : WQ Z Y I0 gr pc lv (vr Z 0 0 :: st) I e κ :=
  wq_get (k := 0) (i := 0) (fk := 0) (ci := 0) (N := 10) (T := TX12) rfl (by decide) rfl rfl in_0 (by decide) rfl rfl hln d kk
theorem g_0_1 {index : Nat} (hln : Cond.fieldLink Y.1.cls index RX12 "trial" "LPairRules$Grammar;" ∈ lw_good) (d : decode Y.2.1 pc = .ok (.getfield index, 3)) (kk : WQ Z Y I0 gr (pc + 3) lv (vr Z 1 1 :: st) I e κ) : WQ Z Y I0 gr pc lv (vr Z 0 0 :: st) I e κ :=
  wq_get (k := 0) (i := 0) (fk := 1) (ci := 0) (N := 10) (T := TX12) rfl (by decide) rfl rfl in_0 (by decide) rfl rfl hln d kk
theorem g_0_2 {index : Nat} (hln : Cond.fieldLink Y.1.cls index RX12 "stepper" "LPairRules$Stepper;" ∈ lw_good) (d : decode Y.2.1 pc = .ok (.getfield index, 3)) (kk : WQ Z Y I0 gr (pc + 3) lv (vr Z 3 0 :: st) I e κ) : WQ Z Y I0 gr pc lv (vr Z 0 0 :: st) I e κ :=
  wq_get (k := 0) (i := 0) (fk := 2) (ci := 0) (N := 10) (T := TX12) rfl (by decide) rfl rfl in_0 (by decide) rfl rfl hln d kk
theorem g_0_3 {index : Nat} (hln : Cond.fieldLink Y.1.cls index RX12 "survey" "LPairRules$Survey;" ∈ lw_good) (d : decode Y.2.1 pc = .ok (.getfield index, 3)) (kk : WQ Z Y I0 gr (pc + 3) lv (vr Z 5 0 :: st) I e κ) : WQ Z Y I0 gr pc lv (vr Z 0 0 :: st) I e κ :=
  wq_get (k := 0) (i := 0) (fk := 3) (ci := 0) (N := 10) (T := TX12) rfl (by decide) rfl rfl in_0 (by decide) rfl rfl hln d kk
theorem g_0_4 {index : Nat} (hln : Cond.fieldLink Y.1.cls index RX12 "source" "LPairRules$Source;" ∈ lw_good) (d : decode Y.2.1 pc = .ok (.getfield index, 3)) (kk : WQ Z Y I0 gr (pc + 3) lv (vr Z 6 0 :: st) I e κ) : WQ Z Y I0 gr pc lv (vr Z 0 0 :: st) I e κ :=
  wq_get (k := 0) (i := 0) (fk := 4) (ci := 0) (N := 10) (T := TX12) rfl (by decide) rfl rfl in_0 (by decide) rfl rfl hln d kk
theorem g_0_5 {index : Nat} (hln : Cond.fieldLink Y.1.cls index RX12 "setup" "LPairRules$Setup;" ∈ lw_good) (d : decode Y.2.1 pc = .ok (.getfield index, 3)) (kk : WQ Z Y I0 gr (pc + 3) lv (vr Z 7 0 :: st) I e κ) : WQ Z Y I0 gr pc lv (vr Z 0 0 :: st) I e κ :=
  wq_get (k := 0) (i := 0) (fk := 5) (ci := 0) (N := 10) (T := TX12) rfl (by decide) rfl rfl in_0 (by decide) rfl rfl hln d kk
theorem g_0_6 {index : Nat} (hln : Cond.fieldLink Y.1.cls index RX12 "script" "LPairRules$Script;" ∈ lw_good) (d : decode Y.2.1 pc = .ok (.getfield index, 3)) (kk : WQ Z Y I0 gr (pc + 3) lv (vr Z 8 0 :: st) I e κ) : WQ Z Y I0 gr pc lv (vr Z 0 0 :: st) I e κ :=
  wq_get (k := 0) (i := 0) (fk := 6) (ci := 0) (N := 10) (T := TX12) rfl (by decide) rfl rfl in_0 (by decide) rfl rfl hln d kk
theorem g_0_7 {index : Nat} (hln : Cond.fieldLink Y.1.cls index RX12 "history" "LPairRules$History;" ∈ lw_good) (d : decode Y.2.1 pc = .ok (.getfield index, 3)) (kk : WQ Z Y I0 gr (pc + 3) lv (vr Z 9 0 :: st) I e κ) : WQ Z Y I0 gr pc lv (vr Z 0 0 :: st) I e κ :=
  wq_get (k := 0) (i := 0) (fk := 7) (ci := 0) (N := 10) (T := TX12) rfl (by decide) rfl rfl in_0 (by decide) rfl rfl hln d kk
theorem g_0_8 {index : Nat} (hln : Cond.fieldLink Y.1.cls index RX12 "written" "LPairRules$Report;" ∈ lw_good) (d : decode Y.2.1 pc = .ok (.getfield index, 3)) (kk : WQ Z Y I0 gr (pc + 3) lv (vr Z 10 0 :: st) I e κ) : WQ Z Y I0 gr pc lv (vr Z 0 0 :: st) I e κ :=
  wq_get (k := 0) (i := 0) (fk := 8) (ci := 0) (N := 10) (T := TX12) rfl (by decide) rfl rfl in_0 (by decide) rfl rfl hln d kk
theorem g_0_9 {index : Nat} (hln : Cond.fieldLink Y.1.cls index RX12 "errorAt" "I" ∈ lw_good) (d : decode Y.2.1 pc = .ok (.getfield index, 3)) (kk : WQ Z Y I0 gr (pc + 3) lv (vi (I 0 0 9) :: st) I e κ) : WQ Z Y I0 gr pc lv (vr Z 0 0 :: st) I e κ :=
  wq_get (k := 0) (i := 0) (fk := 9) (ci := 0) (N := 10) (T := TX12) rfl (by decide) rfl rfl in_0 (by decide) rfl rfl hln d kk
theorem p_0_9 {index : Nat} {x : Int} {f : Mem → Option (α × Mem)} (hln : Cond.fieldLink Y.1.cls index RX12 "errorAt" "I" ∈ lw_good) (d : decode Y.2.1 pc = .ok (.putfield index, 3)) (kk : ∀ J : Mem, WQ Z Y I0 gr (pc + 3) lv st J (f J) κ) : WQ Z Y I0 gr pc lv (vi x :: vr Z 0 0 :: st) I (ltI (sI I 0 0 9 x) f) κ :=
  wq_put (k := 0) (i := 0) (fk := 9) (ci := 0) (N := 10) (T := TX12) (v := vi x) rfl (by simp [ent, sI]) (by decide) rfl rfl in_0 tyX12_ok nmX12 (by decide) rfl (Nat.le_of_ble_eq_true rfl) rfl rfl (by decide) (by decide) (by decide) hln d kk
theorem in_1 : ∀ w ∈ u_ws RX1 TX1 10, w ∈ lw_good := by decide +kernel
theorem ob_1 {i : Nat} (hi : i < 12) : Ob Z gr I (zA Z 1 i) RX1 := ⟨1, i, 1, 10, TX1, _, rfl, hi, rfl, rfl⟩
theorem g_1_0 {i : Nat} (hi : i < 12) {index : Nat} (hln : Cond.fieldLink Y.1.cls index RX1 "start" "LPairRules$Row;" ∈ lw_good) (d : decode Y.2.1 pc = .ok (.getfield index, 3)) (kk : WQ Z Y I0 gr (pc + 3) lv (vr Z 2 (43 * i) :: st) I e κ) : WQ Z Y I0 gr pc lv (vr Z 1 i :: st) I e κ :=
  wq_get (k := 1) (i := i) (fk := 0) (ci := 1) (N := 10) (T := TX1) rfl hi rfl rfl in_1 (by decide) rfl rfl hln d kk
theorem g_1_1 {i : Nat} (hi : i < 12) {index : Nat} (hln : Cond.fieldLink Y.1.cls index RX1 "told" "LPairRules$Row;" ∈ lw_good) (d : decode Y.2.1 pc = .ok (.getfield index, 3)) (kk : WQ Z Y I0 gr (pc + 3) lv (vr Z 2 (43 * i + 1) :: st) I e κ) : WQ Z Y I0 gr pc lv (vr Z 1 i :: st) I e κ :=
  wq_get (k := 1) (i := i) (fk := 1) (ci := 1) (N := 10) (T := TX1) rfl hi rfl rfl in_1 (by decide) rfl rfl hln d kk
theorem g_1_2 {i : Nat} (hi : i < 12) {index : Nat} (hln : Cond.fieldLink Y.1.cls index RX1 "bodies" "[LPairRules$Row;" ∈ lw_good) (d : decode Y.2.1 pc = .ok (.getfield index, 3)) (kk : WQ Z Y I0 gr (pc + 3) lv (vr Z 13 i :: st) I e κ) : WQ Z Y I0 gr pc lv (vr Z 1 i :: st) I e κ :=
  wq_get (k := 1) (i := i) (fk := 2) (ci := 1) (N := 10) (T := TX1) rfl hi rfl rfl in_1 (by decide) rfl rfl hln d kk
theorem g_1_3 {i : Nat} (hi : i < 12) {index : Nat} (hln : Cond.fieldLink Y.1.cls index RX1 "nothing" "LPairRules$Row;" ∈ lw_good) (d : decode Y.2.1 pc = .ok (.getfield index, 3)) (kk : WQ Z Y I0 gr (pc + 3) lv (vr Z 2 (43 * i + 2) :: st) I e κ) : WQ Z Y I0 gr pc lv (vr Z 1 i :: st) I e κ :=
  wq_get (k := 1) (i := i) (fk := 3) (ci := 1) (N := 10) (T := TX1) rfl hi rfl rfl in_1 (by decide) rfl rfl hln d kk
theorem g_1_4 {i : Nat} (hi : i < 12) {index : Nat} (hln : Cond.fieldLink Y.1.cls index RX1 "lengths" "[I" ∈ lw_good) (d : decode Y.2.1 pc = .ok (.getfield index, 3)) (kk : WQ Z Y I0 gr (pc + 3) lv (vr Z 14 i :: st) I e κ) : WQ Z Y I0 gr pc lv (vr Z 1 i :: st) I e κ :=
  wq_get (k := 1) (i := i) (fk := 4) (ci := 1) (N := 10) (T := TX1) rfl hi rfl rfl in_1 (by decide) rfl rfl hln d kk
theorem g_1_5 {i : Nat} (hi : i < 12) {index : Nat} (hln : Cond.fieldLink Y.1.cls index RX1 "accounts" "[I" ∈ lw_good) (d : decode Y.2.1 pc = .ok (.getfield index, 3)) (kk : WQ Z Y I0 gr (pc + 3) lv (vr Z 15 i :: st) I e κ) : WQ Z Y I0 gr pc lv (vr Z 1 i :: st) I e κ :=
  wq_get (k := 1) (i := i) (fk := 5) (ci := 1) (N := 10) (T := TX1) rfl hi rfl rfl in_1 (by decide) rfl rfl hln d kk
theorem g_1_6 {i : Nat} (hi : i < 12) {index : Nat} (hln : Cond.fieldLink Y.1.cls index RX1 "least" "I" ∈ lw_good) (d : decode Y.2.1 pc = .ok (.getfield index, 3)) (kk : WQ Z Y I0 gr (pc + 3) lv (vi (I 1 i 6) :: st) I e κ) : WQ Z Y I0 gr pc lv (vr Z 1 i :: st) I e κ :=
  wq_get (k := 1) (i := i) (fk := 6) (ci := 1) (N := 10) (T := TX1) rfl hi rfl rfl in_1 (by decide) rfl rfl hln d kk
theorem p_1_6 {i : Nat} (hi : i < 12) {index : Nat} {x : Int} {f : Mem → Option (α × Mem)} (hln : Cond.fieldLink Y.1.cls index RX1 "least" "I" ∈ lw_good) (d : decode Y.2.1 pc = .ok (.putfield index, 3)) (kk : ∀ J : Mem, WQ Z Y I0 gr (pc + 3) lv st J (f J) κ) : WQ Z Y I0 gr pc lv (vi x :: vr Z 1 i :: st) I (ltI (sI I 1 i 6 x) f) κ :=
  wq_put (k := 1) (i := i) (fk := 6) (ci := 1) (N := 10) (T := TX1) (v := vi x) rfl (by simp [ent, sI]) hi rfl rfl in_1 tyX1_ok nmX1 (by decide) rfl (Nat.le_of_ble_eq_true rfl) rfl rfl (by decide) (by decide) (by decide) hln d kk
theorem g_1_7 {i : Nat} (hi : i < 12) {index : Nat} (hln : Cond.fieldLink Y.1.cls index RX1 "tie" "I" ∈ lw_good) (d : decode Y.2.1 pc = .ok (.getfield index, 3)) (kk : WQ Z Y I0 gr (pc + 3) lv (vi (I 1 i 7) :: st) I e κ) : WQ Z Y I0 gr pc lv (vr Z 1 i :: st) I e κ :=
  wq_get (k := 1) (i := i) (fk := 7) (ci := 1) (N := 10) (T := TX1) rfl hi rfl rfl in_1 (by decide) rfl rfl hln d kk
theorem p_1_7 {i : Nat} (hi : i < 12) {index : Nat} {x : Int} {f : Mem → Option (α × Mem)} (hln : Cond.fieldLink Y.1.cls index RX1 "tie" "I" ∈ lw_good) (d : decode Y.2.1 pc = .ok (.putfield index, 3)) (kk : ∀ J : Mem, WQ Z Y I0 gr (pc + 3) lv st J (f J) κ) : WQ Z Y I0 gr pc lv (vi x :: vr Z 1 i :: st) I (ltI (sI I 1 i 7 x) f) κ :=
  wq_put (k := 1) (i := i) (fk := 7) (ci := 1) (N := 10) (T := TX1) (v := vi x) rfl (by simp [ent, sI]) hi rfl rfl in_1 tyX1_ok nmX1 (by decide) rfl (Nat.le_of_ble_eq_true rfl) rfl rfl (by decide) (by decide) (by decide) hln d kk
theorem g_1_8 {i : Nat} (hi : i < 12) {index : Nat} (hln : Cond.fieldLink Y.1.cls index RX1 "inlines" "I" ∈ lw_good) (d : decode Y.2.1 pc = .ok (.getfield index, 3)) (kk : WQ Z Y I0 gr (pc + 3) lv (vi (I 1 i 8) :: st) I e κ) : WQ Z Y I0 gr pc lv (vr Z 1 i :: st) I e κ :=
  wq_get (k := 1) (i := i) (fk := 8) (ci := 1) (N := 10) (T := TX1) rfl hi rfl rfl in_1 (by decide) rfl rfl hln d kk
theorem p_1_8 {i : Nat} (hi : i < 12) {index : Nat} {x : Int} {f : Mem → Option (α × Mem)} (hln : Cond.fieldLink Y.1.cls index RX1 "inlines" "I" ∈ lw_good) (d : decode Y.2.1 pc = .ok (.putfield index, 3)) (kk : ∀ J : Mem, WQ Z Y I0 gr (pc + 3) lv st J (f J) κ) : WQ Z Y I0 gr pc lv (vi x :: vr Z 1 i :: st) I (ltI (sI I 1 i 8 x) f) κ :=
  wq_put (k := 1) (i := i) (fk := 8) (ci := 1) (N := 10) (T := TX1) (v := vi x) rfl (by simp [ent, sI]) hi rfl rfl in_1 tyX1_ok nmX1 (by decide) rfl (Nat.le_of_ble_eq_true rfl) rfl rfl (by decide) (by decide) (by decide) hln d kk
theorem g_1_9 {i : Nat} (hi : i < 12) {index : Nat} (hln : Cond.fieldLink Y.1.cls index RX1 "rulesAtFirst" "I" ∈ lw_good) (d : decode Y.2.1 pc = .ok (.getfield index, 3)) (kk : WQ Z Y I0 gr (pc + 3) lv (vi (I 1 i 9) :: st) I e κ) : WQ Z Y I0 gr pc lv (vr Z 1 i :: st) I e κ :=
  wq_get (k := 1) (i := i) (fk := 9) (ci := 1) (N := 10) (T := TX1) rfl hi rfl rfl in_1 (by decide) rfl rfl hln d kk
theorem p_1_9 {i : Nat} (hi : i < 12) {index : Nat} {x : Int} {f : Mem → Option (α × Mem)} (hln : Cond.fieldLink Y.1.cls index RX1 "rulesAtFirst" "I" ∈ lw_good) (d : decode Y.2.1 pc = .ok (.putfield index, 3)) (kk : ∀ J : Mem, WQ Z Y I0 gr (pc + 3) lv st J (f J) κ) : WQ Z Y I0 gr pc lv (vi x :: vr Z 1 i :: st) I (ltI (sI I 1 i 9 x) f) κ :=
  wq_put (k := 1) (i := i) (fk := 9) (ci := 1) (N := 10) (T := TX1) (v := vi x) rfl (by simp [ent, sI]) hi rfl rfl in_1 tyX1_ok nmX1 (by decide) rfl (Nat.le_of_ble_eq_true rfl) rfl rfl (by decide) (by decide) (by decide) hln d kk
theorem in_2 : ∀ w ∈ u_ws RX5 TX5 2, w ∈ lw_good := by decide +kernel
theorem ob_2 {i : Nat} (hi : i < 516) : Ob Z gr I (zA Z 2 i) RX5 := ⟨2, i, 2, 2, TX5, _, rfl, hi, rfl, rfl⟩
theorem g_2_0 {i : Nat} (hi : i < 516) {index : Nat} (hln : Cond.fieldLink Y.1.cls index RX5 "cells" "[I" ∈ lw_good) (d : decode Y.2.1 pc = .ok (.getfield index, 3)) (kk : WQ Z Y I0 gr (pc + 3) lv (.ref (gr i) :: st) I e κ) : WQ Z Y I0 gr pc lv (vr Z 2 i :: st) I e κ :=
  wq_get (k := 2) (i := i) (fk := 0) (ci := 2) (N := 2) (T := TX5) rfl hi rfl rfl in_2 (by decide) rfl rfl hln d kk
theorem g_2_1 {i : Nat} (hi : i < 516) {index : Nat} (hln : Cond.fieldLink Y.1.cls index RX5 "many" "I" ∈ lw_good) (d : decode Y.2.1 pc = .ok (.getfield index, 3)) (kk : WQ Z Y I0 gr (pc + 3) lv (vi (I 2 i 1) :: st) I e κ) : WQ Z Y I0 gr pc lv (vr Z 2 i :: st) I e κ :=
  wq_get (k := 2) (i := i) (fk := 1) (ci := 2) (N := 2) (T := TX5) rfl hi rfl rfl in_2 (by decide) rfl rfl hln d kk
theorem p_2_1 {i : Nat} (hi : i < 516) {index : Nat} {x : Int} {f : Mem → Option (α × Mem)} (hln : Cond.fieldLink Y.1.cls index RX5 "many" "I" ∈ lw_good) (d : decode Y.2.1 pc = .ok (.putfield index, 3)) (kk : ∀ J : Mem, WQ Z Y I0 gr (pc + 3) lv st J (f J) κ) : WQ Z Y I0 gr pc lv (vi x :: vr Z 2 i :: st) I (ltI (sI I 2 i 1 x) f) κ :=
  wq_put (k := 2) (i := i) (fk := 1) (ci := 2) (N := 2) (T := TX5) (v := vi x) rfl (by simp [ent, sI]) hi rfl rfl in_2 tyX5_ok nmX5 (by decide) rfl (Nat.le_of_ble_eq_true rfl) rfl rfl (by decide) (by decide) (by decide) hln d kk
theorem in_3 : ∀ w ∈ u_ws RX9 TX9 2, w ∈ lw_good := by decide +kernel
theorem ob_3 : Ob Z gr I (zA Z 3 0) RX9 := ⟨3, 0, 3, 2, TX9, _, rfl, (by decide), rfl, rfl⟩
theorem g_3_0 {index : Nat} (hln : Cond.fieldLink Y.1.cls index RX9 "pairs" "LPairRules$PairTable;" ∈ lw_good) (d : decode Y.2.1 pc = .ok (.getfield index, 3)) (kk : WQ Z Y I0 gr (pc + 3) lv (vr Z 4 0 :: st) I e κ) : WQ Z Y I0 gr pc lv (vr Z 3 0 :: st) I e κ :=
  wq_get (k := 3) (i := 0) (fk := 0) (ci := 3) (N := 2) (T := TX9) rfl (by decide) rfl rfl in_3 (by decide) rfl rfl hln d kk
theorem g_3_1 {index : Nat} (hln : Cond.fieldLink Y.1.cls index RX9 "uses" "[I" ∈ lw_good) (d : decode Y.2.1 pc = .ok (.getfield index, 3)) (kk : WQ Z Y I0 gr (pc + 3) lv (vr Z 17 0 :: st) I e κ) : WQ Z Y I0 gr pc lv (vr Z 3 0 :: st) I e κ :=
  wq_get (k := 3) (i := 0) (fk := 1) (ci := 3) (N := 2) (T := TX9) rfl (by decide) rfl rfl in_3 (by decide) rfl rfl hln d kk
theorem in_4 : ∀ w ∈ u_ws RX3 TX3 10, w ∈ lw_good := by decide +kernel
theorem ob_4 : Ob Z gr I (zA Z 4 0) RX3 := ⟨4, 0, 4, 10, TX3, _, rfl, (by decide), rfl, rfl⟩
theorem g_4_0 {index : Nat} (hln : Cond.fieldLink Y.1.cls index RX3 "counts" "[I" ∈ lw_good) (d : decode Y.2.1 pc = .ok (.getfield index, 3)) (kk : WQ Z Y I0 gr (pc + 3) lv (vr Z 16 0 :: st) I e κ) : WQ Z Y I0 gr pc lv (vr Z 4 0 :: st) I e κ :=
  wq_get (k := 4) (i := 0) (fk := 0) (ci := 4) (N := 10) (T := TX3) rfl (by decide) rfl rfl in_4 (by decide) rfl rfl hln d kk
theorem g_4_1 {index : Nat} (hln : Cond.fieldLink Y.1.cls index RX3 "places" "[I" ∈ lw_good) (d : decode Y.2.1 pc = .ok (.getfield index, 3)) (kk : WQ Z Y I0 gr (pc + 3) lv (vr Z 16 1 :: st) I e κ) : WQ Z Y I0 gr pc lv (vr Z 4 0 :: st) I e κ :=
  wq_get (k := 4) (i := 0) (fk := 1) (ci := 4) (N := 10) (T := TX3) rfl (by decide) rfl rfl in_4 (by decide) rfl rfl hln d kk
theorem g_4_2 {index : Nat} (hln : Cond.fieldLink Y.1.cls index RX3 "kepts" "[I" ∈ lw_good) (d : decode Y.2.1 pc = .ok (.getfield index, 3)) (kk : WQ Z Y I0 gr (pc + 3) lv (vr Z 16 2 :: st) I e κ) : WQ Z Y I0 gr pc lv (vr Z 4 0 :: st) I e κ :=
  wq_get (k := 4) (i := 0) (fk := 2) (ci := 4) (N := 10) (T := TX3) rfl (by decide) rfl rfl in_4 (by decide) rfl rfl hln d kk
theorem g_4_3 {index : Nat} (hln : Cond.fieldLink Y.1.cls index RX3 "touched" "[I" ∈ lw_good) (d : decode Y.2.1 pc = .ok (.getfield index, 3)) (kk : WQ Z Y I0 gr (pc + 3) lv (vr Z 16 3 :: st) I e κ) : WQ Z Y I0 gr pc lv (vr Z 4 0 :: st) I e κ :=
  wq_get (k := 4) (i := 0) (fk := 3) (ci := 4) (N := 10) (T := TX3) rfl (by decide) rfl rfl in_4 (by decide) rfl rfl hln d kk
theorem g_4_4 {index : Nat} (hln : Cond.fieldLink Y.1.cls index RX3 "manyTouched" "I" ∈ lw_good) (d : decode Y.2.1 pc = .ok (.getfield index, 3)) (kk : WQ Z Y I0 gr (pc + 3) lv (vi (I 4 0 4) :: st) I e κ) : WQ Z Y I0 gr pc lv (vr Z 4 0 :: st) I e κ :=
  wq_get (k := 4) (i := 0) (fk := 4) (ci := 4) (N := 10) (T := TX3) rfl (by decide) rfl rfl in_4 (by decide) rfl rfl hln d kk
theorem p_4_4 {index : Nat} {x : Int} {f : Mem → Option (α × Mem)} (hln : Cond.fieldLink Y.1.cls index RX3 "manyTouched" "I" ∈ lw_good) (d : decode Y.2.1 pc = .ok (.putfield index, 3)) (kk : ∀ J : Mem, WQ Z Y I0 gr (pc + 3) lv st J (f J) κ) : WQ Z Y I0 gr pc lv (vi x :: vr Z 4 0 :: st) I (ltI (sI I 4 0 4 x) f) κ :=
  wq_put (k := 4) (i := 0) (fk := 4) (ci := 4) (N := 10) (T := TX3) (v := vi x) rfl (by simp [ent, sI]) (by decide) rfl rfl in_4 tyX3_ok nmX3 (by decide) rfl (Nat.le_of_ble_eq_true rfl) rfl rfl (by decide) (by decide) (by decide) hln d kk
theorem g_4_5 {index : Nat} (hln : Cond.fieldLink Y.1.cls index RX3 "grammar" "LPairRules$Grammar;" ∈ lw_good) (d : decode Y.2.1 pc = .ok (.getfield index, 3)) (kk : WQ Z Y I0 gr (pc + 3) lv (vrn Z 1 (I 4 0 5) :: st) I e κ) : WQ Z Y I0 gr pc lv (vr Z 4 0 :: st) I e κ :=
  wq_get (k := 4) (i := 0) (fk := 5) (ci := 4) (N := 10) (T := TX3) rfl (by decide) rfl rfl in_4 (by decide) rfl rfl hln d kk
theorem p_4_5 {g index : Nat} {f : Mem → Option (α × Mem)} (hln : Cond.fieldLink Y.1.cls index RX3 "grammar" "LPairRules$Grammar;" ∈ lw_good) (d : decode Y.2.1 pc = .ok (.putfield index, 3)) (kk : ∀ J : Mem, WQ Z Y I0 gr (pc + 3) lv st J (f J) κ) : WQ Z Y I0 gr pc lv (vr Z 1 g :: vr Z 4 0 :: st) I (ltI (sI I 4 0 5 ((g : Nat) : Int)) f) κ :=
  wq_put (k := 4) (i := 0) (fk := 5) (ci := 4) (N := 10) (T := TX3) (v := vr Z 1 g) rfl (by simp [ent, sI, vrn]) (by decide) rfl rfl in_4 tyX3_ok nmX3 (by decide) rfl (Nat.le_of_ble_eq_true rfl) rfl rfl (by decide) (by decide) (by decide) hln d kk
theorem g_4_6 {index : Nat} (hln : Cond.fieldLink Y.1.cls index RX3 "free" "Z" ∈ lw_good) (d : decode Y.2.1 pc = .ok (.getfield index, 3)) (kk : WQ Z Y I0 gr (pc + 3) lv (vi (I 4 0 6) :: st) I e κ) : WQ Z Y I0 gr pc lv (vr Z 4 0 :: st) I e κ :=
  wq_get (k := 4) (i := 0) (fk := 6) (ci := 4) (N := 10) (T := TX3) rfl (by decide) rfl rfl in_4 (by decide) rfl rfl hln d kk
theorem p_4_6 {index : Nat} {x : Int} {f : Mem → Option (α × Mem)} (hz : x = 0 ∨ x = 1) (hln : Cond.fieldLink Y.1.cls index RX3 "free" "Z" ∈ lw_good) (d : decode Y.2.1 pc = .ok (.putfield index, 3)) (kk : ∀ J : Mem, WQ Z Y I0 gr (pc + 3) lv st J (f J) κ) : WQ Z Y I0 gr pc lv (vi x :: vr Z 4 0 :: st) I (ltI (sI I 4 0 6 x) f) κ :=
  wq_put (k := 4) (i := 0) (fk := 6) (ci := 4) (N := 10) (T := TX3) (v := vi x) rfl (by simp [ent, sI]) (by decide) rfl rfl in_4 tyX3_ok nmX3 (by decide) rfl (Nat.le_of_ble_eq_true rfl) (by rcases hz with rfl | rfl <;> rfl) (by rcases hz with rfl | rfl <;> rfl) (by decide) (by decide) (by decide) hln d kk
theorem g_4_7 {index : Nat} (hln : Cond.fieldLink Y.1.cls index RX3 "best" "I" ∈ lw_good) (d : decode Y.2.1 pc = .ok (.getfield index, 3)) (kk : WQ Z Y I0 gr (pc + 3) lv (vi (I 4 0 7) :: st) I e κ) : WQ Z Y I0 gr pc lv (vr Z 4 0 :: st) I e κ :=
  wq_get (k := 4) (i := 0) (fk := 7) (ci := 4) (N := 10) (T := TX3) rfl (by decide) rfl rfl in_4 (by decide) rfl rfl hln d kk
theorem p_4_7 {index : Nat} {x : Int} {f : Mem → Option (α × Mem)} (hln : Cond.fieldLink Y.1.cls index RX3 "best" "I" ∈ lw_good) (d : decode Y.2.1 pc = .ok (.putfield index, 3)) (kk : ∀ J : Mem, WQ Z Y I0 gr (pc + 3) lv st J (f J) κ) : WQ Z Y I0 gr pc lv (vi x :: vr Z 4 0 :: st) I (ltI (sI I 4 0 7 x) f) κ :=
  wq_put (k := 4) (i := 0) (fk := 7) (ci := 4) (N := 10) (T := TX3) (v := vi x) rfl (by simp [ent, sI]) (by decide) rfl rfl in_4 tyX3_ok nmX3 (by decide) rfl (Nat.le_of_ble_eq_true rfl) rfl rfl (by decide) (by decide) (by decide) hln d kk
theorem g_4_8 {index : Nat} (hln : Cond.fieldLink Y.1.cls index RX3 "worth" "I" ∈ lw_good) (d : decode Y.2.1 pc = .ok (.getfield index, 3)) (kk : WQ Z Y I0 gr (pc + 3) lv (vi (I 4 0 8) :: st) I e κ) : WQ Z Y I0 gr pc lv (vr Z 4 0 :: st) I e κ :=
  wq_get (k := 4) (i := 0) (fk := 8) (ci := 4) (N := 10) (T := TX3) rfl (by decide) rfl rfl in_4 (by decide) rfl rfl hln d kk
theorem p_4_8 {index : Nat} {x : Int} {f : Mem → Option (α × Mem)} (hln : Cond.fieldLink Y.1.cls index RX3 "worth" "I" ∈ lw_good) (d : decode Y.2.1 pc = .ok (.putfield index, 3)) (kk : ∀ J : Mem, WQ Z Y I0 gr (pc + 3) lv st J (f J) κ) : WQ Z Y I0 gr pc lv (vi x :: vr Z 4 0 :: st) I (ltI (sI I 4 0 8 x) f) κ :=
  wq_put (k := 4) (i := 0) (fk := 8) (ci := 4) (N := 10) (T := TX3) (v := vi x) rfl (by simp [ent, sI]) (by decide) rfl rfl in_4 tyX3_ok nmX3 (by decide) rfl (Nat.le_of_ble_eq_true rfl) rfl rfl (by decide) (by decide) (by decide) hln d kk
theorem g_4_9 {index : Nat} (hln : Cond.fieldLink Y.1.cls index RX3 "alike" "I" ∈ lw_good) (d : decode Y.2.1 pc = .ok (.getfield index, 3)) (kk : WQ Z Y I0 gr (pc + 3) lv (vi (I 4 0 9) :: st) I e κ) : WQ Z Y I0 gr pc lv (vr Z 4 0 :: st) I e κ :=
  wq_get (k := 4) (i := 0) (fk := 9) (ci := 4) (N := 10) (T := TX3) rfl (by decide) rfl rfl in_4 (by decide) rfl rfl hln d kk
theorem p_4_9 {index : Nat} {x : Int} {f : Mem → Option (α × Mem)} (hln : Cond.fieldLink Y.1.cls index RX3 "alike" "I" ∈ lw_good) (d : decode Y.2.1 pc = .ok (.putfield index, 3)) (kk : ∀ J : Mem, WQ Z Y I0 gr (pc + 3) lv st J (f J) κ) : WQ Z Y I0 gr pc lv (vi x :: vr Z 4 0 :: st) I (ltI (sI I 4 0 9 x) f) κ :=
  wq_put (k := 4) (i := 0) (fk := 9) (ci := 4) (N := 10) (T := TX3) (v := vi x) rfl (by simp [ent, sI]) (by decide) rfl rfl in_4 tyX3_ok nmX3 (by decide) rfl (Nat.le_of_ble_eq_true rfl) rfl rfl (by decide) (by decide) (by decide) hln d kk
theorem in_5 : ∀ w ∈ u_ws RX10 TX10 8, w ∈ lw_good := by decide +kernel
theorem ob_5 : Ob Z gr I (zA Z 5 0) RX10 := ⟨5, 0, 5, 8, TX10, _, rfl, (by decide), rfl, rfl⟩
theorem g_5_0 {index : Nat} (hln : Cond.fieldLink Y.1.cls index RX10 "order" "[I" ∈ lw_good) (d : decode Y.2.1 pc = .ok (.getfield index, 3)) (kk : WQ Z Y I0 gr (pc + 3) lv (vr Z 18 0 :: st) I e κ) : WQ Z Y I0 gr pc lv (vr Z 5 0 :: st) I e κ :=
  wq_get (k := 5) (i := 0) (fk := 0) (ci := 5) (N := 8) (T := TX10) rfl (by decide) rfl rfl in_5 (by decide) rfl rfl hln d kk
theorem g_5_1 {index : Nat} (hln : Cond.fieldLink Y.1.cls index RX10 "depths" "[I" ∈ lw_good) (d : decode Y.2.1 pc = .ok (.getfield index, 3)) (kk : WQ Z Y I0 gr (pc + 3) lv (vr Z 18 1 :: st) I e κ) : WQ Z Y I0 gr pc lv (vr Z 5 0 :: st) I e κ :=
  wq_get (k := 5) (i := 0) (fk := 1) (ci := 5) (N := 8) (T := TX10) rfl (by decide) rfl rfl in_5 (by decide) rfl rfl hln d kk
theorem g_5_2 {index : Nat} (hln : Cond.fieldLink Y.1.cls index RX10 "comings" "[I" ∈ lw_good) (d : decode Y.2.1 pc = .ok (.getfield index, 3)) (kk : WQ Z Y I0 gr (pc + 3) lv (vr Z 18 2 :: st) I e κ) : WQ Z Y I0 gr pc lv (vr Z 5 0 :: st) I e κ :=
  wq_get (k := 5) (i := 0) (fk := 2) (ci := 5) (N := 8) (T := TX10) rfl (by decide) rfl rfl in_5 (by decide) rfl rfl hln d kk
theorem g_5_3 {index : Nat} (hln : Cond.fieldLink Y.1.cls index RX10 "text" "[I" ∈ lw_good) (d : decode Y.2.1 pc = .ok (.getfield index, 3)) (kk : WQ Z Y I0 gr (pc + 3) lv (vr Z 18 3 :: st) I e κ) : WQ Z Y I0 gr pc lv (vr Z 5 0 :: st) I e κ :=
  wq_get (k := 5) (i := 0) (fk := 3) (ci := 5) (N := 8) (T := TX10) rfl (by decide) rfl rfl in_5 (by decide) rfl rfl hln d kk
theorem g_5_4 {index : Nat} (hln : Cond.fieldLink Y.1.cls index RX10 "openRules" "[I" ∈ lw_good) (d : decode Y.2.1 pc = .ok (.getfield index, 3)) (kk : WQ Z Y I0 gr (pc + 3) lv (vr Z 18 4 :: st) I e κ) : WQ Z Y I0 gr pc lv (vr Z 5 0 :: st) I e κ :=
  wq_get (k := 5) (i := 0) (fk := 4) (ci := 5) (N := 8) (T := TX10) rfl (by decide) rfl rfl in_5 (by decide) rfl rfl hln d kk
theorem g_5_5 {index : Nat} (hln : Cond.fieldLink Y.1.cls index RX10 "openPlaces" "[I" ∈ lw_good) (d : decode Y.2.1 pc = .ok (.getfield index, 3)) (kk : WQ Z Y I0 gr (pc + 3) lv (vr Z 18 5 :: st) I e κ) : WQ Z Y I0 gr pc lv (vr Z 5 0 :: st) I e κ :=
  wq_get (k := 5) (i := 0) (fk := 5) (ci := 5) (N := 8) (T := TX10) rfl (by decide) rfl rfl in_5 (by decide) rfl rfl hln d kk
theorem g_5_6 {index : Nat} (hln : Cond.fieldLink Y.1.cls index RX10 "manyOrdered" "I" ∈ lw_good) (d : decode Y.2.1 pc = .ok (.getfield index, 3)) (kk : WQ Z Y I0 gr (pc + 3) lv (vi (I 5 0 6) :: st) I e κ) : WQ Z Y I0 gr pc lv (vr Z 5 0 :: st) I e κ :=
  wq_get (k := 5) (i := 0) (fk := 6) (ci := 5) (N := 8) (T := TX10) rfl (by decide) rfl rfl in_5 (by decide) rfl rfl hln d kk
theorem p_5_6 {index : Nat} {x : Int} {f : Mem → Option (α × Mem)} (hln : Cond.fieldLink Y.1.cls index RX10 "manyOrdered" "I" ∈ lw_good) (d : decode Y.2.1 pc = .ok (.putfield index, 3)) (kk : ∀ J : Mem, WQ Z Y I0 gr (pc + 3) lv st J (f J) κ) : WQ Z Y I0 gr pc lv (vi x :: vr Z 5 0 :: st) I (ltI (sI I 5 0 6 x) f) κ :=
  wq_put (k := 5) (i := 0) (fk := 6) (ci := 5) (N := 8) (T := TX10) (v := vi x) rfl (by simp [ent, sI]) (by decide) rfl rfl in_5 tyX10_ok nmX10 (by decide) rfl (Nat.le_of_ble_eq_true rfl) rfl rfl (by decide) (by decide) (by decide) hln d kk
theorem g_5_7 {index : Nat} (hln : Cond.fieldLink Y.1.cls index RX10 "manyLetters" "I" ∈ lw_good) (d : decode Y.2.1 pc = .ok (.getfield index, 3)) (kk : WQ Z Y I0 gr (pc + 3) lv (vi (I 5 0 7) :: st) I e κ) : WQ Z Y I0 gr pc lv (vr Z 5 0 :: st) I e κ :=
  wq_get (k := 5) (i := 0) (fk := 7) (ci := 5) (N := 8) (T := TX10) rfl (by decide) rfl rfl in_5 (by decide) rfl rfl hln d kk
theorem p_5_7 {index : Nat} {x : Int} {f : Mem → Option (α × Mem)} (hln : Cond.fieldLink Y.1.cls index RX10 "manyLetters" "I" ∈ lw_good) (d : decode Y.2.1 pc = .ok (.putfield index, 3)) (kk : ∀ J : Mem, WQ Z Y I0 gr (pc + 3) lv st J (f J) κ) : WQ Z Y I0 gr pc lv (vi x :: vr Z 5 0 :: st) I (ltI (sI I 5 0 7 x) f) κ :=
  wq_put (k := 5) (i := 0) (fk := 7) (ci := 5) (N := 8) (T := TX10) (v := vi x) rfl (by simp [ent, sI]) (by decide) rfl rfl in_5 tyX10_ok nmX10 (by decide) rfl (Nat.le_of_ble_eq_true rfl) rfl rfl (by decide) (by decide) (by decide) hln d kk
theorem in_6 : ∀ w ∈ u_ws RX8 TX8 8, w ∈ lw_good := by decide +kernel
theorem ob_6 : Ob Z gr I (zA Z 6 0) RX8 := ⟨6, 0, 6, 8, TX8, _, rfl, (by decide), rfl, rfl⟩
theorem g_6_0 {index : Nat} (hln : Cond.fieldLink Y.1.cls index RX8 "bytes" "[I" ∈ lw_good) (d : decode Y.2.1 pc = .ok (.getfield index, 3)) (kk : WQ Z Y I0 gr (pc + 3) lv (vr Z 19 0 :: st) I e κ) : WQ Z Y I0 gr pc lv (vr Z 6 0 :: st) I e κ :=
  wq_get (k := 6) (i := 0) (fk := 0) (ci := 6) (N := 8) (T := TX8) rfl (by decide) rfl rfl in_6 (by decide) rfl rfl hln d kk
theorem g_6_1 {index : Nat} (hln : Cond.fieldLink Y.1.cls index RX8 "many" "I" ∈ lw_good) (d : decode Y.2.1 pc = .ok (.getfield index, 3)) (kk : WQ Z Y I0 gr (pc + 3) lv (vi (I 6 0 1) :: st) I e κ) : WQ Z Y I0 gr pc lv (vr Z 6 0 :: st) I e κ :=
  wq_get (k := 6) (i := 0) (fk := 1) (ci := 6) (N := 8) (T := TX8) rfl (by decide) rfl rfl in_6 (by decide) rfl rfl hln d kk
theorem p_6_1 {index : Nat} {x : Int} {f : Mem → Option (α × Mem)} (hln : Cond.fieldLink Y.1.cls index RX8 "many" "I" ∈ lw_good) (d : decode Y.2.1 pc = .ok (.putfield index, 3)) (kk : ∀ J : Mem, WQ Z Y I0 gr (pc + 3) lv st J (f J) κ) : WQ Z Y I0 gr pc lv (vi x :: vr Z 6 0 :: st) I (ltI (sI I 6 0 1 x) f) κ :=
  wq_put (k := 6) (i := 0) (fk := 1) (ci := 6) (N := 8) (T := TX8) (v := vi x) rfl (by simp [ent, sI]) (by decide) rfl rfl in_6 tyX8_ok nmX8 (by decide) rfl (Nat.le_of_ble_eq_true rfl) rfl rfl (by decide) (by decide) (by decide) hln d kk
theorem g_6_2 {index : Nat} (hln : Cond.fieldLink Y.1.cls index RX8 "kind" "I" ∈ lw_good) (d : decode Y.2.1 pc = .ok (.getfield index, 3)) (kk : WQ Z Y I0 gr (pc + 3) lv (vi (I 6 0 2) :: st) I e κ) : WQ Z Y I0 gr pc lv (vr Z 6 0 :: st) I e κ :=
  wq_get (k := 6) (i := 0) (fk := 2) (ci := 6) (N := 8) (T := TX8) rfl (by decide) rfl rfl in_6 (by decide) rfl rfl hln d kk
theorem p_6_2 {index : Nat} {x : Int} {f : Mem → Option (α × Mem)} (hln : Cond.fieldLink Y.1.cls index RX8 "kind" "I" ∈ lw_good) (d : decode Y.2.1 pc = .ok (.putfield index, 3)) (kk : ∀ J : Mem, WQ Z Y I0 gr (pc + 3) lv st J (f J) κ) : WQ Z Y I0 gr pc lv (vi x :: vr Z 6 0 :: st) I (ltI (sI I 6 0 2 x) f) κ :=
  wq_put (k := 6) (i := 0) (fk := 2) (ci := 6) (N := 8) (T := TX8) (v := vi x) rfl (by simp [ent, sI]) (by decide) rfl rfl in_6 tyX8_ok nmX8 (by decide) rfl (Nat.le_of_ble_eq_true rfl) rfl rfl (by decide) (by decide) (by decide) hln d kk
theorem g_6_3 {index : Nat} (hln : Cond.fieldLink Y.1.cls index RX8 "from" "I" ∈ lw_good) (d : decode Y.2.1 pc = .ok (.getfield index, 3)) (kk : WQ Z Y I0 gr (pc + 3) lv (vi (I 6 0 3) :: st) I e κ) : WQ Z Y I0 gr pc lv (vr Z 6 0 :: st) I e κ :=
  wq_get (k := 6) (i := 0) (fk := 3) (ci := 6) (N := 8) (T := TX8) rfl (by decide) rfl rfl in_6 (by decide) rfl rfl hln d kk
theorem p_6_3 {index : Nat} {x : Int} {f : Mem → Option (α × Mem)} (hln : Cond.fieldLink Y.1.cls index RX8 "from" "I" ∈ lw_good) (d : decode Y.2.1 pc = .ok (.putfield index, 3)) (kk : ∀ J : Mem, WQ Z Y I0 gr (pc + 3) lv st J (f J) κ) : WQ Z Y I0 gr pc lv (vi x :: vr Z 6 0 :: st) I (ltI (sI I 6 0 3 x) f) κ :=
  wq_put (k := 6) (i := 0) (fk := 3) (ci := 6) (N := 8) (T := TX8) (v := vi x) rfl (by simp [ent, sI]) (by decide) rfl rfl in_6 tyX8_ok nmX8 (by decide) rfl (Nat.le_of_ble_eq_true rfl) rfl rfl (by decide) (by decide) (by decide) hln d kk
theorem g_6_4 {index : Nat} (hln : Cond.fieldLink Y.1.cls index RX8 "to" "I" ∈ lw_good) (d : decode Y.2.1 pc = .ok (.getfield index, 3)) (kk : WQ Z Y I0 gr (pc + 3) lv (vi (I 6 0 4) :: st) I e κ) : WQ Z Y I0 gr pc lv (vr Z 6 0 :: st) I e κ :=
  wq_get (k := 6) (i := 0) (fk := 4) (ci := 6) (N := 8) (T := TX8) rfl (by decide) rfl rfl in_6 (by decide) rfl rfl hln d kk
theorem p_6_4 {index : Nat} {x : Int} {f : Mem → Option (α × Mem)} (hln : Cond.fieldLink Y.1.cls index RX8 "to" "I" ∈ lw_good) (d : decode Y.2.1 pc = .ok (.putfield index, 3)) (kk : ∀ J : Mem, WQ Z Y I0 gr (pc + 3) lv st J (f J) κ) : WQ Z Y I0 gr pc lv (vi x :: vr Z 6 0 :: st) I (ltI (sI I 6 0 4 x) f) κ :=
  wq_put (k := 6) (i := 0) (fk := 4) (ci := 6) (N := 8) (T := TX8) (v := vi x) rfl (by simp [ent, sI]) (by decide) rfl rfl in_6 tyX8_ok nmX8 (by decide) rfl (Nat.le_of_ble_eq_true rfl) rfl rfl (by decide) (by decide) (by decide) hln d kk
theorem g_6_5 {index : Nat} (hln : Cond.fieldLink Y.1.cls index RX8 "value" "I" ∈ lw_good) (d : decode Y.2.1 pc = .ok (.getfield index, 3)) (kk : WQ Z Y I0 gr (pc + 3) lv (vi (I 6 0 5) :: st) I e κ) : WQ Z Y I0 gr pc lv (vr Z 6 0 :: st) I e κ :=
  wq_get (k := 6) (i := 0) (fk := 5) (ci := 6) (N := 8) (T := TX8) rfl (by decide) rfl rfl in_6 (by decide) rfl rfl hln d kk
theorem p_6_5 {index : Nat} {x : Int} {f : Mem → Option (α × Mem)} (hln : Cond.fieldLink Y.1.cls index RX8 "value" "I" ∈ lw_good) (d : decode Y.2.1 pc = .ok (.putfield index, 3)) (kk : ∀ J : Mem, WQ Z Y I0 gr (pc + 3) lv st J (f J) κ) : WQ Z Y I0 gr pc lv (vi x :: vr Z 6 0 :: st) I (ltI (sI I 6 0 5 x) f) κ :=
  wq_put (k := 6) (i := 0) (fk := 5) (ci := 6) (N := 8) (T := TX8) (v := vi x) rfl (by simp [ent, sI]) (by decide) rfl rfl in_6 tyX8_ok nmX8 (by decide) rfl (Nat.le_of_ble_eq_true rfl) rfl rfl (by decide) (by decide) (by decide) hln d kk
theorem g_6_6 {index : Nat} (hln : Cond.fieldLink Y.1.cls index RX8 "errorCode" "I" ∈ lw_good) (d : decode Y.2.1 pc = .ok (.getfield index, 3)) (kk : WQ Z Y I0 gr (pc + 3) lv (vi (I 6 0 6) :: st) I e κ) : WQ Z Y I0 gr pc lv (vr Z 6 0 :: st) I e κ :=
  wq_get (k := 6) (i := 0) (fk := 6) (ci := 6) (N := 8) (T := TX8) rfl (by decide) rfl rfl in_6 (by decide) rfl rfl hln d kk
theorem p_6_6 {index : Nat} {x : Int} {f : Mem → Option (α × Mem)} (hln : Cond.fieldLink Y.1.cls index RX8 "errorCode" "I" ∈ lw_good) (d : decode Y.2.1 pc = .ok (.putfield index, 3)) (kk : ∀ J : Mem, WQ Z Y I0 gr (pc + 3) lv st J (f J) κ) : WQ Z Y I0 gr pc lv (vi x :: vr Z 6 0 :: st) I (ltI (sI I 6 0 6 x) f) κ :=
  wq_put (k := 6) (i := 0) (fk := 6) (ci := 6) (N := 8) (T := TX8) (v := vi x) rfl (by simp [ent, sI]) (by decide) rfl rfl in_6 tyX8_ok nmX8 (by decide) rfl (Nat.le_of_ble_eq_true rfl) rfl rfl (by decide) (by decide) (by decide) hln d kk
theorem g_6_7 {index : Nat} (hln : Cond.fieldLink Y.1.cls index RX8 "errorAt" "I" ∈ lw_good) (d : decode Y.2.1 pc = .ok (.getfield index, 3)) (kk : WQ Z Y I0 gr (pc + 3) lv (vi (I 6 0 7) :: st) I e κ) : WQ Z Y I0 gr pc lv (vr Z 6 0 :: st) I e κ :=
  wq_get (k := 6) (i := 0) (fk := 7) (ci := 6) (N := 8) (T := TX8) rfl (by decide) rfl rfl in_6 (by decide) rfl rfl hln d kk
theorem p_6_7 {index : Nat} {x : Int} {f : Mem → Option (α × Mem)} (hln : Cond.fieldLink Y.1.cls index RX8 "errorAt" "I" ∈ lw_good) (d : decode Y.2.1 pc = .ok (.putfield index, 3)) (kk : ∀ J : Mem, WQ Z Y I0 gr (pc + 3) lv st J (f J) κ) : WQ Z Y I0 gr pc lv (vi x :: vr Z 6 0 :: st) I (ltI (sI I 6 0 7 x) f) κ :=
  wq_put (k := 6) (i := 0) (fk := 7) (ci := 6) (N := 8) (T := TX8) (v := vi x) rfl (by simp [ent, sI]) (by decide) rfl rfl in_6 tyX8_ok nmX8 (by decide) rfl (Nat.le_of_ble_eq_true rfl) rfl rfl (by decide) (by decide) (by decide) hln d kk
theorem in_7 : ∀ w ∈ u_ws RX7 TX7 7, w ∈ lw_good := by decide +kernel
theorem ob_7 : Ob Z gr I (zA Z 7 0) RX7 := ⟨7, 0, 7, 7, TX7, _, rfl, (by decide), rfl, rfl⟩
theorem g_7_0 {index : Nat} (hln : Cond.fieldLink Y.1.cls index RX7 "source" "LPairRules$Source;" ∈ lw_good) (d : decode Y.2.1 pc = .ok (.getfield index, 3)) (kk : WQ Z Y I0 gr (pc + 3) lv (vr Z 6 0 :: st) I e κ) : WQ Z Y I0 gr pc lv (vr Z 7 0 :: st) I e κ :=
  wq_get (k := 7) (i := 0) (fk := 0) (ci := 7) (N := 7) (T := TX7) rfl (by decide) rfl rfl in_7 (by decide) rfl rfl hln d kk
theorem g_7_1 {index : Nat} (hln : Cond.fieldLink Y.1.cls index RX7 "goal" "LPairRules$Grammar;" ∈ lw_good) (d : decode Y.2.1 pc = .ok (.getfield index, 3)) (kk : WQ Z Y I0 gr (pc + 3) lv (vr Z 1 1 :: st) I e κ) : WQ Z Y I0 gr pc lv (vr Z 7 0 :: st) I e κ :=
  wq_get (k := 7) (i := 0) (fk := 1) (ci := 7) (N := 7) (T := TX7) rfl (by decide) rfl rfl in_7 (by decide) rfl rfl hln d kk
theorem g_7_2 {index : Nat} (hln : Cond.fieldLink Y.1.cls index RX7 "rulesTold" "I" ∈ lw_good) (d : decode Y.2.1 pc = .ok (.getfield index, 3)) (kk : WQ Z Y I0 gr (pc + 3) lv (vi (I 7 0 2) :: st) I e κ) : WQ Z Y I0 gr pc lv (vr Z 7 0 :: st) I e κ :=
  wq_get (k := 7) (i := 0) (fk := 2) (ci := 7) (N := 7) (T := TX7) rfl (by decide) rfl rfl in_7 (by decide) rfl rfl hln d kk
theorem p_7_2 {index : Nat} {x : Int} {f : Mem → Option (α × Mem)} (hln : Cond.fieldLink Y.1.cls index RX7 "rulesTold" "I" ∈ lw_good) (d : decode Y.2.1 pc = .ok (.putfield index, 3)) (kk : ∀ J : Mem, WQ Z Y I0 gr (pc + 3) lv st J (f J) κ) : WQ Z Y I0 gr pc lv (vi x :: vr Z 7 0 :: st) I (ltI (sI I 7 0 2 x) f) κ :=
  wq_put (k := 7) (i := 0) (fk := 2) (ci := 7) (N := 7) (T := TX7) (v := vi x) rfl (by simp [ent, sI]) (by decide) rfl rfl in_7 tyX7_ok nmX7 (by decide) rfl (Nat.le_of_ble_eq_true rfl) rfl rfl (by decide) (by decide) (by decide) hln d kk
theorem g_7_3 {index : Nat} (hln : Cond.fieldLink Y.1.cls index RX7 "length" "I" ∈ lw_good) (d : decode Y.2.1 pc = .ok (.getfield index, 3)) (kk : WQ Z Y I0 gr (pc + 3) lv (vi (I 7 0 3) :: st) I e κ) : WQ Z Y I0 gr pc lv (vr Z 7 0 :: st) I e κ :=
  wq_get (k := 7) (i := 0) (fk := 3) (ci := 7) (N := 7) (T := TX7) rfl (by decide) rfl rfl in_7 (by decide) rfl rfl hln d kk
theorem p_7_3 {index : Nat} {x : Int} {f : Mem → Option (α × Mem)} (hln : Cond.fieldLink Y.1.cls index RX7 "length" "I" ∈ lw_good) (d : decode Y.2.1 pc = .ok (.putfield index, 3)) (kk : ∀ J : Mem, WQ Z Y I0 gr (pc + 3) lv st J (f J) κ) : WQ Z Y I0 gr pc lv (vi x :: vr Z 7 0 :: st) I (ltI (sI I 7 0 3 x) f) κ :=
  wq_put (k := 7) (i := 0) (fk := 3) (ci := 7) (N := 7) (T := TX7) (v := vi x) rfl (by simp [ent, sI]) (by decide) rfl rfl in_7 tyX7_ok nmX7 (by decide) rfl (Nat.le_of_ble_eq_true rfl) rfl rfl (by decide) (by decide) (by decide) hln d kk
theorem g_7_4 {index : Nat} (hln : Cond.fieldLink Y.1.cls index RX7 "leastTold" "Z" ∈ lw_good) (d : decode Y.2.1 pc = .ok (.getfield index, 3)) (kk : WQ Z Y I0 gr (pc + 3) lv (vi (I 7 0 4) :: st) I e κ) : WQ Z Y I0 gr pc lv (vr Z 7 0 :: st) I e κ :=
  wq_get (k := 7) (i := 0) (fk := 4) (ci := 7) (N := 7) (T := TX7) rfl (by decide) rfl rfl in_7 (by decide) rfl rfl hln d kk
theorem p_7_4 {index : Nat} {x : Int} {f : Mem → Option (α × Mem)} (hz : x = 0 ∨ x = 1) (hln : Cond.fieldLink Y.1.cls index RX7 "leastTold" "Z" ∈ lw_good) (d : decode Y.2.1 pc = .ok (.putfield index, 3)) (kk : ∀ J : Mem, WQ Z Y I0 gr (pc + 3) lv st J (f J) κ) : WQ Z Y I0 gr pc lv (vi x :: vr Z 7 0 :: st) I (ltI (sI I 7 0 4 x) f) κ :=
  wq_put (k := 7) (i := 0) (fk := 4) (ci := 7) (N := 7) (T := TX7) (v := vi x) rfl (by simp [ent, sI]) (by decide) rfl rfl in_7 tyX7_ok nmX7 (by decide) rfl (Nat.le_of_ble_eq_true rfl) (by rcases hz with rfl | rfl <;> rfl) (by rcases hz with rfl | rfl <;> rfl) (by decide) (by decide) (by decide) hln d kk
theorem g_7_5 {index : Nat} (hln : Cond.fieldLink Y.1.cls index RX7 "tieTold" "Z" ∈ lw_good) (d : decode Y.2.1 pc = .ok (.getfield index, 3)) (kk : WQ Z Y I0 gr (pc + 3) lv (vi (I 7 0 5) :: st) I e κ) : WQ Z Y I0 gr pc lv (vr Z 7 0 :: st) I e κ :=
  wq_get (k := 7) (i := 0) (fk := 5) (ci := 7) (N := 7) (T := TX7) rfl (by decide) rfl rfl in_7 (by decide) rfl rfl hln d kk
theorem p_7_5 {index : Nat} {x : Int} {f : Mem → Option (α × Mem)} (hz : x = 0 ∨ x = 1) (hln : Cond.fieldLink Y.1.cls index RX7 "tieTold" "Z" ∈ lw_good) (d : decode Y.2.1 pc = .ok (.putfield index, 3)) (kk : ∀ J : Mem, WQ Z Y I0 gr (pc + 3) lv st J (f J) κ) : WQ Z Y I0 gr pc lv (vi x :: vr Z 7 0 :: st) I (ltI (sI I 7 0 5 x) f) κ :=
  wq_put (k := 7) (i := 0) (fk := 5) (ci := 7) (N := 7) (T := TX7) (v := vi x) rfl (by simp [ent, sI]) (by decide) rfl rfl in_7 tyX7_ok nmX7 (by decide) rfl (Nat.le_of_ble_eq_true rfl) (by rcases hz with rfl | rfl <;> rfl) (by rcases hz with rfl | rfl <;> rfl) (by decide) (by decide) (by decide) hln d kk
theorem g_7_6 {index : Nat} (hln : Cond.fieldLink Y.1.cls index RX7 "inlineTold" "Z" ∈ lw_good) (d : decode Y.2.1 pc = .ok (.getfield index, 3)) (kk : WQ Z Y I0 gr (pc + 3) lv (vi (I 7 0 6) :: st) I e κ) : WQ Z Y I0 gr pc lv (vr Z 7 0 :: st) I e κ :=
  wq_get (k := 7) (i := 0) (fk := 6) (ci := 7) (N := 7) (T := TX7) rfl (by decide) rfl rfl in_7 (by decide) rfl rfl hln d kk
theorem p_7_6 {index : Nat} {x : Int} {f : Mem → Option (α × Mem)} (hz : x = 0 ∨ x = 1) (hln : Cond.fieldLink Y.1.cls index RX7 "inlineTold" "Z" ∈ lw_good) (d : decode Y.2.1 pc = .ok (.putfield index, 3)) (kk : ∀ J : Mem, WQ Z Y I0 gr (pc + 3) lv st J (f J) κ) : WQ Z Y I0 gr pc lv (vi x :: vr Z 7 0 :: st) I (ltI (sI I 7 0 6 x) f) κ :=
  wq_put (k := 7) (i := 0) (fk := 6) (ci := 7) (N := 7) (T := TX7) (v := vi x) rfl (by simp [ent, sI]) (by decide) rfl rfl in_7 tyX7_ok nmX7 (by decide) rfl (Nat.le_of_ble_eq_true rfl) (by rcases hz with rfl | rfl <;> rfl) (by rcases hz with rfl | rfl <;> rfl) (by decide) (by decide) (by decide) hln d kk
theorem in_8 : ∀ w ∈ u_ws RX6 TX6 11, w ∈ lw_good := by decide +kernel
theorem ob_8 : Ob Z gr I (zA Z 8 0) RX6 := ⟨8, 0, 8, 11, TX6, _, rfl, (by decide), rfl, rfl⟩
theorem g_8_0 {index : Nat} (hln : Cond.fieldLink Y.1.cls index RX6 "source" "LPairRules$Source;" ∈ lw_good) (d : decode Y.2.1 pc = .ok (.getfield index, 3)) (kk : WQ Z Y I0 gr (pc + 3) lv (vr Z 6 0 :: st) I e κ) : WQ Z Y I0 gr pc lv (vr Z 8 0 :: st) I e κ :=
  wq_get (k := 8) (i := 0) (fk := 0) (ci := 8) (N := 11) (T := TX6) rfl (by decide) rfl rfl in_8 (by decide) rfl rfl hln d kk
theorem g_8_1 {index : Nat} (hln : Cond.fieldLink Y.1.cls index RX6 "words" "[LPairRules$Word;" ∈ lw_good) (d : decode Y.2.1 pc = .ok (.getfield index, 3)) (kk : WQ Z Y I0 gr (pc + 3) lv (vr Z 20 0 :: st) I e κ) : WQ Z Y I0 gr pc lv (vr Z 8 0 :: st) I e κ :=
  wq_get (k := 8) (i := 0) (fk := 1) (ci := 8) (N := 11) (T := TX6) rfl (by decide) rfl rfl in_8 (by decide) rfl rfl hln d kk
theorem g_8_2 {index : Nat} (hln : Cond.fieldLink Y.1.cls index RX6 "numbers" "[I" ∈ lw_good) (d : decode Y.2.1 pc = .ok (.getfield index, 3)) (kk : WQ Z Y I0 gr (pc + 3) lv (vr Z 21 0 :: st) I e κ) : WQ Z Y I0 gr pc lv (vr Z 8 0 :: st) I e κ :=
  wq_get (k := 8) (i := 0) (fk := 2) (ci := 8) (N := 11) (T := TX6) rfl (by decide) rfl rfl in_8 (by decide) rfl rfl hln d kk
theorem g_8_3 {index : Nat} (hln : Cond.fieldLink Y.1.cls index RX6 "lettersFrom" "[I" ∈ lw_good) (d : decode Y.2.1 pc = .ok (.getfield index, 3)) (kk : WQ Z Y I0 gr (pc + 3) lv (vr Z 21 1 :: st) I e κ) : WQ Z Y I0 gr pc lv (vr Z 8 0 :: st) I e κ :=
  wq_get (k := 8) (i := 0) (fk := 3) (ci := 8) (N := 11) (T := TX6) rfl (by decide) rfl rfl in_8 (by decide) rfl rfl hln d kk
theorem g_8_4 {index : Nat} (hln : Cond.fieldLink Y.1.cls index RX6 "lettersMany" "[I" ∈ lw_good) (d : decode Y.2.1 pc = .ok (.getfield index, 3)) (kk : WQ Z Y I0 gr (pc + 3) lv (vr Z 21 2 :: st) I e κ) : WQ Z Y I0 gr pc lv (vr Z 8 0 :: st) I e κ :=
  wq_get (k := 8) (i := 0) (fk := 4) (ci := 8) (N := 11) (T := TX6) rfl (by decide) rfl rfl in_8 (by decide) rfl rfl hln d kk
theorem g_8_5 {index : Nat} (hln : Cond.fieldLink Y.1.cls index RX6 "partners" "[I" ∈ lw_good) (d : decode Y.2.1 pc = .ok (.getfield index, 3)) (kk : WQ Z Y I0 gr (pc + 3) lv (vr Z 21 3 :: st) I e κ) : WQ Z Y I0 gr pc lv (vr Z 8 0 :: st) I e κ :=
  wq_get (k := 8) (i := 0) (fk := 5) (ci := 8) (N := 11) (T := TX6) rfl (by decide) rfl rfl in_8 (by decide) rfl rfl hln d kk
theorem g_8_6 {index : Nat} (hln : Cond.fieldLink Y.1.cls index RX6 "timesLeft" "[I" ∈ lw_good) (d : decode Y.2.1 pc = .ok (.getfield index, 3)) (kk : WQ Z Y I0 gr (pc + 3) lv (vr Z 21 4 :: st) I e κ) : WQ Z Y I0 gr pc lv (vr Z 8 0 :: st) I e κ :=
  wq_get (k := 8) (i := 0) (fk := 6) (ci := 8) (N := 11) (T := TX6) rfl (by decide) rfl rfl in_8 (by decide) rfl rfl hln d kk
theorem g_8_7 {index : Nat} (hln : Cond.fieldLink Y.1.cls index RX6 "openAgains" "[I" ∈ lw_good) (d : decode Y.2.1 pc = .ok (.getfield index, 3)) (kk : WQ Z Y I0 gr (pc + 3) lv (vr Z 21 5 :: st) I e κ) : WQ Z Y I0 gr pc lv (vr Z 8 0 :: st) I e κ :=
  wq_get (k := 8) (i := 0) (fk := 7) (ci := 8) (N := 11) (T := TX6) rfl (by decide) rfl rfl in_8 (by decide) rfl rfl hln d kk
theorem g_8_8 {index : Nat} (hln : Cond.fieldLink Y.1.cls index RX6 "many" "I" ∈ lw_good) (d : decode Y.2.1 pc = .ok (.getfield index, 3)) (kk : WQ Z Y I0 gr (pc + 3) lv (vi (I 8 0 8) :: st) I e κ) : WQ Z Y I0 gr pc lv (vr Z 8 0 :: st) I e κ :=
  wq_get (k := 8) (i := 0) (fk := 8) (ci := 8) (N := 11) (T := TX6) rfl (by decide) rfl rfl in_8 (by decide) rfl rfl hln d kk
theorem p_8_8 {index : Nat} {x : Int} {f : Mem → Option (α × Mem)} (hln : Cond.fieldLink Y.1.cls index RX6 "many" "I" ∈ lw_good) (d : decode Y.2.1 pc = .ok (.putfield index, 3)) (kk : ∀ J : Mem, WQ Z Y I0 gr (pc + 3) lv st J (f J) κ) : WQ Z Y I0 gr pc lv (vi x :: vr Z 8 0 :: st) I (ltI (sI I 8 0 8 x) f) κ :=
  wq_put (k := 8) (i := 0) (fk := 8) (ci := 8) (N := 11) (T := TX6) (v := vi x) rfl (by simp [ent, sI]) (by decide) rfl rfl in_8 tyX6_ok nmX6 (by decide) rfl (Nat.le_of_ble_eq_true rfl) rfl rfl (by decide) (by decide) (by decide) hln d kk
theorem g_8_9 {index : Nat} (hln : Cond.fieldLink Y.1.cls index RX6 "orders" "I" ∈ lw_good) (d : decode Y.2.1 pc = .ok (.getfield index, 3)) (kk : WQ Z Y I0 gr (pc + 3) lv (vi (I 8 0 9) :: st) I e κ) : WQ Z Y I0 gr pc lv (vr Z 8 0 :: st) I e κ :=
  wq_get (k := 8) (i := 0) (fk := 9) (ci := 8) (N := 11) (T := TX6) rfl (by decide) rfl rfl in_8 (by decide) rfl rfl hln d kk
theorem p_8_9 {index : Nat} {x : Int} {f : Mem → Option (α × Mem)} (hln : Cond.fieldLink Y.1.cls index RX6 "orders" "I" ∈ lw_good) (d : decode Y.2.1 pc = .ok (.putfield index, 3)) (kk : ∀ J : Mem, WQ Z Y I0 gr (pc + 3) lv st J (f J) κ) : WQ Z Y I0 gr pc lv (vi x :: vr Z 8 0 :: st) I (ltI (sI I 8 0 9 x) f) κ :=
  wq_put (k := 8) (i := 0) (fk := 9) (ci := 8) (N := 11) (T := TX6) (v := vi x) rfl (by simp [ent, sI]) (by decide) rfl rfl in_8 tyX6_ok nmX6 (by decide) rfl (Nat.le_of_ble_eq_true rfl) rfl rfl (by decide) (by decide) (by decide) hln d kk
theorem g_8_10 {index : Nat} (hln : Cond.fieldLink Y.1.cls index RX6 "open" "I" ∈ lw_good) (d : decode Y.2.1 pc = .ok (.getfield index, 3)) (kk : WQ Z Y I0 gr (pc + 3) lv (vi (I 8 0 10) :: st) I e κ) : WQ Z Y I0 gr pc lv (vr Z 8 0 :: st) I e κ :=
  wq_get (k := 8) (i := 0) (fk := 10) (ci := 8) (N := 11) (T := TX6) rfl (by decide) rfl rfl in_8 (by decide) rfl rfl hln d kk
theorem p_8_10 {index : Nat} {x : Int} {f : Mem → Option (α × Mem)} (hln : Cond.fieldLink Y.1.cls index RX6 "open" "I" ∈ lw_good) (d : decode Y.2.1 pc = .ok (.putfield index, 3)) (kk : ∀ J : Mem, WQ Z Y I0 gr (pc + 3) lv st J (f J) κ) : WQ Z Y I0 gr pc lv (vi x :: vr Z 8 0 :: st) I (ltI (sI I 8 0 10 x) f) κ :=
  wq_put (k := 8) (i := 0) (fk := 10) (ci := 8) (N := 11) (T := TX6) (v := vi x) rfl (by simp [ent, sI]) (by decide) rfl rfl in_8 tyX6_ok nmX6 (by decide) rfl (Nat.le_of_ble_eq_true rfl) rfl rfl (by decide) (by decide) (by decide) hln d kk
theorem in_9 : ∀ w ∈ u_ws RX2 TX2 5, w ∈ lw_good := by decide +kernel
theorem ob_9 : Ob Z gr I (zA Z 9 0) RX2 := ⟨9, 0, 9, 5, TX2, _, rfl, (by decide), rfl, rfl⟩
theorem g_9_0 {index : Nat} (hln : Cond.fieldLink Y.1.cls index RX2 "past" "[LPairRules$Grammar;" ∈ lw_good) (d : decode Y.2.1 pc = .ok (.getfield index, 3)) (kk : WQ Z Y I0 gr (pc + 3) lv (vr Z 22 0 :: st) I e κ) : WQ Z Y I0 gr pc lv (vr Z 9 0 :: st) I e κ :=
  wq_get (k := 9) (i := 0) (fk := 0) (ci := 9) (N := 5) (T := TX2) rfl (by decide) rfl rfl in_9 (by decide) rfl rfl hln d kk
theorem g_9_1 {index : Nat} (hln : Cond.fieldLink Y.1.cls index RX2 "kept" "[LPairRules$Grammar;" ∈ lw_good) (d : decode Y.2.1 pc = .ok (.getfield index, 3)) (kk : WQ Z Y I0 gr (pc + 3) lv (vr Z 23 0 :: st) I e κ) : WQ Z Y I0 gr pc lv (vr Z 9 0 :: st) I e κ :=
  wq_get (k := 9) (i := 0) (fk := 1) (ci := 9) (N := 5) (T := TX2) rfl (by decide) rfl rfl in_9 (by decide) rfl rfl hln d kk
theorem g_9_2 {index : Nat} (hln : Cond.fieldLink Y.1.cls index RX2 "isKept" "[Z" ∈ lw_good) (d : decode Y.2.1 pc = .ok (.getfield index, 3)) (kk : WQ Z Y I0 gr (pc + 3) lv (vr Z 24 0 :: st) I e κ) : WQ Z Y I0 gr pc lv (vr Z 9 0 :: st) I e κ :=
  wq_get (k := 9) (i := 0) (fk := 2) (ci := 9) (N := 5) (T := TX2) rfl (by decide) rfl rfl in_9 (by decide) rfl rfl hln d kk
theorem g_9_3 {index : Nat} (hln : Cond.fieldLink Y.1.cls index RX2 "next" "I" ∈ lw_good) (d : decode Y.2.1 pc = .ok (.getfield index, 3)) (kk : WQ Z Y I0 gr (pc + 3) lv (vi (I 9 0 3) :: st) I e κ) : WQ Z Y I0 gr pc lv (vr Z 9 0 :: st) I e κ :=
  wq_get (k := 9) (i := 0) (fk := 3) (ci := 9) (N := 5) (T := TX2) rfl (by decide) rfl rfl in_9 (by decide) rfl rfl hln d kk
theorem p_9_3 {index : Nat} {x : Int} {f : Mem → Option (α × Mem)} (hln : Cond.fieldLink Y.1.cls index RX2 "next" "I" ∈ lw_good) (d : decode Y.2.1 pc = .ok (.putfield index, 3)) (kk : ∀ J : Mem, WQ Z Y I0 gr (pc + 3) lv st J (f J) κ) : WQ Z Y I0 gr pc lv (vi x :: vr Z 9 0 :: st) I (ltI (sI I 9 0 3 x) f) κ :=
  wq_put (k := 9) (i := 0) (fk := 3) (ci := 9) (N := 5) (T := TX2) (v := vi x) rfl (by simp [ent, sI]) (by decide) rfl rfl in_9 tyX2_ok nmX2 (by decide) rfl (Nat.le_of_ble_eq_true rfl) rfl rfl (by decide) (by decide) (by decide) hln d kk
theorem g_9_4 {index : Nat} (hln : Cond.fieldLink Y.1.cls index RX2 "many" "I" ∈ lw_good) (d : decode Y.2.1 pc = .ok (.getfield index, 3)) (kk : WQ Z Y I0 gr (pc + 3) lv (vi (I 9 0 4) :: st) I e κ) : WQ Z Y I0 gr pc lv (vr Z 9 0 :: st) I e κ :=
  wq_get (k := 9) (i := 0) (fk := 4) (ci := 9) (N := 5) (T := TX2) rfl (by decide) rfl rfl in_9 (by decide) rfl rfl hln d kk
theorem p_9_4 {index : Nat} {x : Int} {f : Mem → Option (α × Mem)} (hln : Cond.fieldLink Y.1.cls index RX2 "many" "I" ∈ lw_good) (d : decode Y.2.1 pc = .ok (.putfield index, 3)) (kk : ∀ J : Mem, WQ Z Y I0 gr (pc + 3) lv st J (f J) κ) : WQ Z Y I0 gr pc lv (vi x :: vr Z 9 0 :: st) I (ltI (sI I 9 0 4 x) f) κ :=
  wq_put (k := 9) (i := 0) (fk := 4) (ci := 9) (N := 5) (T := TX2) (v := vi x) rfl (by simp [ent, sI]) (by decide) rfl rfl in_9 tyX2_ok nmX2 (by decide) rfl (Nat.le_of_ble_eq_true rfl) rfl rfl (by decide) (by decide) (by decide) hln d kk
theorem in_10 : ∀ w ∈ u_ws RX4 TX4 2, w ∈ lw_good := by decide +kernel
theorem ob_10 : Ob Z gr I (zA Z 10 0) RX4 := ⟨10, 0, 10, 2, TX4, _, rfl, (by decide), rfl, rfl⟩
theorem g_10_0 {index : Nat} (hln : Cond.fieldLink Y.1.cls index RX4 "bytes" "[B" ∈ lw_good) (d : decode Y.2.1 pc = .ok (.getfield index, 3)) (kk : WQ Z Y I0 gr (pc + 3) lv (.ref (gr 516) :: st) I e κ) : WQ Z Y I0 gr pc lv (vr Z 10 0 :: st) I e κ :=
  wq_get (k := 10) (i := 0) (fk := 0) (ci := 10) (N := 2) (T := TX4) rfl (by decide) rfl rfl in_10 (by decide) rfl rfl hln d kk
theorem g_10_1 {index : Nat} (hln : Cond.fieldLink Y.1.cls index RX4 "many" "I" ∈ lw_good) (d : decode Y.2.1 pc = .ok (.getfield index, 3)) (kk : WQ Z Y I0 gr (pc + 3) lv (vi (I 10 0 1) :: st) I e κ) : WQ Z Y I0 gr pc lv (vr Z 10 0 :: st) I e κ :=
  wq_get (k := 10) (i := 0) (fk := 1) (ci := 10) (N := 2) (T := TX4) rfl (by decide) rfl rfl in_10 (by decide) rfl rfl hln d kk
theorem p_10_1 {index : Nat} {x : Int} {f : Mem → Option (α × Mem)} (hln : Cond.fieldLink Y.1.cls index RX4 "many" "I" ∈ lw_good) (d : decode Y.2.1 pc = .ok (.putfield index, 3)) (kk : ∀ J : Mem, WQ Z Y I0 gr (pc + 3) lv st J (f J) κ) : WQ Z Y I0 gr pc lv (vi x :: vr Z 10 0 :: st) I (ltI (sI I 10 0 1 x) f) κ :=
  wq_put (k := 10) (i := 0) (fk := 1) (ci := 10) (N := 2) (T := TX4) (v := vi x) rfl (by simp [ent, sI]) (by decide) rfl rfl in_10 tyX4_ok nmX4 (by decide) rfl (Nat.le_of_ble_eq_true rfl) rfl rfl (by decide) (by decide) (by decide) hln d kk
theorem in_26 : ∀ w ∈ u_ws RX13 TX13 44, w ∈ lw_good := by decide +kernel
theorem ob_26 : Ob Z gr I (zA Z 26 0) RX13 := ⟨26, 0, 11, 44, TX13, _, rfl, (by decide), rfl, rfl⟩
theorem g_26_0 {index : Nat} (hln : Cond.fieldLink Y.1.cls index RX13 "w" "[I" ∈ lw_good) (d : decode Y.2.1 pc = .ok (.getfield index, 3)) (kk : WQ Z Y I0 gr (pc + 3) lv (vr Z 27 0 :: st) I e κ) : WQ Z Y I0 gr pc lv (vr Z 26 0 :: st) I e κ :=
  wq_get (k := 26) (i := 0) (fk := 0) (ci := 11) (N := 44) (T := TX13) rfl (by decide) rfl rfl in_26 (by decide) rfl rfl hln d kk
theorem g_26_1 {index : Nat} (hln : Cond.fieldLink Y.1.cls index RX13 "other" "[I" ∈ lw_good) (d : decode Y.2.1 pc = .ok (.getfield index, 3)) (kk : WQ Z Y I0 gr (pc + 3) lv (vr Z 27 1 :: st) I e κ) : WQ Z Y I0 gr pc lv (vr Z 26 0 :: st) I e κ :=
  wq_get (k := 26) (i := 0) (fk := 1) (ci := 11) (N := 44) (T := TX13) rfl (by decide) rfl rfl in_26 (by decide) rfl rfl hln d kk
theorem g_26_2 {index : Nat} (hln : Cond.fieldLink Y.1.cls index RX13 "ahead" "[I" ∈ lw_good) (d : decode Y.2.1 pc = .ok (.getfield index, 3)) (kk : WQ Z Y I0 gr (pc + 3) lv (vr Z 27 2 :: st) I e κ) : WQ Z Y I0 gr pc lv (vr Z 26 0 :: st) I e κ :=
  wq_get (k := 26) (i := 0) (fk := 2) (ci := 11) (N := 44) (T := TX13) rfl (by decide) rfl rfl in_26 (by decide) rfl rfl hln d kk
theorem g_26_3 {index : Nat} (hln : Cond.fieldLink Y.1.cls index RX13 "past" "[I" ∈ lw_good) (d : decode Y.2.1 pc = .ok (.getfield index, 3)) (kk : WQ Z Y I0 gr (pc + 3) lv (vr Z 27 3 :: st) I e κ) : WQ Z Y I0 gr pc lv (vr Z 26 0 :: st) I e κ :=
  wq_get (k := 26) (i := 0) (fk := 3) (ci := 11) (N := 44) (T := TX13) rfl (by decide) rfl rfl in_26 (by decide) rfl rfl hln d kk
theorem g_26_4 {index : Nat} (hln : Cond.fieldLink Y.1.cls index RX13 "kept" "[I" ∈ lw_good) (d : decode Y.2.1 pc = .ok (.getfield index, 3)) (kk : WQ Z Y I0 gr (pc + 3) lv (vr Z 27 4 :: st) I e κ) : WQ Z Y I0 gr pc lv (vr Z 26 0 :: st) I e κ :=
  wq_get (k := 26) (i := 0) (fk := 4) (ci := 11) (N := 44) (T := TX13) rfl (by decide) rfl rfl in_26 (by decide) rfl rfl hln d kk
theorem g_26_5 {index : Nat} (hln : Cond.fieldLink Y.1.cls index RX13 "isKept" "[Z" ∈ lw_good) (d : decode Y.2.1 pc = .ok (.getfield index, 3)) (kk : WQ Z Y I0 gr (pc + 3) lv (vr Z 28 0 :: st) I e κ) : WQ Z Y I0 gr pc lv (vr Z 26 0 :: st) I e κ :=
  wq_get (k := 26) (i := 0) (fk := 5) (ci := 11) (N := 44) (T := TX13) rfl (by decide) rfl rfl in_26 (by decide) rfl rfl hln d kk
theorem g_26_6 {index : Nat} (hln : Cond.fieldLink Y.1.cls index RX13 "undos" "I" ∈ lw_good) (d : decode Y.2.1 pc = .ok (.getfield index, 3)) (kk : WQ Z Y I0 gr (pc + 3) lv (vi (I 26 0 6) :: st) I e κ) : WQ Z Y I0 gr pc lv (vr Z 26 0 :: st) I e κ :=
  wq_get (k := 26) (i := 0) (fk := 6) (ci := 11) (N := 44) (T := TX13) rfl (by decide) rfl rfl in_26 (by decide) rfl rfl hln d kk
theorem p_26_6 {index : Nat} {x : Int} {f : Mem → Option (α × Mem)} (hln : Cond.fieldLink Y.1.cls index RX13 "undos" "I" ∈ lw_good) (d : decode Y.2.1 pc = .ok (.putfield index, 3)) (kk : ∀ J : Mem, WQ Z Y I0 gr (pc + 3) lv st J (f J) κ) : WQ Z Y I0 gr pc lv (vi x :: vr Z 26 0 :: st) I (ltI (sI I 26 0 6 x) f) κ :=
  wq_put (k := 26) (i := 0) (fk := 6) (ci := 11) (N := 44) (T := TX13) (v := vi x) rfl (by simp [ent, sI]) (by decide) rfl rfl in_26 tyX13_ok nmX13 (by decide) rfl (Nat.le_of_ble_eq_true rfl) rfl rfl (by decide) (by decide) (by decide) hln d kk
theorem g_26_7 {index : Nat} (hln : Cond.fieldLink Y.1.cls index RX13 "thrown" "I" ∈ lw_good) (d : decode Y.2.1 pc = .ok (.getfield index, 3)) (kk : WQ Z Y I0 gr (pc + 3) lv (vi (I 26 0 7) :: st) I e κ) : WQ Z Y I0 gr pc lv (vr Z 26 0 :: st) I e κ :=
  wq_get (k := 26) (i := 0) (fk := 7) (ci := 11) (N := 44) (T := TX13) rfl (by decide) rfl rfl in_26 (by decide) rfl rfl hln d kk
theorem p_26_7 {index : Nat} {x : Int} {f : Mem → Option (α × Mem)} (hln : Cond.fieldLink Y.1.cls index RX13 "thrown" "I" ∈ lw_good) (d : decode Y.2.1 pc = .ok (.putfield index, 3)) (kk : ∀ J : Mem, WQ Z Y I0 gr (pc + 3) lv st J (f J) κ) : WQ Z Y I0 gr pc lv (vi x :: vr Z 26 0 :: st) I (ltI (sI I 26 0 7 x) f) κ :=
  wq_put (k := 26) (i := 0) (fk := 7) (ci := 11) (N := 44) (T := TX13) (v := vi x) rfl (by simp [ent, sI]) (by decide) rfl rfl in_26 tyX13_ok nmX13 (by decide) rfl (Nat.le_of_ble_eq_true rfl) rfl rfl (by decide) (by decide) (by decide) hln d kk
theorem g_26_8 {index : Nat} (hln : Cond.fieldLink Y.1.cls index RX13 "lengths" "[I" ∈ lw_good) (d : decode Y.2.1 pc = .ok (.getfield index, 3)) (kk : WQ Z Y I0 gr (pc + 3) lv (vr Z 27 5 :: st) I e κ) : WQ Z Y I0 gr pc lv (vr Z 26 0 :: st) I e κ :=
  wq_get (k := 26) (i := 0) (fk := 8) (ci := 11) (N := 44) (T := TX13) rfl (by decide) rfl rfl in_26 (by decide) rfl rfl hln d kk
theorem g_26_9 {index : Nat} (hln : Cond.fieldLink Y.1.cls index RX13 "depths" "[I" ∈ lw_good) (d : decode Y.2.1 pc = .ok (.getfield index, 3)) (kk : WQ Z Y I0 gr (pc + 3) lv (vr Z 27 6 :: st) I e κ) : WQ Z Y I0 gr pc lv (vr Z 26 0 :: st) I e κ :=
  wq_get (k := 26) (i := 0) (fk := 9) (ci := 11) (N := 44) (T := TX13) rfl (by decide) rfl rfl in_26 (by decide) rfl rfl hln d kk
theorem g_26_10 {index : Nat} (hln : Cond.fieldLink Y.1.cls index RX13 "deepest" "I" ∈ lw_good) (d : decode Y.2.1 pc = .ok (.getfield index, 3)) (kk : WQ Z Y I0 gr (pc + 3) lv (vi (I 26 0 10) :: st) I e κ) : WQ Z Y I0 gr pc lv (vr Z 26 0 :: st) I e κ :=
  wq_get (k := 26) (i := 0) (fk := 10) (ci := 11) (N := 44) (T := TX13) rfl (by decide) rfl rfl in_26 (by decide) rfl rfl hln d kk
theorem p_26_10 {index : Nat} {x : Int} {f : Mem → Option (α × Mem)} (hln : Cond.fieldLink Y.1.cls index RX13 "deepest" "I" ∈ lw_good) (d : decode Y.2.1 pc = .ok (.putfield index, 3)) (kk : ∀ J : Mem, WQ Z Y I0 gr (pc + 3) lv st J (f J) κ) : WQ Z Y I0 gr pc lv (vi x :: vr Z 26 0 :: st) I (ltI (sI I 26 0 10 x) f) κ :=
  wq_put (k := 26) (i := 0) (fk := 10) (ci := 11) (N := 44) (T := TX13) (v := vi x) rfl (by simp [ent, sI]) (by decide) rfl rfl in_26 tyX13_ok nmX13 (by decide) rfl (Nat.le_of_ble_eq_true rfl) rfl rfl (by decide) (by decide) (by decide) hln d kk
theorem g_26_11 {index : Nat} (hln : Cond.fieldLink Y.1.cls index RX13 "unfolded" "[I" ∈ lw_good) (d : decode Y.2.1 pc = .ok (.getfield index, 3)) (kk : WQ Z Y I0 gr (pc + 3) lv (vr Z 27 7 :: st) I e κ) : WQ Z Y I0 gr pc lv (vr Z 26 0 :: st) I e κ :=
  wq_get (k := 26) (i := 0) (fk := 11) (ci := 11) (N := 44) (T := TX13) rfl (by decide) rfl rfl in_26 (by decide) rfl rfl hln d kk
theorem g_26_12 {index : Nat} (hln : Cond.fieldLink Y.1.cls index RX13 "madeBy" "[I" ∈ lw_good) (d : decode Y.2.1 pc = .ok (.getfield index, 3)) (kk : WQ Z Y I0 gr (pc + 3) lv (vr Z 27 8 :: st) I e κ) : WQ Z Y I0 gr pc lv (vr Z 26 0 :: st) I e κ :=
  wq_get (k := 26) (i := 0) (fk := 12) (ci := 11) (N := 44) (T := TX13) rfl (by decide) rfl rfl in_26 (by decide) rfl rfl hln d kk
theorem g_26_13 {index : Nat} (hln : Cond.fieldLink Y.1.cls index RX13 "inRow" "[I" ∈ lw_good) (d : decode Y.2.1 pc = .ok (.getfield index, 3)) (kk : WQ Z Y I0 gr (pc + 3) lv (vr Z 27 9 :: st) I e κ) : WQ Z Y I0 gr pc lv (vr Z 26 0 :: st) I e κ :=
  wq_get (k := 26) (i := 0) (fk := 13) (ci := 11) (N := 44) (T := TX13) rfl (by decide) rfl rfl in_26 (by decide) rfl rfl hln d kk
theorem g_26_14 {index : Nat} (hln : Cond.fieldLink Y.1.cls index RX13 "inPlace" "[I" ∈ lw_good) (d : decode Y.2.1 pc = .ok (.getfield index, 3)) (kk : WQ Z Y I0 gr (pc + 3) lv (vr Z 27 10 :: st) I e κ) : WQ Z Y I0 gr pc lv (vr Z 26 0 :: st) I e κ :=
  wq_get (k := 26) (i := 0) (fk := 14) (ci := 11) (N := 44) (T := TX13) rfl (by decide) rfl rfl in_26 (by decide) rfl rfl hln d kk
theorem g_26_15 {index : Nat} (hln : Cond.fieldLink Y.1.cls index RX13 "found" "[I" ∈ lw_good) (d : decode Y.2.1 pc = .ok (.getfield index, 3)) (kk : WQ Z Y I0 gr (pc + 3) lv (vr Z 27 11 :: st) I e κ) : WQ Z Y I0 gr pc lv (vr Z 26 0 :: st) I e κ :=
  wq_get (k := 26) (i := 0) (fk := 15) (ci := 11) (N := 44) (T := TX13) rfl (by decide) rfl rfl in_26 (by decide) rfl rfl hln d kk
theorem g_26_16 {index : Nat} (hln : Cond.fieldLink Y.1.cls index RX13 "order" "[I" ∈ lw_good) (d : decode Y.2.1 pc = .ok (.getfield index, 3)) (kk : WQ Z Y I0 gr (pc + 3) lv (vr Z 27 12 :: st) I e κ) : WQ Z Y I0 gr pc lv (vr Z 26 0 :: st) I e κ :=
  wq_get (k := 26) (i := 0) (fk := 16) (ci := 11) (N := 44) (T := TX13) rfl (by decide) rfl rfl in_26 (by decide) rfl rfl hln d kk
theorem g_26_17 {index : Nat} (hln : Cond.fieldLink Y.1.cls index RX13 "keeper" "[I" ∈ lw_good) (d : decode Y.2.1 pc = .ok (.getfield index, 3)) (kk : WQ Z Y I0 gr (pc + 3) lv (vr Z 27 13 :: st) I e κ) : WQ Z Y I0 gr pc lv (vr Z 26 0 :: st) I e κ :=
  wq_get (k := 26) (i := 0) (fk := 17) (ci := 11) (N := 44) (T := TX13) rfl (by decide) rfl rfl in_26 (by decide) rfl rfl hln d kk
theorem g_26_18 {index : Nat} (hln : Cond.fieldLink Y.1.cls index RX13 "orders0" "I" ∈ lw_good) (d : decode Y.2.1 pc = .ok (.getfield index, 3)) (kk : WQ Z Y I0 gr (pc + 3) lv (vi (I 26 0 18) :: st) I e κ) : WQ Z Y I0 gr pc lv (vr Z 26 0 :: st) I e κ :=
  wq_get (k := 26) (i := 0) (fk := 18) (ci := 11) (N := 44) (T := TX13) rfl (by decide) rfl rfl in_26 (by decide) rfl rfl hln d kk
theorem p_26_18 {index : Nat} {x : Int} {f : Mem → Option (α × Mem)} (hln : Cond.fieldLink Y.1.cls index RX13 "orders0" "I" ∈ lw_good) (d : decode Y.2.1 pc = .ok (.putfield index, 3)) (kk : ∀ J : Mem, WQ Z Y I0 gr (pc + 3) lv st J (f J) κ) : WQ Z Y I0 gr pc lv (vi x :: vr Z 26 0 :: st) I (ltI (sI I 26 0 18 x) f) κ :=
  wq_put (k := 26) (i := 0) (fk := 18) (ci := 11) (N := 44) (T := TX13) (v := vi x) rfl (by simp [ent, sI]) (by decide) rfl rfl in_26 tyX13_ok nmX13 (by decide) rfl (Nat.le_of_ble_eq_true rfl) rfl rfl (by decide) (by decide) (by decide) hln d kk
theorem g_26_19 {index : Nat} (hln : Cond.fieldLink Y.1.cls index RX13 "buffer" "[I" ∈ lw_good) (d : decode Y.2.1 pc = .ok (.getfield index, 3)) (kk : WQ Z Y I0 gr (pc + 3) lv (vr Z 27 14 :: st) I e κ) : WQ Z Y I0 gr pc lv (vr Z 26 0 :: st) I e κ :=
  wq_get (k := 26) (i := 0) (fk := 19) (ci := 11) (N := 44) (T := TX13) rfl (by decide) rfl rfl in_26 (by decide) rfl rfl hln d kk
theorem g_26_20 {index : Nat} (hln : Cond.fieldLink Y.1.cls index RX13 "filled" "I" ∈ lw_good) (d : decode Y.2.1 pc = .ok (.getfield index, 3)) (kk : WQ Z Y I0 gr (pc + 3) lv (vi (I 26 0 20) :: st) I e κ) : WQ Z Y I0 gr pc lv (vr Z 26 0 :: st) I e κ :=
  wq_get (k := 26) (i := 0) (fk := 20) (ci := 11) (N := 44) (T := TX13) rfl (by decide) rfl rfl in_26 (by decide) rfl rfl hln d kk
theorem p_26_20 {index : Nat} {x : Int} {f : Mem → Option (α × Mem)} (hln : Cond.fieldLink Y.1.cls index RX13 "filled" "I" ∈ lw_good) (d : decode Y.2.1 pc = .ok (.putfield index, 3)) (kk : ∀ J : Mem, WQ Z Y I0 gr (pc + 3) lv st J (f J) κ) : WQ Z Y I0 gr pc lv (vi x :: vr Z 26 0 :: st) I (ltI (sI I 26 0 20 x) f) κ :=
  wq_put (k := 26) (i := 0) (fk := 20) (ci := 11) (N := 44) (T := TX13) (v := vi x) rfl (by simp [ent, sI]) (by decide) rfl rfl in_26 tyX13_ok nmX13 (by decide) rfl (Nat.le_of_ble_eq_true rfl) rfl rfl (by decide) (by decide) (by decide) hln d kk
theorem g_26_21 {index : Nat} (hln : Cond.fieldLink Y.1.cls index RX13 "begin" "I" ∈ lw_good) (d : decode Y.2.1 pc = .ok (.getfield index, 3)) (kk : WQ Z Y I0 gr (pc + 3) lv (vi (I 26 0 21) :: st) I e κ) : WQ Z Y I0 gr pc lv (vr Z 26 0 :: st) I e κ :=
  wq_get (k := 26) (i := 0) (fk := 21) (ci := 11) (N := 44) (T := TX13) rfl (by decide) rfl rfl in_26 (by decide) rfl rfl hln d kk
theorem p_26_21 {index : Nat} {x : Int} {f : Mem → Option (α × Mem)} (hln : Cond.fieldLink Y.1.cls index RX13 "begin" "I" ∈ lw_good) (d : decode Y.2.1 pc = .ok (.putfield index, 3)) (kk : ∀ J : Mem, WQ Z Y I0 gr (pc + 3) lv st J (f J) κ) : WQ Z Y I0 gr pc lv (vi x :: vr Z 26 0 :: st) I (ltI (sI I 26 0 21 x) f) κ :=
  wq_put (k := 26) (i := 0) (fk := 21) (ci := 11) (N := 44) (T := TX13) (v := vi x) rfl (by simp [ent, sI]) (by decide) rfl rfl in_26 tyX13_ok nmX13 (by decide) rfl (Nat.le_of_ble_eq_true rfl) rfl rfl (by decide) (by decide) (by decide) hln d kk
theorem g_26_22 {index : Nat} (hln : Cond.fieldLink Y.1.cls index RX13 "next" "I" ∈ lw_good) (d : decode Y.2.1 pc = .ok (.getfield index, 3)) (kk : WQ Z Y I0 gr (pc + 3) lv (vi (I 26 0 22) :: st) I e κ) : WQ Z Y I0 gr pc lv (vr Z 26 0 :: st) I e κ :=
  wq_get (k := 26) (i := 0) (fk := 22) (ci := 11) (N := 44) (T := TX13) rfl (by decide) rfl rfl in_26 (by decide) rfl rfl hln d kk
theorem p_26_22 {index : Nat} {x : Int} {f : Mem → Option (α × Mem)} (hln : Cond.fieldLink Y.1.cls index RX13 "next" "I" ∈ lw_good) (d : decode Y.2.1 pc = .ok (.putfield index, 3)) (kk : ∀ J : Mem, WQ Z Y I0 gr (pc + 3) lv st J (f J) κ) : WQ Z Y I0 gr pc lv (vi x :: vr Z 26 0 :: st) I (ltI (sI I 26 0 22 x) f) κ :=
  wq_put (k := 26) (i := 0) (fk := 22) (ci := 11) (N := 44) (T := TX13) (v := vi x) rfl (by simp [ent, sI]) (by decide) rfl rfl in_26 tyX13_ok nmX13 (by decide) rfl (Nat.le_of_ble_eq_true rfl) rfl rfl (by decide) (by decide) (by decide) hln d kk
theorem g_26_23 {index : Nat} (hln : Cond.fieldLink Y.1.cls index RX13 "token" "I" ∈ lw_good) (d : decode Y.2.1 pc = .ok (.getfield index, 3)) (kk : WQ Z Y I0 gr (pc + 3) lv (vi (I 26 0 23) :: st) I e κ) : WQ Z Y I0 gr pc lv (vr Z 26 0 :: st) I e κ :=
  wq_get (k := 26) (i := 0) (fk := 23) (ci := 11) (N := 44) (T := TX13) rfl (by decide) rfl rfl in_26 (by decide) rfl rfl hln d kk
theorem p_26_23 {index : Nat} {x : Int} {f : Mem → Option (α × Mem)} (hln : Cond.fieldLink Y.1.cls index RX13 "token" "I" ∈ lw_good) (d : decode Y.2.1 pc = .ok (.putfield index, 3)) (kk : ∀ J : Mem, WQ Z Y I0 gr (pc + 3) lv st J (f J) κ) : WQ Z Y I0 gr pc lv (vi x :: vr Z 26 0 :: st) I (ltI (sI I 26 0 23 x) f) κ :=
  wq_put (k := 26) (i := 0) (fk := 23) (ci := 11) (N := 44) (T := TX13) (v := vi x) rfl (by simp [ent, sI]) (by decide) rfl rfl in_26 tyX13_ok nmX13 (by decide) rfl (Nat.le_of_ble_eq_true rfl) rfl rfl (by decide) (by decide) (by decide) hln d kk
theorem g_26_24 {index : Nat} (hln : Cond.fieldLink Y.1.cls index RX13 "value" "I" ∈ lw_good) (d : decode Y.2.1 pc = .ok (.getfield index, 3)) (kk : WQ Z Y I0 gr (pc + 3) lv (vi (I 26 0 24) :: st) I e κ) : WQ Z Y I0 gr pc lv (vr Z 26 0 :: st) I e κ :=
  wq_get (k := 26) (i := 0) (fk := 24) (ci := 11) (N := 44) (T := TX13) rfl (by decide) rfl rfl in_26 (by decide) rfl rfl hln d kk
theorem p_26_24 {index : Nat} {x : Int} {f : Mem → Option (α × Mem)} (hln : Cond.fieldLink Y.1.cls index RX13 "value" "I" ∈ lw_good) (d : decode Y.2.1 pc = .ok (.putfield index, 3)) (kk : ∀ J : Mem, WQ Z Y I0 gr (pc + 3) lv st J (f J) κ) : WQ Z Y I0 gr pc lv (vi x :: vr Z 26 0 :: st) I (ltI (sI I 26 0 24 x) f) κ :=
  wq_put (k := 26) (i := 0) (fk := 24) (ci := 11) (N := 44) (T := TX13) (v := vi x) rfl (by simp [ent, sI]) (by decide) rfl rfl in_26 tyX13_ok nmX13 (by decide) rfl (Nat.le_of_ble_eq_true rfl) rfl rfl (by decide) (by decide) (by decide) hln d kk
theorem g_26_25 {index : Nat} (hln : Cond.fieldLink Y.1.cls index RX13 "error" "I" ∈ lw_good) (d : decode Y.2.1 pc = .ok (.getfield index, 3)) (kk : WQ Z Y I0 gr (pc + 3) lv (vi (I 26 0 25) :: st) I e κ) : WQ Z Y I0 gr pc lv (vr Z 26 0 :: st) I e κ :=
  wq_get (k := 26) (i := 0) (fk := 25) (ci := 11) (N := 44) (T := TX13) rfl (by decide) rfl rfl in_26 (by decide) rfl rfl hln d kk
theorem p_26_25 {index : Nat} {x : Int} {f : Mem → Option (α × Mem)} (hln : Cond.fieldLink Y.1.cls index RX13 "error" "I" ∈ lw_good) (d : decode Y.2.1 pc = .ok (.putfield index, 3)) (kk : ∀ J : Mem, WQ Z Y I0 gr (pc + 3) lv st J (f J) κ) : WQ Z Y I0 gr pc lv (vi x :: vr Z 26 0 :: st) I (ltI (sI I 26 0 25 x) f) κ :=
  wq_put (k := 26) (i := 0) (fk := 25) (ci := 11) (N := 44) (T := TX13) (v := vi x) rfl (by simp [ent, sI]) (by decide) rfl rfl in_26 tyX13_ok nmX13 (by decide) rfl (Nat.le_of_ble_eq_true rfl) rfl rfl (by decide) (by decide) (by decide) hln d kk
theorem g_26_26 {index : Nat} (hln : Cond.fieldLink Y.1.cls index RX13 "errorAt" "I" ∈ lw_good) (d : decode Y.2.1 pc = .ok (.getfield index, 3)) (kk : WQ Z Y I0 gr (pc + 3) lv (vi (I 26 0 26) :: st) I e κ) : WQ Z Y I0 gr pc lv (vr Z 26 0 :: st) I e κ :=
  wq_get (k := 26) (i := 0) (fk := 26) (ci := 11) (N := 44) (T := TX13) rfl (by decide) rfl rfl in_26 (by decide) rfl rfl hln d kk
theorem p_26_26 {index : Nat} {x : Int} {f : Mem → Option (α × Mem)} (hln : Cond.fieldLink Y.1.cls index RX13 "errorAt" "I" ∈ lw_good) (d : decode Y.2.1 pc = .ok (.putfield index, 3)) (kk : ∀ J : Mem, WQ Z Y I0 gr (pc + 3) lv st J (f J) κ) : WQ Z Y I0 gr pc lv (vi x :: vr Z 26 0 :: st) I (ltI (sI I 26 0 26 x) f) κ :=
  wq_put (k := 26) (i := 0) (fk := 26) (ci := 11) (N := 44) (T := TX13) (v := vi x) rfl (by simp [ent, sI]) (by decide) rfl rfl in_26 tyX13_ok nmX13 (by decide) rfl (Nat.le_of_ble_eq_true rfl) rfl rfl (by decide) (by decide) (by decide) hln d kk
theorem g_26_27 {index : Nat} (hln : Cond.fieldLink Y.1.cls index RX13 "lastError" "I" ∈ lw_good) (d : decode Y.2.1 pc = .ok (.getfield index, 3)) (kk : WQ Z Y I0 gr (pc + 3) lv (vi (I 26 0 27) :: st) I e κ) : WQ Z Y I0 gr pc lv (vr Z 26 0 :: st) I e κ :=
  wq_get (k := 26) (i := 0) (fk := 27) (ci := 11) (N := 44) (T := TX13) rfl (by decide) rfl rfl in_26 (by decide) rfl rfl hln d kk
theorem p_26_27 {index : Nat} {x : Int} {f : Mem → Option (α × Mem)} (hln : Cond.fieldLink Y.1.cls index RX13 "lastError" "I" ∈ lw_good) (d : decode Y.2.1 pc = .ok (.putfield index, 3)) (kk : ∀ J : Mem, WQ Z Y I0 gr (pc + 3) lv st J (f J) κ) : WQ Z Y I0 gr pc lv (vi x :: vr Z 26 0 :: st) I (ltI (sI I 26 0 27 x) f) κ :=
  wq_put (k := 26) (i := 0) (fk := 27) (ci := 11) (N := 44) (T := TX13) (v := vi x) rfl (by simp [ent, sI]) (by decide) rfl rfl in_26 tyX13_ok nmX13 (by decide) rfl (Nat.le_of_ble_eq_true rfl) rfl rfl (by decide) (by decide) (by decide) hln d kk
theorem g_26_28 {index : Nat} (hln : Cond.fieldLink Y.1.cls index RX13 "toldOnce" "I" ∈ lw_good) (d : decode Y.2.1 pc = .ok (.getfield index, 3)) (kk : WQ Z Y I0 gr (pc + 3) lv (vi (I 26 0 28) :: st) I e κ) : WQ Z Y I0 gr pc lv (vr Z 26 0 :: st) I e κ :=
  wq_get (k := 26) (i := 0) (fk := 28) (ci := 11) (N := 44) (T := TX13) rfl (by decide) rfl rfl in_26 (by decide) rfl rfl hln d kk
theorem p_26_28 {index : Nat} {x : Int} {f : Mem → Option (α × Mem)} (hln : Cond.fieldLink Y.1.cls index RX13 "toldOnce" "I" ∈ lw_good) (d : decode Y.2.1 pc = .ok (.putfield index, 3)) (kk : ∀ J : Mem, WQ Z Y I0 gr (pc + 3) lv st J (f J) κ) : WQ Z Y I0 gr pc lv (vi x :: vr Z 26 0 :: st) I (ltI (sI I 26 0 28 x) f) κ :=
  wq_put (k := 26) (i := 0) (fk := 28) (ci := 11) (N := 44) (T := TX13) (v := vi x) rfl (by simp [ent, sI]) (by decide) rfl rfl in_26 tyX13_ok nmX13 (by decide) rfl (Nat.le_of_ble_eq_true rfl) rfl rfl (by decide) (by decide) (by decide) hln d kk
theorem g_26_29 {index : Nat} (hln : Cond.fieldLink Y.1.cls index RX13 "soLong" "I" ∈ lw_good) (d : decode Y.2.1 pc = .ok (.getfield index, 3)) (kk : WQ Z Y I0 gr (pc + 3) lv (vi (I 26 0 29) :: st) I e κ) : WQ Z Y I0 gr pc lv (vr Z 26 0 :: st) I e κ :=
  wq_get (k := 26) (i := 0) (fk := 29) (ci := 11) (N := 44) (T := TX13) rfl (by decide) rfl rfl in_26 (by decide) rfl rfl hln d kk
theorem p_26_29 {index : Nat} {x : Int} {f : Mem → Option (α × Mem)} (hln : Cond.fieldLink Y.1.cls index RX13 "soLong" "I" ∈ lw_good) (d : decode Y.2.1 pc = .ok (.putfield index, 3)) (kk : ∀ J : Mem, WQ Z Y I0 gr (pc + 3) lv st J (f J) κ) : WQ Z Y I0 gr pc lv (vi x :: vr Z 26 0 :: st) I (ltI (sI I 26 0 29 x) f) κ :=
  wq_put (k := 26) (i := 0) (fk := 29) (ci := 11) (N := 44) (T := TX13) (v := vi x) rfl (by simp [ent, sI]) (by decide) rfl rfl in_26 tyX13_ok nmX13 (by decide) rfl (Nat.le_of_ble_eq_true rfl) rfl rfl (by decide) (by decide) (by decide) hln d kk
theorem g_26_30 {index : Nat} (hln : Cond.fieldLink Y.1.cls index RX13 "ruleMany" "I" ∈ lw_good) (d : decode Y.2.1 pc = .ok (.getfield index, 3)) (kk : WQ Z Y I0 gr (pc + 3) lv (vi (I 26 0 30) :: st) I e κ) : WQ Z Y I0 gr pc lv (vr Z 26 0 :: st) I e κ :=
  wq_get (k := 26) (i := 0) (fk := 30) (ci := 11) (N := 44) (T := TX13) rfl (by decide) rfl rfl in_26 (by decide) rfl rfl hln d kk
theorem p_26_30 {index : Nat} {x : Int} {f : Mem → Option (α × Mem)} (hln : Cond.fieldLink Y.1.cls index RX13 "ruleMany" "I" ∈ lw_good) (d : decode Y.2.1 pc = .ok (.putfield index, 3)) (kk : ∀ J : Mem, WQ Z Y I0 gr (pc + 3) lv st J (f J) κ) : WQ Z Y I0 gr pc lv (vi x :: vr Z 26 0 :: st) I (ltI (sI I 26 0 30 x) f) κ :=
  wq_put (k := 26) (i := 0) (fk := 30) (ci := 11) (N := 44) (T := TX13) (v := vi x) rfl (by simp [ent, sI]) (by decide) rfl rfl in_26 tyX13_ok nmX13 (by decide) rfl (Nat.le_of_ble_eq_true rfl) rfl rfl (by decide) (by decide) (by decide) hln d kk
theorem g_26_31 {index : Nat} (hln : Cond.fieldLink Y.1.cls index RX13 "ends" "Z" ∈ lw_good) (d : decode Y.2.1 pc = .ok (.getfield index, 3)) (kk : WQ Z Y I0 gr (pc + 3) lv (vi (I 26 0 31) :: st) I e κ) : WQ Z Y I0 gr pc lv (vr Z 26 0 :: st) I e κ :=
  wq_get (k := 26) (i := 0) (fk := 31) (ci := 11) (N := 44) (T := TX13) rfl (by decide) rfl rfl in_26 (by decide) rfl rfl hln d kk
theorem p_26_31 {index : Nat} {x : Int} {f : Mem → Option (α × Mem)} (hz : x = 0 ∨ x = 1) (hln : Cond.fieldLink Y.1.cls index RX13 "ends" "Z" ∈ lw_good) (d : decode Y.2.1 pc = .ok (.putfield index, 3)) (kk : ∀ J : Mem, WQ Z Y I0 gr (pc + 3) lv st J (f J) κ) : WQ Z Y I0 gr pc lv (vi x :: vr Z 26 0 :: st) I (ltI (sI I 26 0 31 x) f) κ :=
  wq_put (k := 26) (i := 0) (fk := 31) (ci := 11) (N := 44) (T := TX13) (v := vi x) rfl (by simp [ent, sI]) (by decide) rfl rfl in_26 tyX13_ok nmX13 (by decide) rfl (Nat.le_of_ble_eq_true rfl) (by rcases hz with rfl | rfl <;> rfl) (by rcases hz with rfl | rfl <;> rfl) (by decide) (by decide) (by decide) hln d kk
theorem g_26_32 {index : Nat} (hln : Cond.fieldLink Y.1.cls index RX13 "orders" "[I" ∈ lw_good) (d : decode Y.2.1 pc = .ok (.getfield index, 3)) (kk : WQ Z Y I0 gr (pc + 3) lv (vr Z 27 15 :: st) I e κ) : WQ Z Y I0 gr pc lv (vr Z 26 0 :: st) I e κ :=
  wq_get (k := 26) (i := 0) (fk := 32) (ci := 11) (N := 44) (T := TX13) rfl (by decide) rfl rfl in_26 (by decide) rfl rfl hln d kk
theorem g_26_33 {index : Nat} (hln : Cond.fieldLink Y.1.cls index RX13 "first" "[I" ∈ lw_good) (d : decode Y.2.1 pc = .ok (.getfield index, 3)) (kk : WQ Z Y I0 gr (pc + 3) lv (vr Z 27 16 :: st) I e κ) : WQ Z Y I0 gr pc lv (vr Z 26 0 :: st) I e κ :=
  wq_get (k := 26) (i := 0) (fk := 33) (ci := 11) (N := 44) (T := TX13) rfl (by decide) rfl rfl in_26 (by decide) rfl rfl hln d kk
theorem g_26_34 {index : Nat} (hln : Cond.fieldLink Y.1.cls index RX13 "second" "[I" ∈ lw_good) (d : decode Y.2.1 pc = .ok (.getfield index, 3)) (kk : WQ Z Y I0 gr (pc + 3) lv (vr Z 27 17 :: st) I e κ) : WQ Z Y I0 gr pc lv (vr Z 26 0 :: st) I e κ :=
  wq_get (k := 26) (i := 0) (fk := 34) (ci := 11) (N := 44) (T := TX13) rfl (by decide) rfl rfl in_26 (by decide) rfl rfl hln d kk
theorem g_26_35 {index : Nat} (hln : Cond.fieldLink Y.1.cls index RX13 "closers" "[I" ∈ lw_good) (d : decode Y.2.1 pc = .ok (.getfield index, 3)) (kk : WQ Z Y I0 gr (pc + 3) lv (vr Z 27 18 :: st) I e κ) : WQ Z Y I0 gr pc lv (vr Z 26 0 :: st) I e κ :=
  wq_get (k := 26) (i := 0) (fk := 35) (ci := 11) (N := 44) (T := TX13) rfl (by decide) rfl rfl in_26 (by decide) rfl rfl hln d kk
theorem g_26_36 {index : Nat} (hln : Cond.fieldLink Y.1.cls index RX13 "begun" "[I" ∈ lw_good) (d : decode Y.2.1 pc = .ok (.getfield index, 3)) (kk : WQ Z Y I0 gr (pc + 3) lv (vr Z 27 19 :: st) I e κ) : WQ Z Y I0 gr pc lv (vr Z 26 0 :: st) I e κ :=
  wq_get (k := 26) (i := 0) (fk := 36) (ci := 11) (N := 44) (T := TX13) rfl (by decide) rfl rfl in_26 (by decide) rfl rfl hln d kk
theorem g_26_37 {index : Nat} (hln : Cond.fieldLink Y.1.cls index RX13 "left" "[I" ∈ lw_good) (d : decode Y.2.1 pc = .ok (.getfield index, 3)) (kk : WQ Z Y I0 gr (pc + 3) lv (vr Z 27 20 :: st) I e κ) : WQ Z Y I0 gr pc lv (vr Z 26 0 :: st) I e κ :=
  wq_get (k := 26) (i := 0) (fk := 37) (ci := 11) (N := 44) (T := TX13) rfl (by decide) rfl rfl in_26 (by decide) rfl rfl hln d kk
theorem g_26_38 {index : Nat} (hln : Cond.fieldLink Y.1.cls index RX13 "lines" "I" ∈ lw_good) (d : decode Y.2.1 pc = .ok (.getfield index, 3)) (kk : WQ Z Y I0 gr (pc + 3) lv (vi (I 26 0 38) :: st) I e κ) : WQ Z Y I0 gr pc lv (vr Z 26 0 :: st) I e κ :=
  wq_get (k := 26) (i := 0) (fk := 38) (ci := 11) (N := 44) (T := TX13) rfl (by decide) rfl rfl in_26 (by decide) rfl rfl hln d kk
theorem p_26_38 {index : Nat} {x : Int} {f : Mem → Option (α × Mem)} (hln : Cond.fieldLink Y.1.cls index RX13 "lines" "I" ∈ lw_good) (d : decode Y.2.1 pc = .ok (.putfield index, 3)) (kk : ∀ J : Mem, WQ Z Y I0 gr (pc + 3) lv st J (f J) κ) : WQ Z Y I0 gr pc lv (vi x :: vr Z 26 0 :: st) I (ltI (sI I 26 0 38 x) f) κ :=
  wq_put (k := 26) (i := 0) (fk := 38) (ci := 11) (N := 44) (T := TX13) (v := vi x) rfl (by simp [ent, sI]) (by decide) rfl rfl in_26 tyX13_ok nmX13 (by decide) rfl (Nat.le_of_ble_eq_true rfl) rfl rfl (by decide) (by decide) (by decide) hln d kk
theorem g_26_39 {index : Nat} (hln : Cond.fieldLink Y.1.cls index RX13 "toldOrders" "I" ∈ lw_good) (d : decode Y.2.1 pc = .ok (.getfield index, 3)) (kk : WQ Z Y I0 gr (pc + 3) lv (vi (I 26 0 39) :: st) I e κ) : WQ Z Y I0 gr pc lv (vr Z 26 0 :: st) I e κ :=
  wq_get (k := 26) (i := 0) (fk := 39) (ci := 11) (N := 44) (T := TX13) rfl (by decide) rfl rfl in_26 (by decide) rfl rfl hln d kk
theorem p_26_39 {index : Nat} {x : Int} {f : Mem → Option (α × Mem)} (hln : Cond.fieldLink Y.1.cls index RX13 "toldOrders" "I" ∈ lw_good) (d : decode Y.2.1 pc = .ok (.putfield index, 3)) (kk : ∀ J : Mem, WQ Z Y I0 gr (pc + 3) lv st J (f J) κ) : WQ Z Y I0 gr pc lv (vi x :: vr Z 26 0 :: st) I (ltI (sI I 26 0 39 x) f) κ :=
  wq_put (k := 26) (i := 0) (fk := 39) (ci := 11) (N := 44) (T := TX13) (v := vi x) rfl (by simp [ent, sI]) (by decide) rfl rfl in_26 tyX13_ok nmX13 (by decide) rfl (Nat.le_of_ble_eq_true rfl) rfl rfl (by decide) (by decide) (by decide) hln d kk
theorem g_26_40 {index : Nat} (hln : Cond.fieldLink Y.1.cls index RX13 "opened" "I" ∈ lw_good) (d : decode Y.2.1 pc = .ok (.getfield index, 3)) (kk : WQ Z Y I0 gr (pc + 3) lv (vi (I 26 0 40) :: st) I e κ) : WQ Z Y I0 gr pc lv (vr Z 26 0 :: st) I e κ :=
  wq_get (k := 26) (i := 0) (fk := 40) (ci := 11) (N := 44) (T := TX13) rfl (by decide) rfl rfl in_26 (by decide) rfl rfl hln d kk
theorem p_26_40 {index : Nat} {x : Int} {f : Mem → Option (α × Mem)} (hln : Cond.fieldLink Y.1.cls index RX13 "opened" "I" ∈ lw_good) (d : decode Y.2.1 pc = .ok (.putfield index, 3)) (kk : ∀ J : Mem, WQ Z Y I0 gr (pc + 3) lv st J (f J) κ) : WQ Z Y I0 gr pc lv (vi x :: vr Z 26 0 :: st) I (ltI (sI I 26 0 40 x) f) κ :=
  wq_put (k := 26) (i := 0) (fk := 40) (ci := 11) (N := 44) (T := TX13) (v := vi x) rfl (by simp [ent, sI]) (by decide) rfl rfl in_26 tyX13_ok nmX13 (by decide) rfl (Nat.le_of_ble_eq_true rfl) rfl rfl (by decide) (by decide) (by decide) hln d kk
theorem g_26_41 {index : Nat} (hln : Cond.fieldLink Y.1.cls index RX13 "comes" "[I" ∈ lw_good) (d : decode Y.2.1 pc = .ok (.getfield index, 3)) (kk : WQ Z Y I0 gr (pc + 3) lv (vr Z 27 21 :: st) I e κ) : WQ Z Y I0 gr pc lv (vr Z 26 0 :: st) I e κ :=
  wq_get (k := 26) (i := 0) (fk := 41) (ci := 11) (N := 44) (T := TX13) rfl (by decide) rfl rfl in_26 (by decide) rfl rfl hln d kk
theorem g_26_42 {index : Nat} (hln : Cond.fieldLink Y.1.cls index RX13 "page" "[I" ∈ lw_good) (d : decode Y.2.1 pc = .ok (.getfield index, 3)) (kk : WQ Z Y I0 gr (pc + 3) lv (vr Z 27 22 :: st) I e κ) : WQ Z Y I0 gr pc lv (vr Z 26 0 :: st) I e κ :=
  wq_get (k := 26) (i := 0) (fk := 42) (ci := 11) (N := 44) (T := TX13) rfl (by decide) rfl rfl in_26 (by decide) rfl rfl hln d kk
theorem g_26_43 {index : Nat} (hln : Cond.fieldLink Y.1.cls index RX13 "pageMany" "I" ∈ lw_good) (d : decode Y.2.1 pc = .ok (.getfield index, 3)) (kk : WQ Z Y I0 gr (pc + 3) lv (vi (I 26 0 43) :: st) I e κ) : WQ Z Y I0 gr pc lv (vr Z 26 0 :: st) I e κ :=
  wq_get (k := 26) (i := 0) (fk := 43) (ci := 11) (N := 44) (T := TX13) rfl (by decide) rfl rfl in_26 (by decide) rfl rfl hln d kk
theorem p_26_43 {index : Nat} {x : Int} {f : Mem → Option (α × Mem)} (hln : Cond.fieldLink Y.1.cls index RX13 "pageMany" "I" ∈ lw_good) (d : decode Y.2.1 pc = .ok (.putfield index, 3)) (kk : ∀ J : Mem, WQ Z Y I0 gr (pc + 3) lv st J (f J) κ) : WQ Z Y I0 gr pc lv (vi x :: vr Z 26 0 :: st) I (ltI (sI I 26 0 43 x) f) κ :=
  wq_put (k := 26) (i := 0) (fk := 43) (ci := 11) (N := 44) (T := TX13) (v := vi x) rfl (by simp [ent, sI]) (by decide) rfl rfl in_26 tyX13_ok nmX13 (by decide) rfl (Nat.le_of_ble_eq_true rfl) rfl rfl (by decide) (by decide) (by decide) hln d kk
theorem mt_max_s : Cond.static Lib.Math.max.name ∈ lw_good := li_5 21 (by decide +kernel) (by decide +kernel)
theorem mt_max_c : Cond.code Lib.Math.max.name Lib.Math.max.code 2 (some .int) ∈ lw_good := li_5 22 (by decide +kernel) (by decide +kernel)
theorem mt_min_s : Cond.static Lib.Math.min.name ∈ lw_good := li_2 95 (by decide +kernel) (by decide +kernel)
theorem mt_min_c : Cond.code Lib.Math.min.name Lib.Math.min.code 2 (some .int) ∈ lw_good := li_2 96 (by decide +kernel) (by decide +kernel)
theorem mt_abs_s : Cond.static Lib.Math.abs.name ∈ lw_good := li_9 93 (by decide +kernel) (by decide +kernel)
theorem mt_abs_c : Cond.code Lib.Math.abs.name Lib.Math.abs.code 1 (some .int) ∈ lw_good := li_9 94 (by decide +kernel) (by decide +kernel)
theorem mt_i : Cond.initialized "java/lang/Math" ∈ lw_good := li_1 14 (by decide +kernel) (by decide +kernel)
end WRAP
end
section
/-! ===== arrays copied, rows and reports that grow ===== -/
section ACOPY
variable {p : Program} {l : Launch} {e : Env} {R : Room} {s : State} {m : MethodId} {args : Array Value} {below : List Frame} {meth : Method} {c : Code} {H : Heap} {locs : List Loc} {cells slots : Nat} {Q : State → Prop}
theorem W_acopy {cc : ByteArray} {pc : Nat} {ls : Array Slot} {rest : List Value} (hexec : p.tables.exec = Jvm.exec) (hb : c.code = cc) (hml : c.maxLocals = ls.size) {own : String} {index : Nat} (hown : s.vm.findClass own = some m.cls) (hlink : (Cond.methodLink own index arraycopyName).before args s = true) (hnat : (Cond.native arraycopyName).before args s = true) (hstat : (Cond.static arraycopyName).before args s = true) (hini : (Cond.initialized "java/lang/System").before args s = true)
    {a0 a : Nat} {c0 c1 : ClassId} {n0 n1 : Nat} {f g : Nat → Int32} {ty : FieldType} (hc0 : H[a0]? = some (vp_cell c0 (n0, .inl f))) (hc1 : H[a]? = some (vp_cell c1 (n1, .inl g))) (hA0 : ArrOfT s c0 ty) (hA1 : ArrOfT s c1 ty) (hprim : refKind ty = false)
    {sp dp n : Int32} (h1 : ¬ sp < 0) (h2 : ¬ dp < 0) (h3 : ¬ n < 0) (h4 : sp.toNatClampNeg + n.toNatClampNeg ≤ n0) (h5 : dp.toNatClampNeg + n.toNatClampNeg ≤ n1) (hfit : ∀ i, i < n.toNatClampNeg → fits ty (.int (f (sp.toNatClampNeg + i))) = true)
    (hframes : 1 ≤ R.frames) (hlocals : (rest.map fun v => v.category).sum + (nativeFrameWords "java/lang/System" "arraycopy" 5 + 11) ≤ R.locals) (hdg : decode cc pc = .ok (.invokestatic index, 3))
    (kk : ∀ (H1 : Heap) (L : List Loc), H1[a]? = some (vp_cell c1 (n1, .inl (va_cpy f g sp.toNatClampNeg dp.toNatClampNeg n.toNatClampNeg))) → H1.size = H.size → (∀ q : Nat, q ≠ a → H1[q]? = H[q]?) → (∀ q ∈ L, q.base = a) → W p l e R s m args below meth c H1 (locs ++ L) cells slots Q (F0 m (pc + 3) ls rest)) : W p l e R s m args below meth c H locs cells slots Q (F0 m pc ls (.int n :: .int dp :: .ref a :: .int sp :: .ref a0 :: rest)) := by
  have nn : ∀ z : Int32, ¬ z < 0 → z.toInt = (z.toNatClampNeg : Int) := by
    intro z hz
    have hz0 : (0 : Int) ≤ z.toInt := by
      have := Int32.not_lt.mp hz
      simpa using Int32.le_iff_toInt_le.mp this
    show z.toInt = ((z.toInt.toNat : Nat) : Int)
    omega
  intro T hT X
  obtain ⟨-, k0, hk0, cm0, hkk0⟩ := hA0 n0 (fun j => .int (f j))
  obtain ⟨-, k1, hk1, cm1, hkk1⟩ := hA1 n1 (fun j => .int (g j))
  obtain ⟨vm', X', step⟩ := X.arraycopy hexec hown hlink hnat hstat hini (src := a0) (dst := a) (cs := vp_cell c0 (n0, .inl f)) (cd := vp_cell c1 (n1, .inl g)) (srcPos := sp) (destPos := dp) (n := n) (by rw [hT]; exact hc0) (by rw [hT]; exact hc1)
    (fun _ h => by cases h) (fun _ h => by cases h) (fun h => by cases h) (fun h => by cases h) hk0 hk1 hkk0 hkk1 (by simp [hprim]) h1 h2 h3
    (by rw [nn sp h1, nn n h3]; show ¬ _ > ((arrV c0 n0 (fun j => .int (f j))).slots.size : Int); rw [arrV_size]; omega)
    (by rw [nn dp h2, nn n h3]; show ¬ _ > ((arrV c1 n1 (fun j => .int (g j))).slots.size : Int); rw [arrV_size]; omega)
    (fun vm₁ _ i hi => by
      have e : (vp_cell c0 (n0, .inl f)).slots.getD (sp.toNatClampNeg + i) .null = .int (f (sp.toNatClampNeg + i)) := by
        show (arrV c0 n0 (fun j => .int (f j))).slots.getD _ _ = _
        rw [Array.getD_eq_getD_getElem?, arrV_read _ _ (by omega)]
        rfl
      refine ⟨?_, ?_⟩
      · rw [e]
        exact hfit i hi
      · rw [e]
        exact trivial)
    (g := F0 m pc ls (.int n :: .int dp :: .ref a :: .int sp :: .ref a0 :: rest)) rfl (by rw [hml]) (rest := rest) rfl (by rw [hb]; exact hdg) hframes (by show 2 * 0 + _ + _ ≤ _; omega)
  have e1 : copied (vp_cell c0 (n0, .inl f)) (vp_cell c1 (n1, .inl g)) sp dp n = vp_cell c1 (n1, .inl (va_cpy f g sp.toNatClampNeg dp.toNatClampNeg n.toNatClampNeg)) := va_copied (fun z => .int z) c0 c1 f g h4
  rw [e1] at X' step
  have hl : a < H.size := (Array.getElem?_eq_some_iff.mp hc1).1
  have hheap : ((T.setVm vm').setCell a (vp_cell c1 (n1, .inl (va_cpy f g sp.toNatClampNeg dp.toNatClampNeg n.toNatClampNeg)))).heap = H.setIfInBounds a (vp_cell c1 (n1, .inl (va_cpy f g sp.toNatClampNeg dp.toNatClampNeg n.toNatClampNeg))) := by rw [← hT]; rfl
  obtain ⟨t, a1, b1⟩ := kk (H.setIfInBounds a (vp_cell c1 (n1, .inl (va_cpy f g sp.toNatClampNeg dp.toNatClampNeg n.toNatClampNeg)))) _ (by simp [Array.getElem?_setIfInBounds, hl]) (by simp) (fun q hq => by simp [Array.getElem?_setIfInBounds, Ne.symm hq]) (fun q hq => by
      obtain ⟨z, -, hz⟩ := List.mem_map.mp hq
      rw [← hz]) _ hheap X'
  exact ⟨t, step t a1, b1⟩
end ACOPY
/-- cells copied from one array of kind k to another -/
def cpI (I : Mem) (k i sp i' dp n : Nat) : Mem := fun k' j s => if k' = k ∧ j = i' ∧ dp ≤ s ∧ s < dp + n then I k i (sp + (s - dp)) else I k' j s
section GROW
variable {Z : ZT} {Y : YT} {I0 : Mem} {gr : Nat → Nat} {pc : Nat} {lv : List (Nat × Value)} {st : List Value} {I : Mem} {α : Type} {e : Option (α × Mem)} {κ : α → Mem → Option OT}
theorem w_nn {x x' : Int} (hx : w32 x = x') (h : 0 ≤ x') : ¬ Int32.ofInt x < 0 := by
  intro q
  have := (w_lt x 0).mp q
  rw [hx, w_0] at this; omega
theorem ac_room {rest : List Value} {h : Nat} (hw : (rest.map fun v => v.category).sum ≤ 8) (hh : 1 ≤ h) : (rest.map fun v => v.category).sum + (nativeFrameWords "java/lang/System" "arraycopy" 5 + 11) ≤ 35 * h := by
  have : nativeFrameWords "java/lang/System" "arraycopy" 5 = 7 := by decide
  omega
theorem ac_nat : Cond.native arraycopyName ∈ lw_good := li_2 99 (by decide +kernel) (by decide +kernel)
theorem ac_stat : Cond.static arraycopyName ∈ lw_good := li_2 98 (by decide +kernel) (by decide +kernel)
theorem ac_ini : Cond.initialized "java/lang/System" ∈ lw_good := li_1 15 (by decide +kernel) (by decide +kernel)
theorem wq_acopy {r r2 index : Nat} {sp dp n sp' dp' n' : Int} {f : Mem → Option (α × Mem)} (hr : r < 516) (hr2 : r2 < 516) (hsp : w32 sp = sp') (hdp : w32 dp = dp') (hn : w32 n = n') (hg : 0 ≤ sp' ∧ 0 ≤ dp' ∧ 0 ≤ n' ∧ sp' + n' ≤ I 2 r 2 ∧ dp' + n' ≤ I 2 r2 2) (hh : 1 ≤ Y.2.2.2.2) (hw : (st.map fun v => v.category).sum ≤ 8)
    (hln : Cond.methodLink Y.1.cls index arraycopyName ∈ lw_good) (d : decode Y.2.1 pc = .ok (.invokestatic index, 3)) (kk : ∀ J : Mem, WQ Z Y I0 gr (pc + 3) lv st J (f J) κ) : WQ Z Y I0 gr pc lv (vi n :: vi dp :: .ref (gr r2) :: vi sp :: .ref (gr r) :: st) I (ltI (cpI I 12 r sp'.toNat r2 dp'.toNat n'.toNat) f) κ := by
  refine WQ.mem (J := cpI I 12 r sp'.toNat r2 dp'.toNat n'.toNat) (fun s => if_neg (fun q => absurd q.1 (by decide))) (fun X B o H locs ls cells slots hH hlo hl k1 => ?_) (kk _)
  obtain ⟨g1, g2, g3, g4, g5⟩ := hg
  have hat0 : H[gr r]? = some (vp_cell (zC Z 0) ((I 2 r 2).toNat, .inl fun j => Int32.ofInt (I 12 r j))) := hH.at (k := 12) (i := r) hr
  have hat1 : H[gr r2]? = some (vp_cell (zC Z 0) ((I 2 r2 2).toNat, .inl fun j => Int32.ofInt (I 12 r2 j))) := hH.at (k := 12) (i := r2) hr2
  have hw1 := fun w (hw : w ∈ lw_good) => B.2.2.2.2.1 w hw
  have hA := (B.2.2.2.2.2.1.1.2 0 _ rfl).1
  refine W_acopy B.1 B.2.1 (B.2.2.1.trans hl.1.symm) B.2.2.2.1 (hw1 _ hln) (hw1 _ ac_nat) (hw1 _ ac_stat) (hw1 _ ac_ini) hat0 hat1 hA hA rfl (w_nn hsp g1) (w_nn hdp g2) (w_nn hn g3) (by rw [w_nat hsp, w_nat hn]; omega) (by rw [w_nat hdp, w_nat hn]; omega) (fun _ _ => rfl) hh (ac_room hw hh) d (fun H1 L e1 z oq hL => ?_)
  have hHn : HHA Z gr (cpI I 12 r sp'.toNat r2 dp'.toNat n'.toNat) H1 := by
    refine hH.upd (k := 12) (i := r2) hr2 z oq ?_ (fun k' i' hi' hne => ent_congr (fun s => if_neg (fun q => hne ⟨q.1, q.2.1⟩)) (fun _ => if_neg (fun q => absurd q.1 (by decide))) (fun _ => if_neg (fun q => absurd q.1 (by decide))))
    show H1[gr r2]? = some (vp_cell (zC Z 0) (((cpI I 12 r sp'.toNat r2 dp'.toNat n'.toNat) 2 r2 2).toNat, .inl fun j => Int32.ofInt ((cpI I 12 r sp'.toNat r2 dp'.toNat n'.toNat) 12 r2 j)))
    rw [e1, show (cpI I 12 r sp'.toNat r2 dp'.toNat n'.toNat) 2 r2 2 = I 2 r2 2 from if_neg (fun q => absurd q.1 (by decide))]
    congr 4
    funext q
    rw [w_nat hsp, w_nat hdp, w_nat hn]
    unfold va_cpy cpI
    by_cases hq : dp'.toNat ≤ q ∧ q < dp'.toNat + n'.toNat
    · rw [if_pos hq, if_pos ⟨rfl, rfl, hq⟩]
    · rw [if_neg hq, if_neg (fun z => hq z.2.2)]
  refine k1 H1 _ ls hHn (fun q hq => ?_) hl
  rcases List.mem_append.mp hq with h | h
  · exact hlo q h
  · rw [hL q h]; exact hH.2.2.1 12 r2 hr2
/-- the array of kind kc, number i, is a new one of n places, the first many as they were; its length stands at (ko, i, 2) -/
def grw (I : Mem) (kc ko i : Nat) (n many : Int) : Mem := fun k' i' s => if k' = kc ∧ i' = i then (if s < many.toNat then I kc i s else 0) else if k' = ko ∧ i' = i ∧ s = 2 then n else if k' = 30 ∧ i' = 0 ∧ s = 0 then I 30 0 0 + 1 else if k' = 30 ∧ i' = 0 ∧ s = 1 then I 30 0 1 + n else I k' i' s
end GROW
end
section
theorem ln_RX5_9 : Cond.fieldLink RX5 9 RX5 "cells" "[I" ∈ lw_good := li_1 50 (by decide +kernel) (by decide +kernel)
theorem ln_RX5_15 : Cond.fieldLink RX5 15 RX5 "many" "I" ∈ lw_good := li_1 51 (by decide +kernel) (by decide +kernel)
theorem ln_RX5_23 : Cond.methodLink RX5 23 arraycopyName ∈ lw_good := li_2 97 (by decide +kernel) (by decide +kernel)
theorem ln_RX4_9 : Cond.fieldLink RX4 9 RX4 "bytes" "[B" ∈ lw_good := li_2 66 (by decide +kernel) (by decide +kernel)
theorem ln_RX4_15 : Cond.fieldLink RX4 15 RX4 "many" "I" ∈ lw_good := li_2 67 (by decide +kernel) (by decide +kernel)
theorem ln_RX4_54 : Cond.methodLink RX4 54 arraycopyName ∈ lw_good := li_5 115 (by decide +kernel) (by decide +kernel)
theorem fit_b {x : Int} (h : -128 ≤ x ∧ x < 128) : fits .byte (.int (Int32.ofInt x)) = true := by
  obtain ⟨h1, h2⟩ := h
  have h3 : x = ((x + 128).toNat : Int) - 128 := by omega
  rw [h3]
  exact (by decide +kernel : ∀ k : Nat, k < 256 → fits .byte (.int (Int32.ofInt ((k : Int) - 128))) = true) _ (by omega)
theorem stl_ref {j a b : Nat} {lv lv' : List (Nat × Value)} (h : stl j (.ref a) lv = (j, .ref a) :: lv') : stl j (.ref b) lv = (j, .ref b) :: lv' := by
  unfold stl at h ⊢
  exact congrArg (fun z => (j, Value.ref b) :: z) (List.cons.inj h).2
theorem lv_tl {ls : Array Slot} {n : Nat} {q : Nat × Value} {lv : List (Nat × Value)} (h : lv_has ls n (q :: lv)) : lv_has ls n lv := ⟨h.1, h.2.1, fun z hz => h.2.2 z (List.mem_cons_of_mem _ hz)⟩
section GROW2
variable {Z : ZT} {Y : YT} {I0 : Mem} {gr : Nat → Nat} {pc : Nat} {lv : List (Nat × Value)} {st : List Value} {I : Mem} {α : Type} {e : Option (α × Mem)} {κ : α → Mem → Option OT}

/-- a new array in the place of a row's: from the making of it to behind the store -/
theorem wq_growR {r : Nat} {h : Nat} {n n' m' : Int} {lv' : List (Nat × Value)} {f : Mem → Option (α × Mem)} (hr : r < 516) (hY : Y = (yX5_makeRoom, cX5_makeRoom, 4, some .boolean, h)) (hh : 1 ≤ h) (h0 : lv[0]? = some (0, vr Z 2 r)) (hl' : stl 3 (.ref 0) lv = (3, .ref 0) :: lv') (hl0 : lv'[0]? = some (0, vr Z 2 r)) (hn : w32 n = n') (hm : w32 (I 2 r 1) = m') (hg : 0 ≤ n' ∧ n' ≤ 262144 ∧ 0 ≤ m' ∧ m' ≤ I 2 r 2 ∧ m' ≤ n')
    (kk : ∀ (gr' : Nat → Nat) (J : Mem), WQ Z Y I0 gr' 73 lv' [] J (f J) κ) : WQ Z Y I0 gr 51 lv [vi n] I (ltI (grw I 12 2 r n' m') f) κ := by
  subst hY
  intro o ho
  obtain ⟨J, hJ⟩ : ∃ J, J = grw I 12 2 r n' m' := ⟨_, rfl⟩
  have hk := fun gr' => kk gr' J o (by rw [hJ]; exact ho)
  obtain ⟨g1, g2, g3, g4, g5⟩ := hg
  have hJc : J 30 0 0 = I 30 0 0 + 1 := by rw [hJ]; rfl
  have hJs : J 30 0 1 = I 30 0 1 + n' := by rw [hJ]; rfl
  have hc1 : cle I J := ⟨by omega, by omega⟩
  have hc2 := (hk gr).1
  refine ⟨hc1.trans hc2, fun X B hcl H locs ls hH hlo hl => ?_⟩
  have hroom : dC I0 I + 1 = dC I0 J ∧ dS I0 I + n'.toNat = dS I0 J ∧ dC I0 J ≤ dC I0 o.2 ∧ dS I0 J ≤ dS I0 o.2 := by
    unfold dC dS
    obtain ⟨q1, q2⟩ := hcl
    obtain ⟨q3, q4⟩ := hc2
    refine ⟨?_, ?_, ?_, ?_⟩ <;> omega
  obtain ⟨r1, r2, r3, r4⟩ := hroom
  have hw1 := fun w (hw : w ∈ lw_good) => B.2.2.2.2.1 w hw
  have hK := B.2.2.2.2.2.1.1
  have hnn := w_nn hn g1
  have hob := hH.at (k := 2) (i := r) hr
  have hcc : H[gr r]? = some (vp_cell (zC Z 0) ((I 2 r 2).toNat, .inl fun j => Int32.ofInt (I 12 r j))) := hH.at (k := 12) (i := r) hr
  refine va_newaK (atype := .int) B.1 B.2.1 (hw1 _ (li_1 57 (by decide +kernel) (by decide +kernel))) rfl dX5_makeRoom_51 rfl hnn (w_nat hn) (by show n'.toNat * 4 ≤ _; omega) (by show dC I0 I + 1 ≤ dC I0 o.2; omega) (by show dS I0 I + n'.toNat ≤ dS I0 o.2; omega) rfl (fun H1 cA e1 z1 o1 hAr hNm => ?_)
  have hcA : cA = zC Z 0 := Option.some.inj (hNm.symm.trans (hK.2 0 _ rfl).2)
  subst hcA
  obtain ⟨a, ha⟩ : ∃ a : Nat, a = H.size := ⟨_, rfl⟩
  rw [← ha] at e1 z1 o1 ⊢
  have hat1 : va_at (zD Z) cls (zA Z 2 r, .inr (2, [.ref (gr r), vi (I 2 r 1)])) H1 := by
    have q : va_at (zD Z) cls (zA Z 2 r, .inr (2, [.ref (gr r), vi (I 2 r 1)])) H := hob
    exact q.kept (o1 _ (by rw [ha]; exact hob.lt))
  have hl1 : lv_has ls 4 lv := hl
  refine lv_astore_n (lv' := (3, .ref a) :: lv') B.1 B.2.1 dX5_makeRoom_53 rfl hl1 (by decide) (stl_ref hl') (fun ls hl => ?_)
  refine lv_aload_n B.1 B.2.1 dX5_makeRoom_54 rfl (lv_at hl 1 hl0) ?_
  refine va_get (C := RX5) (T := TX5) (N := 2) (ci := 2) (Ts := lw_good) B.1 B.2.1 hw1 in_2 B.2.2.2.1 hK (va_P1 hat1) 0 rfl rfl 0 (by decide) (ref := RX5) (hw1 _ ln_RX5_9) (fun x hx => hx) rfl dX5_makeRoom_55 ?_
  refine lv_iconst (v := Int32.ofInt 0) B.1 B.2.1 dX5_makeRoom_58 rfl ?_
  refine lv_aload_n B.1 B.2.1 dX5_makeRoom_59 rfl (lv_at hl 0 rfl) ?_
  refine lv_iconst (v := Int32.ofInt 0) B.1 B.2.1 dX5_makeRoom_60 rfl ?_
  refine lv_aload_n B.1 B.2.1 dX5_makeRoom_61 rfl (lv_at hl 1 hl0) ?_
  refine va_get (C := RX5) (T := TX5) (N := 2) (ci := 2) (Ts := lw_good) B.1 B.2.1 hw1 in_2 B.2.2.2.1 hK (va_P1 hat1) 0 rfl rfl 1 (by decide) (ref := RX5) (hw1 _ ln_RX5_15) (fun x hx => hx) rfl dX5_makeRoom_62 ?_
  have hne : ∀ k i : Nat, i < ksz k → adG Z gr k i ≠ a := fun k i hi q => by have := (hH.at hi).lt; rw [q, ha] at this; exact Nat.lt_irrefl _ this
  have hgne : gr r ≠ a := hne 12 r hr
  have hc0 : H1[gr r]? = some (vp_cell (zC Z 0) ((I 2 r 2).toNat, .inl fun j => Int32.ofInt (I 12 r j))) := (o1 _ (by rw [ha]; exact (hH.at (k := 12) (i := r) hr).lt)).trans hcc
  have hca : H1[a]? = some (vp_cell (zC Z 0) (n'.toNat, .inl fun _ => Int32.ofInt 0)) := e1
  have hz0 : (Int32.ofInt 0).toNatClampNeg = 0 := by decide
  have hA := (hK.2 0 _ rfl).1
  refine W_acopy B.1 B.2.1 (B.2.2.1.trans hl.1.symm) B.2.2.2.1 (hw1 _ ln_RX5_23) (hw1 _ ac_nat) (hw1 _ ac_stat) (hw1 _ ac_ini) hc0 hca hA hA rfl (by decide) (by decide) (w_nn hm g3) (by rw [hz0, w_nat hm]; omega) (by rw [hz0, w_nat hm]; omega) (fun _ _ => rfl) hh (ac_room (Nat.zero_le _) hh) dX5_makeRoom_65 (fun H2 L e2 z2 o2 hL => ?_)
  have hat2 : va_at (zD Z) cls (zA Z 2 r, .inr (2, [.ref (gr r), vi (I 2 r 1)])) H2 := hat1.kept (o2 _ (hne 2 r hr))
  refine lv_aload_n B.1 B.2.1 dX5_makeRoom_68 rfl (lv_at hl 1 hl0) ?_
  refine lv_aload_n B.1 B.2.1 dX5_makeRoom_69 rfl (lv_at hl 0 rfl) ?_
  -- the store
  have hap := va_apart (own := RX5) hw1 in_2 tyX5 tyX5_ok nmX5 hK (ci := 2) rfl
  obtain ⟨rr, h1, cell, q1, q2, q3, q4⟩ := hat2
  have hr9 : rr = (RX5, TX5, 2) := Option.some.inj (h1.symm.trans rfl)
  subst hr9
  obtain ⟨hS, hfc, kC, hkC, hkind⟩ := hK.1 2 _ rfl
  obtain ⟨cf, kf, fi, fl, hif, hsl⟩ := hS 0 (by decide)
  have hlay := hw1 _ (in_2 _ (u_in_lay (k := 0) (by decide)))
  unfold u_lay at hlay
  rw [if_neg (by decide)] at hlay
  have hst := (u_facts hfc hkC (u_lays hw1 in_2 (k := 0) (by decide)) hif).1
  have h6 := u_store (v := .ref a) hfc hkC hkind hlay hif (tyX5_ok 0 (by decide)) rfl rfl
  refine W.putK B.1 B.2.1 (f := fl) (ref := RX5) ⟨B.2.2.2.1, hw1 _ ln_RX5_9, ⟨_, _, _, hif⟩, hst⟩ (by rw [q2]; exact h6) q1 q3 (by rw [hsl]; exact k2_hasslot (q4 0 (by decide))) rfl rfl dX5_makeRoom_70 fun H3 p1 p2 p3 => ?_
  rw [hsl] at p1 ⊢
  have hat3 : va_at (zD Z) cls (zA Z 2 r, .inr (2, [.ref a, vi (I 2 r 1)])) H3 :=
    ⟨_, rfl, t_OB.to (V := updV (vp_V [.ref (gr r), vi (I 2 r 1)]) 0 (.ref a)) ⟨_, p1, q2, q3, t_set q4 hap (by decide) (.ref a)⟩ (fun j _ => vp_updV_set (k := 0) (Nat.le_of_ble_eq_true rfl) (.ref a) j)⟩
  have haB : zB Z ≤ a := by rw [ha]; exact hH.1.2.1
  have hoa : zA Z 2 r ≠ a := hne 2 r hr
  obtain ⟨gr', hgr1, hgr2⟩ : ∃ gr' : Nat → Nat, gr' r = a ∧ ∀ x : Nat, x ≠ r → gr' x = gr x := ⟨fun x => if x = r then a else gr x, if_pos rfl, fun x hx => if_neg hx⟩
  have hHn : HHA Z gr' J H3 := by
    obtain ⟨⟨b1, b2, b3⟩, b4, b5, b6⟩ := hH
    have hadr : ∀ k i : Nat, i < ksz k → ¬ (k = 12 ∧ i = r) → adG Z gr' k i = adG Z gr k i := fun k i hi q => by
      unfold adG
      by_cases h12 : k = 12
      · rw [if_pos h12, if_pos h12]
        rw [h12] at hi
        have hi : i < 516 := hi
        exact hgr2 i (by exact fun e => q ⟨h12, e⟩)
      · rw [if_neg h12, if_neg h12]
        by_cases h25 : k = 25
        · rw [if_pos h25, if_pos h25]
          rw [h25] at hi
          have hi : i < 1 := hi
          exact hgr2 516 (by omega)
        · rw [if_neg h25, if_neg h25]
    have hadc : adG Z gr' 12 r = a := hgr1
    refine ⟨⟨b1, by rw [p2, z2, z1, ha]; omega, fun q hq => ?_⟩, ?_, ?_, ?_⟩
    · have hqo : q ≠ zA Z 2 r := fun e => by
        have h9 : zB Z ≤ zA Z 2 r := b5 2 r hr
        omega
      rw [p3 q hqo, o2 q (by omega), o1 q (by omega), b3 q hq]
    · intro k i k' i' hi hi' he
      by_cases hq : k = 12 ∧ i = r
      · by_cases hq' : k' = 12 ∧ i' = r
        · exact ⟨hq.1.trans hq'.1.symm, hq.2.trans hq'.2.symm⟩
        · rw [hq.1, hq.2, hadc, hadr k' i' hi' hq'] at he
          exact absurd he.symm (hne k' i' hi')
      · by_cases hq' : k' = 12 ∧ i' = r
        · rw [hq'.1, hq'.2, hadc, hadr k i hi hq] at he
          exact absurd he (hne k i hi)
        · rw [hadr k i hi hq, hadr k' i' hi' hq'] at he
          exact b4 k i k' i' hi hi' he
    · intro k i hi
      by_cases hq : k = 12 ∧ i = r
      · rw [hq.1, hq.2, hadc]; exact haB
      · rw [hadr k i hi hq]; exact b5 k i hi
    · intro k i hi
      by_cases hq : k = 12 ∧ i = r
      · rw [hq.1, hq.2, hadc]
        show H3[a]? = some (vp_cell (zC Z 0) ((J 2 r 2).toNat, .inl fun j => Int32.ofInt (J 12 r j)))
        rw [p3 a (Ne.symm hoa), e2]
        have x1 : J 2 r 2 = n' := by rw [hJ]; unfold grw; rw [if_neg (fun q => absurd q.1 (by decide)), if_pos ⟨rfl, rfl, rfl⟩]
        rw [x1]
        congr 4
        funext q
        rw [hz0, w_nat hm, hJ]
        unfold va_cpy grw
        by_cases hq : q < m'.toNat
        · rw [if_pos (show 0 ≤ q ∧ q < 0 + m'.toNat from ⟨Nat.zero_le _, by omega⟩), if_pos ⟨rfl, rfl⟩, if_pos hq]
          show Int32.ofInt (I 12 r (0 + (q - 0))) = _
          rw [Nat.zero_add, Nat.sub_zero]
        · rw [if_neg (fun z => hq (by omega)), if_pos ⟨rfl, rfl⟩, if_neg hq]
      · by_cases hq2 : k = 2 ∧ i = r
        · have x1 : J 2 r 1 = I 2 r 1 := by rw [hJ]; unfold grw; rw [if_neg (fun q => absurd q.1 (by decide)), if_neg (fun q => absurd q.2.2 (by decide)), if_neg (fun q => absurd q.1 (by decide)), if_neg (fun q => absurd q.1 (by decide))]
          have x2 : ent Z gr' J 2 r = .inr (2, [.ref a, vi (I 2 r 1)]) := by
            show (.inr (2, [.ref (gr' r), vi (J 2 r 1)]) : va_E) = _
            rw [hgr1, x1]
          rw [hq2.1, hq2.2, x2]
          exact hat3
        · have h30 : k ≠ 30 := fun q => by rw [q] at hi; exact absurd hi (by simp [ksz])
          have x3 : ∀ s : Nat, J k i s = I k i s := fun s => by
            rw [hJ]; unfold grw; rw [if_neg hq, if_neg (fun q => hq2 ⟨q.1, q.2.1⟩), if_neg (fun q => h30 q.1), if_neg (fun q => h30 q.1)]
          have x4 : ∀ i' : Nat, ¬ (2 = 2 ∧ i' = r) → J 2 i' 2 = I 2 i' 2 := fun i' h => by
            rw [hJ]; unfold grw; rw [if_neg (fun q => absurd q.1 (by decide)), if_neg (fun q => h ⟨q.1.symm, q.2.1⟩), if_neg (fun q => absurd q.1 (by decide)), if_neg (fun q => absurd q.1 (by decide))]
          have x5 : ¬ (2 = 10) → J 10 0 2 = I 10 0 2 := fun h => by
            rw [hJ]; unfold grw; rw [if_neg (fun q => absurd q.1 (by decide)), if_neg (fun q => h q.1.symm), if_neg (fun q => absurd q.1 (by decide)), if_neg (fun q => absurd q.1 (by decide))]
          have x6 : ent Z gr' J k i = ent Z gr J k i := by
            by_cases h2 : k = 2
            · subst h2
              have hi9 : i < 516 := hi
              show (.inr (2, [.ref (gr' i), vi (J 2 i 1)]) : va_E) = .inr (2, [.ref (gr i), vi (J 2 i 1)])
              rw [hgr2 i (by exact fun e => hq2 ⟨rfl, e⟩)]
            · by_cases h10 : k = 10
              · subst h10
                have hi9 : i < 1 := hi
                show (.inr (10, [.ref (gr' 516), vi (J 10 i 1)]) : va_E) = .inr (10, [.ref (gr 516), vi (J 10 i 1)])
                rw [hgr2 516 (by omega)]
              · unfold ent
                split <;> first | rfl | exact absurd rfl h2 | exact absurd rfl h10
          have x7 : ent Z gr J k i = ent Z gr I k i := ent_congr x3 (fun h12 => x4 i (fun q => hq ⟨h12, q.2⟩)) (fun h25 => x5 (by decide))
          rw [x6, x7, hadr k i hi hq]
          have hlt := (b6 k i hi).lt
          exact (b6 k i hi).kept ((p3 _ (fun q => hq2 (b4 k i 2 r hi hr q))).trans ((o2 _ (hne k i hi)).trans (o1 _ (by rw [ha]; exact hlt))))
  have hfin := (hk gr').2 X B (hcl.trans hc1) H3 ((locs ++ L) ++ [⟨zA Z 2 r, (zD Z).2 2 0⟩]) ls hHn ?_ (lv_tl hl)
  · rw [← r1, ← r2] at hfin
    exact hfin
  · intro q hq
    rcases List.mem_append.mp hq with h | h
    · rcases List.mem_append.mp h with h | h
      · exact hlo q h
      · rw [hL q h]; exact haB
    · cases List.mem_singleton.mp h
      exact hH.2.2.1 2 r hr

/-- a new array in the place of the report's: from the making of it to behind the store -/
theorem wq_growB {h : Nat} {n n' m' : Int} {lv' : List (Nat × Value)} {f : Mem → Option (α × Mem)} (hY : Y = (yX4_put, cX4_put, 3, none, h)) (hh : 1 ≤ h) (h0 : lv[0]? = some (0, vr Z 10 0)) (hl' : stl 2 (.ref 0) lv = (2, .ref 0) :: lv') (hl0 : lv'[0]? = some (0, vr Z 10 0)) (hn : w32 n = n') (hm : w32 (I 10 0 1) = m') (hg : 0 ≤ n' ∧ n' ≤ 262144 ∧ 0 ≤ m' ∧ m' ≤ I 10 0 2 ∧ m' ≤ n' ∧ ∀ s : Nat, s < m'.toNat → -128 ≤ I 25 0 s ∧ I 25 0 s < 128)
    (kk : ∀ (gr' : Nat → Nat) (J : Mem), WQ Z Y I0 gr' 51 lv' [] J (f J) κ) : WQ Z Y I0 gr 29 lv [vi n] I (ltI (grw I 25 10 0 n' m') f) κ := by
  subst hY
  intro o ho
  obtain ⟨J, hJ⟩ : ∃ J, J = grw I 25 10 0 n' m' := ⟨_, rfl⟩
  have hk := fun gr' => kk gr' J o (by rw [hJ]; exact ho)
  obtain ⟨g1, g2, g3, g4, g5, g6⟩ := hg
  have hJc : J 30 0 0 = I 30 0 0 + 1 := by rw [hJ]; rfl
  have hJs : J 30 0 1 = I 30 0 1 + n' := by rw [hJ]; rfl
  have hc1 : cle I J := ⟨by omega, by omega⟩
  have hc2 := (hk gr).1
  refine ⟨hc1.trans hc2, fun X B hcl H locs ls hH hlo hl => ?_⟩
  have hroom : dC I0 I + 1 = dC I0 J ∧ dS I0 I + n'.toNat = dS I0 J ∧ dC I0 J ≤ dC I0 o.2 ∧ dS I0 J ≤ dS I0 o.2 := by
    unfold dC dS
    obtain ⟨q1, q2⟩ := hcl
    obtain ⟨q3, q4⟩ := hc2
    refine ⟨?_, ?_, ?_, ?_⟩ <;> omega
  obtain ⟨r1, r2, r3, r4⟩ := hroom
  have hw1 := fun w (hw : w ∈ lw_good) => B.2.2.2.2.1 w hw
  have hK := B.2.2.2.2.2.1.1
  have hnn := w_nn hn g1
  have hob := hH.at (k := 10) (i := 0) (by decide)
  have hcc : H[gr 516]? = some (vp_cell (zC Z 2) ((I 10 0 2).toNat, .inl fun j => Int32.ofInt (I 25 0 j))) := hH.at (k := 25) (i := 0) (by decide)
  refine va_newaK (atype := .byte) B.1 B.2.1 (hw1 _ (li_2 73 (by decide +kernel) (by decide +kernel))) rfl dX4_put_29 rfl hnn (w_nat hn) (by show n'.toNat * 1 ≤ _; omega) (by show dC I0 I + 1 ≤ dC I0 o.2; omega) (by show dS I0 I + n'.toNat ≤ dS I0 o.2; omega) rfl (fun H1 cA e1 z1 o1 hAr hNm => ?_)
  have hcA : cA = zC Z 2 := Option.some.inj (hNm.symm.trans (hK.2 2 _ rfl).2)
  subst hcA
  obtain ⟨a, ha⟩ : ∃ a : Nat, a = H.size := ⟨_, rfl⟩
  rw [← ha] at e1 z1 o1 ⊢
  have hat1 : va_at (zD Z) cls (zA Z 10 0, .inr (10, [.ref (gr 516), vi (I 10 0 1)])) H1 := by
    have q : va_at (zD Z) cls (zA Z 10 0, .inr (10, [.ref (gr 516), vi (I 10 0 1)])) H := hob
    exact q.kept (o1 _ (by rw [ha]; exact hob.lt))
  have hl1 : lv_has ls 3 lv := hl
  refine lv_astore_n (lv' := (2, .ref a) :: lv') B.1 B.2.1 dX4_put_31 rfl hl1 (by decide) (stl_ref hl') (fun ls hl => ?_)
  refine lv_aload_n B.1 B.2.1 dX4_put_32 rfl (lv_at hl 1 hl0) ?_
  refine va_get (C := RX4) (T := TX4) (N := 2) (ci := 10) (Ts := lw_good) B.1 B.2.1 hw1 in_10 B.2.2.2.1 hK (va_P1 hat1) 0 rfl rfl 0 (by decide) (ref := RX4) (hw1 _ ln_RX4_9) (fun x hx => hx) rfl dX4_put_33 ?_
  refine lv_iconst (v := Int32.ofInt 0) B.1 B.2.1 dX4_put_36 rfl ?_
  refine lv_aload_n B.1 B.2.1 dX4_put_37 rfl (lv_at hl 0 rfl) ?_
  refine lv_iconst (v := Int32.ofInt 0) B.1 B.2.1 dX4_put_38 rfl ?_
  refine lv_aload_n B.1 B.2.1 dX4_put_39 rfl (lv_at hl 1 hl0) ?_
  refine va_get (C := RX4) (T := TX4) (N := 2) (ci := 10) (Ts := lw_good) B.1 B.2.1 hw1 in_10 B.2.2.2.1 hK (va_P1 hat1) 0 rfl rfl 1 (by decide) (ref := RX4) (hw1 _ ln_RX4_15) (fun x hx => hx) rfl dX4_put_40 ?_
  have hne : ∀ k i : Nat, i < ksz k → adG Z gr k i ≠ a := fun k i hi q => by have := (hH.at hi).lt; rw [q, ha] at this; exact Nat.lt_irrefl _ this
  have hgne : gr 516 ≠ a := hne 25 0 (by decide)
  have hc0 : H1[gr 516]? = some (vp_cell (zC Z 2) ((I 10 0 2).toNat, .inl fun j => Int32.ofInt (I 25 0 j))) := (o1 _ (by rw [ha]; exact (hH.at (k := 25) (i := 0) (by decide)).lt)).trans hcc
  have hca : H1[a]? = some (vp_cell (zC Z 2) (n'.toNat, .inl fun _ => Int32.ofInt 0)) := e1
  have hz0 : (Int32.ofInt 0).toNatClampNeg = 0 := by decide
  have hA := (hK.2 2 _ rfl).1
  refine W_acopy B.1 B.2.1 (B.2.2.1.trans hl.1.symm) B.2.2.2.1 (hw1 _ ln_RX4_54) (hw1 _ ac_nat) (hw1 _ ac_stat) (hw1 _ ac_ini) hc0 hca hA hA rfl (by decide) (by decide) (w_nn hm g3) (by rw [hz0, w_nat hm]; omega) (by rw [hz0, w_nat hm]; omega) (fun i hi => by rw [hz0, Nat.zero_add]; exact fit_b (g6 i (by rw [w_nat hm] at hi; exact hi))) hh (ac_room (Nat.zero_le _) hh) dX4_put_43 (fun H2 L e2 z2 o2 hL => ?_)
  have hat2 : va_at (zD Z) cls (zA Z 10 0, .inr (10, [.ref (gr 516), vi (I 10 0 1)])) H2 := hat1.kept (o2 _ (hne 10 0 (by decide)))
  refine lv_aload_n B.1 B.2.1 dX4_put_46 rfl (lv_at hl 1 hl0) ?_
  refine lv_aload_n B.1 B.2.1 dX4_put_47 rfl (lv_at hl 0 rfl) ?_
  -- the store
  have hap := va_apart (own := RX4) hw1 in_10 tyX4 tyX4_ok nmX4 hK (ci := 10) rfl
  obtain ⟨rr, h1, cell, q1, q2, q3, q4⟩ := hat2
  have hr9 : rr = (RX4, TX4, 2) := Option.some.inj (h1.symm.trans rfl)
  subst hr9
  obtain ⟨hS, hfc, kC, hkC, hkind⟩ := hK.1 10 _ rfl
  obtain ⟨cf, kf, fi, fl, hif, hsl⟩ := hS 0 (by decide)
  have hlay := hw1 _ (in_10 _ (u_in_lay (k := 0) (by decide)))
  unfold u_lay at hlay
  rw [if_neg (by decide)] at hlay
  have hst := (u_facts hfc hkC (u_lays hw1 in_10 (k := 0) (by decide)) hif).1
  have h6 := u_store (v := .ref a) hfc hkC hkind hlay hif (tyX4_ok 0 (by decide)) rfl rfl
  refine W.putK B.1 B.2.1 (f := fl) (ref := RX4) ⟨B.2.2.2.1, hw1 _ ln_RX4_9, ⟨_, _, _, hif⟩, hst⟩ (by rw [q2]; exact h6) q1 q3 (by rw [hsl]; exact k2_hasslot (q4 0 (by decide))) rfl rfl dX4_put_48 fun H3 p1 p2 p3 => ?_
  rw [hsl] at p1 ⊢
  have hat3 : va_at (zD Z) cls (zA Z 10 0, .inr (10, [.ref a, vi (I 10 0 1)])) H3 :=
    ⟨_, rfl, t_OB.to (V := updV (vp_V [.ref (gr 516), vi (I 10 0 1)]) 0 (.ref a)) ⟨_, p1, q2, q3, t_set q4 hap (by decide) (.ref a)⟩ (fun j _ => vp_updV_set (k := 0) (Nat.le_of_ble_eq_true rfl) (.ref a) j)⟩
  have haB : zB Z ≤ a := by rw [ha]; exact hH.1.2.1
  have hoa : zA Z 10 0 ≠ a := hne 10 0 (by decide)
  obtain ⟨gr', hgr1, hgr2⟩ : ∃ gr' : Nat → Nat, gr' 516 = a ∧ ∀ x : Nat, x ≠ 516 → gr' x = gr x := ⟨fun x => if x = 516 then a else gr x, if_pos rfl, fun x hx => if_neg hx⟩
  have hHn : HHA Z gr' J H3 := by
    obtain ⟨⟨b1, b2, b3⟩, b4, b5, b6⟩ := hH
    have hadr : ∀ k i : Nat, i < ksz k → ¬ (k = 25 ∧ i = 0) → adG Z gr' k i = adG Z gr k i := fun k i hi q => by
      unfold adG
      by_cases h12 : k = 12
      · rw [if_pos h12, if_pos h12]
        rw [h12] at hi
        have hi : i < 516 := hi
        exact hgr2 i (by omega)
      · rw [if_neg h12, if_neg h12]
        by_cases h25 : k = 25
        · rw [if_pos h25, if_pos h25]
          rw [h25] at hi
          have hi : i < 1 := hi
          exact absurd (Nat.lt_one_iff.mp hi) (fun e => q ⟨h25, e⟩)
        · rw [if_neg h25, if_neg h25]
    have hadc : adG Z gr' 25 0 = a := hgr1
    refine ⟨⟨b1, by rw [p2, z2, z1, ha]; omega, fun q hq => ?_⟩, ?_, ?_, ?_⟩
    · have hqo : q ≠ zA Z 10 0 := fun e => by
        have h9 : zB Z ≤ zA Z 10 0 := b5 10 0 (by decide)
        omega
      rw [p3 q hqo, o2 q (by omega), o1 q (by omega), b3 q hq]
    · intro k i k' i' hi hi' he
      by_cases hq : k = 25 ∧ i = 0
      · by_cases hq' : k' = 25 ∧ i' = 0
        · exact ⟨hq.1.trans hq'.1.symm, hq.2.trans hq'.2.symm⟩
        · rw [hq.1, hq.2, hadc, hadr k' i' hi' hq'] at he
          exact absurd he.symm (hne k' i' hi')
      · by_cases hq' : k' = 25 ∧ i' = 0
        · rw [hq'.1, hq'.2, hadc, hadr k i hi hq] at he
          exact absurd he (hne k i hi)
        · rw [hadr k i hi hq, hadr k' i' hi' hq'] at he
          exact b4 k i k' i' hi hi' he
    · intro k i hi
      by_cases hq : k = 25 ∧ i = 0
      · rw [hq.1, hq.2, hadc]; exact haB
      · rw [hadr k i hi hq]; exact b5 k i hi
    · intro k i hi
      by_cases hq : k = 25 ∧ i = 0
      · rw [hq.1, hq.2, hadc]
        show H3[a]? = some (vp_cell (zC Z 2) ((J 10 0 2).toNat, .inl fun j => Int32.ofInt (J 25 0 j)))
        rw [p3 a (Ne.symm hoa), e2]
        have x1 : J 10 0 2 = n' := by rw [hJ]; unfold grw; rw [if_neg (fun q => absurd q.1 (by decide)), if_pos ⟨rfl, rfl, rfl⟩]
        rw [x1]
        congr 4
        funext q
        rw [hz0, w_nat hm, hJ]
        unfold va_cpy grw
        by_cases hq : q < m'.toNat
        · rw [if_pos (show 0 ≤ q ∧ q < 0 + m'.toNat from ⟨Nat.zero_le _, by omega⟩), if_pos ⟨rfl, rfl⟩, if_pos hq]
          show Int32.ofInt (I 25 0 (0 + (q - 0))) = _
          rw [Nat.zero_add, Nat.sub_zero]
        · rw [if_neg (fun z => hq (by omega)), if_pos ⟨rfl, rfl⟩, if_neg hq]
      · by_cases hq2 : k = 10 ∧ i = 0
        · have x1 : J 10 0 1 = I 10 0 1 := by rw [hJ]; unfold grw; rw [if_neg (fun q => absurd q.1 (by decide)), if_neg (fun q => absurd q.2.2 (by decide)), if_neg (fun q => absurd q.1 (by decide)), if_neg (fun q => absurd q.1 (by decide))]
          have x2 : ent Z gr' J 10 0 = .inr (10, [.ref a, vi (I 10 0 1)]) := by
            show (.inr (10, [.ref (gr' 516), vi (J 10 0 1)]) : va_E) = _
            rw [hgr1, x1]
          rw [hq2.1, hq2.2, x2]
          exact hat3
        · have h30 : k ≠ 30 := fun q => by rw [q] at hi; exact absurd hi (by simp [ksz])
          have x3 : ∀ s : Nat, J k i s = I k i s := fun s => by
            rw [hJ]; unfold grw; rw [if_neg hq, if_neg (fun q => hq2 ⟨q.1, q.2.1⟩), if_neg (fun q => h30 q.1), if_neg (fun q => h30 q.1)]
          have x4 : ∀ i' : Nat, ¬ (10 = 2 ∧ i' = 0) → J 2 i' 2 = I 2 i' 2 := fun i' h => by
            rw [hJ]; unfold grw; rw [if_neg (fun q => absurd q.1 (by decide)), if_neg (fun q => h ⟨q.1.symm, q.2.1⟩), if_neg (fun q => absurd q.1 (by decide)), if_neg (fun q => absurd q.1 (by decide))]
          have x5 : ¬ (10 = 10) → J 10 0 2 = I 10 0 2 := fun h => by
            rw [hJ]; unfold grw; rw [if_neg (fun q => absurd q.1 (by decide)), if_neg (fun q => h q.1.symm), if_neg (fun q => absurd q.1 (by decide)), if_neg (fun q => absurd q.1 (by decide))]
          have x6 : ent Z gr' J k i = ent Z gr J k i := by
            by_cases h2 : k = 2
            · subst h2
              have hi9 : i < 516 := hi
              show (.inr (2, [.ref (gr' i), vi (J 2 i 1)]) : va_E) = .inr (2, [.ref (gr i), vi (J 2 i 1)])
              rw [hgr2 i (by omega)]
            · by_cases h10 : k = 10
              · subst h10
                have hi9 : i < 1 := hi
                show (.inr (10, [.ref (gr' 516), vi (J 10 i 1)]) : va_E) = .inr (10, [.ref (gr 516), vi (J 10 i 1)])
                exact absurd (Nat.lt_one_iff.mp hi9) (fun e => hq2 ⟨rfl, e⟩)
              · unfold ent
                split <;> first | rfl | exact absurd rfl h2 | exact absurd rfl h10
          have x7 : ent Z gr J k i = ent Z gr I k i := ent_congr x3 (fun h12 => x4 i (fun q => absurd q.1 (by decide))) (fun h25 => absurd (Nat.lt_one_iff.mp (by rw [h25] at hi; exact hi)) (fun e => hq ⟨h25, e⟩))
          rw [x6, x7, hadr k i hi hq]
          have hlt := (b6 k i hi).lt
          exact (b6 k i hi).kept ((p3 _ (fun q => hq2 (b4 k i 10 0 hi (by decide) q))).trans ((o2 _ (hne k i hi)).trans (o1 _ (by rw [ha]; exact hlt))))
  have hfin := (hk gr').2 X B (hcl.trans hc1) H3 ((locs ++ L) ++ [⟨zA Z 10 0, (zD Z).2 10 0⟩]) ls hHn ?_ (lv_tl hl)
  · rw [← r1, ← r2] at hfin
    exact hfin
  · intro q hq
    rcases List.mem_append.mp hq with h | h
    · rcases List.mem_append.mp h with h | h
      · exact hlo q h
      · rw [hL q h]; exact haB
    · cases List.mem_singleton.mp h
      exact hH.2.2.1 10 0 (by decide)
end GROW2
end
section
/-! ===== strings that are constants, the enum's ordinal, wide constants, bytes ===== -/
theorem alen_ok {x : Int} (h : 0 ≤ x) : Int32.ofNat x.toNat = Int32.ofInt x := by
  have h1 : x = (x.toNat : Int) := by omega
  rw [h1]; rfl
theorem i2b_nar (x : Int) : narrow .byte (vi (i2b x)) = vi (i2b x) := by
  unfold i2b vi; rw [Int32.ofInt_toInt]; exact pk_nb (Int32.ofInt x)
def wLen (j : Nat) : Int := (((wText.getD j []).length : Nat) : Int)
def wAt (j k : Nat) : Int := (wText.getD j []).getD k 0
/-- a receiver that is at hand -/
def Rcv (Z : ZT) (gr : Nat → Nat) (I : Mem) (a : Nat) (C : String) : Prop := ∀ (X : XT) (Y : YT), Bd Z X Y → ∀ H : Heap, HHA Z gr I H → ∃ cellB : Cell, H[a]? = some cellB ∧ cellB.vm.isStatics = false ∧ X.2.2.2.1.vm.findClass C = some cellB.cls
theorem rcv_34 {Z : ZT} {gr : Nat → Nat} {I : Mem} {j : Nat} (hj : j < 15) : Rcv Z gr I (zA Z 34 j) "java/lang/String" := fun X Y B H hH => by
  obtain ⟨cell, h1, h2, h3, -⟩ := (B.2.2.2.2.2.1.2.2.2.1.1 j hj).1.kept (old_kept hH)
  exact ⟨cell, h1, h2, h3⟩
theorem rcv_11 {Z : ZT} {gr : Nat → Nat} {I : Mem} {j : Nat} (hj : j < 15) : Rcv Z gr I (zA Z 11 j) RX11 := fun X Y B H hH => by
  obtain ⟨cell, h1, h2, h3, -⟩ := (B.2.2.2.2.2.1.2.1.1 j hj).2.1.kept (old_kept hH)
  exact ⟨cell, h1, h2, h3⟩
section STRS
variable {Z : ZT} {Y : YT} {I0 : Mem} {gr : Nat → Nat} {pc : Nat} {lv : List (Nat × Value)} {st : List Value} {I : Mem} {α : Type} {e : Option (α × Mem)} {κ : α → Mem → Option OT}
theorem wq_ldc_w {index : Nat} {n : Int} (hw : Cond.constant Y.1.cls index (Int32.ofInt n) ∈ lw_good) (d : decode Y.2.1 pc = .ok (.ldc_w index, 3)) (k : WQ Z Y I0 gr (pc + 3) lv (vi n :: st) I e κ) : WQ Z Y I0 gr pc lv st I e κ :=
  WQ.go (fun _ B _ _ _ ls _ _ _ hl kk => lv_ldcw B.1 B.2.1 B.2.2.2.1 (B.2.2.2.2.1 _ hw) d (kk ls hl)) k
theorem my_ldcW {p : Program} {l : Launch} {e : Env} {R : Room} {s : State} {m : MethodId} {args : Array Value} {below : List Frame} {meth : Method} {c : Code} {T : State} {locs : List Loc} {cells slots : Nat}
    (X : Stand p l e R s m args below meth c T locs cells slots) (hexec : p.tables.exec = Jvm.exec) {own text : String} {index : Nat} {a : Addr} (hown : s.vm.findClass own = some m.cls)
    (hconst : (Cond.stringRef own index text).before args s = true) (hev : (Term.string own index).eval args s none [] s = some (.ref a)) {g : JFrame} (hg : g.method = m) (hdg : decode c.code g.pc = .ok (.ldc_w index, 3)) :
    ∀ target, Steps p.tables e below (T.setTop { g with pc := g.pc + 3, stack := .ref a :: g.stack }) target → Steps p.tables e below (T.setTop g) target := by
  obtain ⟨k, cf, i, a', hk, hcf, hcp, -, hr, hev'⟩ := Cond.stringRef_spec hown hconst
  cases hev.symm.trans hev'
  obtain ⟨k', hk', he⟩ := X.warmed.alike.2.2 _ _ hk
  have hr' : k'.resolved[index]? = some (some (.string a)) := by
    rcases X.warmed.entry hk hk' index with h | ⟨h, -⟩
    · rw [h]; exact hr
    · rw [hr] at h; cases h
  intro target hrest
  subst hg
  jvm_step X.here [hexec, hdg, ldc_w.wp_string (e := e) (s := T) (f := g) X.here.top hk' (by rw [he]; exact hcf) hcp hr']
  exact hrest
theorem wq_ldc_ws {q : Nat × String × Nat} (hq : q ∈ wLdc) (hY : Y.1.cls = RX13) (d : decode Y.2.1 pc = .ok (.ldc_w q.1, 3)) (k : WQ Z Y I0 gr (pc + 3) lv (vr Z 34 q.2.2 :: st) I e κ) : WQ Z Y I0 gr pc lv st I e κ :=
  WQ.go (fun X B _ H _ ls _ _ _ hl kk => by
    have hR := B.2.2.2.2.2.1.2.2.2.2.2.2.2.2.2.1 q hq
    have hown := B.2.2.2.1
    rw [hY] at hown
    intro T hT S
    obtain ⟨t, a1, b1⟩ := kk ls hl T hT S
    exact ⟨t, my_ldcW S B.1 hown (text := q.2.1) (a := zA Z 34 q.2.2) hR.1 hR.2 (g := F0 _ pc ls st) rfl (by rw [B.2.1]; exact d) t a1, b1⟩) k
theorem wq_bast {n : Nat} {j j' m x : Int} {f : Mem → Option (α × Mem)} (he : ∀ J : Mem, J 10 0 2 = I 10 0 2 → ent Z gr J 25 0 = arI (zC Z 2) n (J 25 0)) (hj : w32 j = j') (hin : 0 ≤ j' ∧ j' < m) (hm : m.toNat ≤ n) (hx : narrow .byte (vi x) = vi x) (d : decode Y.2.1 pc = .ok (.bastore, 1)) (kk : ∀ J : Mem, WQ Z Y I0 gr (pc + 1) lv st J (f J) κ) : WQ Z Y I0 gr pc lv (vi x :: vi j :: .ref (gr 516) :: st) I (ltI (sI I 25 0 j'.toNat x) f) κ := by
  refine WQ.mem (sI_30 (by decide)) (fun X B o H locs ls cells slots hH hlo hl k1 => ?_) (kk _)
  have hat := hH.at (k := 25) (i := 0) (by decide)
  rw [he I rfl] at hat
  have hat : H[gr 516]? = some (vp_cell (zC Z 2) (n, .inl fun j => Int32.ofInt (I 25 0 j))) := hat
  refine W.bast B.1 B.2.1 hat ((B.2.2.2.2.2.1.1.2 2 _ rfl).1 n (fun j => .int (Int32.ofInt (I 25 0 j)))) (fun q => by cases q) (by show ¬ (_ < 0 ∨ (arrV _ _ _).slots.size ≤ _); rw [arrV_size]; exact w_in hj hin hm) rfl rfl d fun H1 e1 z oq => ?_
  have hHn : HHA Z gr (sI I 25 0 j'.toNat x) H1 := by
    refine hH.upd (k := 25) (i := 0) (by decide) z oq ?_ (fun k' i' hi' hne => sI_ent (fun q => absurd q.1 (by decide)) (fun q => absurd q.1 (by decide)) hne)
    rw [he _ (sI_ne (fun q => absurd q.1 (by decide)))]
    show H1[gr 516]? = some (vp_cell _ _)
    rw [e1, vp_cell_i, vp_cell_i, arrV_store, w_nat hj, hx]
    congr 2
    funext q
    by_cases hq : q = j'.toNat
    · subst hq; simp [updV, sI]
    · simp [updV, hq, sI]
  exact k1 H1 _ ls hHn (locs_put hlo (hH.2.2.1 25 0 (by decide))) hl
/-- a call on any receiver, of a method that only answers -/
theorem wq_pR {v : Value} {y' : MethodName} {cc' : ByteArray} {maxL' h' index n a : Nat} {ret' : Option FieldType} {As rest : List Value} (hM : MwV y' cc' maxL' ret' n) (hr : Runs Z y' cc' maxL' ret' h' (.ref a :: As) I (some v, I))
    (hO : Rcv Z gr I a y'.cls) (hn : As.length = n) (hst : st = As.reverse ++ .ref a :: rest) (hh : h' < Y.2.2.2.2) (hm : maxL' ≤ 16) (hw : (rest.map fun v => v.category).sum ≤ 8)
    (hlink : Cond.methodLink Y.1.cls index y' ∈ lw_good) (d : decode Y.2.1 pc = .ok (.invokevirtual index, 3))
    (kk : ∀ gr' : Nat → Nat, WQ Z Y I0 gr' (pc + 3) lv (v :: rest) I e κ) : WQ Z Y I0 gr pc lv st I e κ := by
  intro o ho
  refine WP.call hr (fun X B H locs ls hH hls hroom => ?_) (fun gr' => kk gr' o ho)
  have hG : GoodIn lw_good (wsV Y.1.cls index y'.cls y' (wsAll y' cc' maxL' ret')) := by
    intro w hw
    rcases List.mem_append.mp hw with hw | hw
    · have hm : w ∈ lw_good := by
        simp only [List.mem_cons, List.mem_nil_iff, or_false] at hw
        rcases hw with rfl | rfl | rfl | rfl
        · exact hlink
        · exact hM.2.1
        · exact hM.2.2.1
        · exact hM.2.2.2.1
      exact ⟨hm, good_of_word (List.mem_filter.mp hm).2⟩
    · exact goodAll hM.1 w hw
  exact va_runV (cc := Y.2.1) (nL := Y.2.2.1) (Ts := lw_good) (own := Y.1.cls) (As := As) (n := n) ⟨B.1, B.2.1, B.2.2.1, B.2.2.2.1, B.2.2.2.2.1⟩ (hr.2 X.2.1 B.2.2.2.2.2.2.2.2.1) (cwV n B.2.2.2.2.1 hG rfl rfl rfl ⟨rfl, hM.2.2.2.2⟩ (room_ok hh hm)) ⟨fb_Pcz, hO X Y B H hH, pc_at B hH⟩ rfl hn hls hst (lv_room hw) d hroom
/-- .. of an inherited method -/
theorem wq_pU {v : Value} {C owner : String} {x y' : MethodName} {cc' : ByteArray} {maxL' h' index n a : Nat} {ret' : Option FieldType} {As rest : List Value} (hr : Runs Z y' cc' maxL' ret' h' (.ref a :: As) I (some v, I))
    (hO : Rcv Z gr I a C) (hyx : y' = ⟨owner, x.name, x.desc⟩) (hn : As.length = n) (hst : st = As.reverse ++ .ref a :: rest) (hh : h' < Y.2.2.2.2) (hm : maxL' ≤ 16) (hw : (rest.map fun v => v.category).sum ≤ 8)
    (hlink : Cond.methodLink Y.1.cls index x ∈ lw_good) (h1 : Cond.sameMethod x.cls owner x.name x.desc ∈ lw_good) (h2 : Cond.selects C x y' ∈ lw_good) (h3 : Cond.instanceMethod y' ∈ lw_good) (h4 : Cond.initialized y'.cls ∈ lw_good) (h5 : Cond.code y' cc' maxL' ret' ∈ lw_good)
    (hd : owner ≠ "java/lang/invoke/MethodHandle" ∧ owner ≠ "java/lang/invoke/VarHandle" ∧ (parseMethodDescriptor x.desc).map (fun d => d.parameters.length) = some n) (d : decode Y.2.1 pc = .ok (.invokevirtual index, 3))
    (kk : ∀ gr' : Nat → Nat, WQ Z Y I0 gr' (pc + 3) lv (v :: rest) I e κ) : WQ Z Y I0 gr pc lv st I e κ := by
  intro o ho
  refine WP.call hr (fun X B H locs ls hH hls hroom => ?_) (fun gr' => kk gr' o ho)
  have hG : GoodIn lw_good (va_wsU Y.1.cls index C owner x y' (wsAll y' cc' maxL' ret')) := by
    intro w hw
    rcases List.mem_append.mp hw with hw | hw
    · have hm : w ∈ lw_good := by
        simp only [List.mem_cons, List.mem_nil_iff, or_false] at hw
        rcases hw with rfl | rfl | rfl | rfl | rfl <;> assumption
      exact ⟨hm, good_of_word (List.mem_filter.mp hm).2⟩
    · exact goodAll h5 w hw
  exact va_runU (cc := Y.2.1) (nL := Y.2.2.1) (Ts := lw_good) (own := Y.1.cls) (As := As) (n := n) ⟨B.1, B.2.1, B.2.2.1, B.2.2.2.1, B.2.2.2.2.1⟩ (hr.2 X.2.1 B.2.2.2.2.2.2.2.2.1) (va_cwU n B.2.2.2.2.1 hG rfl rfl rfl hyx hd (room_ok hh hm)) ⟨fb_Pcz, hO X Y B H hH, pc_at B hH⟩ rfl hn hls hst (lv_room hw) d hroom
/-! a string's own fields -/
theorem wq_strF {j index : Nat} {n fd : String} {v : Value} (hS : ∀ U : State, Sta Z U → va_OF "java/lang/String" n fd v (zA Z 34 j) (zN Z) U (zH Z)) (hln : Cond.fieldLink Y.1.cls index "java/lang/String" n fd ∈ lw_good) (d : decode Y.2.1 pc = .ok (.getfield index, 3)) (k : WQ Z Y I0 gr (pc + 3) lv (v :: st) I e κ) : WQ Z Y I0 gr pc lv (vr Z 34 j :: st) I e κ :=
  WQ.go (fun X B _ _ _ ls _ _ hH hl kk => by
    obtain ⟨cf, kf, fi, f, cell, h1, h2, h3, h4, h5, h6⟩ := (hS _ B.2.2.2.2.2.1.2).kept (old_kept hH)
    exact W.getf (v := v) B.1 B.2.1 B.2.2.2.1 (B.2.2.2.2.1 _ hln) h1 h2 h3 h4 h5 rfl rfl d (kk ls hl)) k
theorem wq_word0 {j index q : Nat} {fo fn fd : String} {l : List Int32} {x : Int} (hq : wFld[q]? = some (fo, fn, fd, l)) (hj : j < 15) (hx : l.getD j 0 = Int32.ofInt x) (hln : Cond.fieldLink Y.1.cls index fo fn fd ∈ lw_good) (d : decode Y.2.1 pc = .ok (.getfield index, 3)) (k : WQ Z Y I0 gr (pc + 3) lv (vi x :: st) I e κ) : WQ Z Y I0 gr pc lv (vr Z 11 j :: st) I e κ :=
  WQ.go (fun X B _ _ _ ls _ _ hH hl kk => by
    have hS := B.2.2.2.2.2.1.2
    obtain ⟨cf, kf, fi, f, cell, h1, h2, h3, h4, h5, h6⟩ := ((hS.1.1 j hj).2.2 _ (List.mem_of_getElem? hq)).kept (old_kept hH)
    refine W.getf (v := vi x) B.1 B.2.1 B.2.2.2.1 (B.2.2.2.2.1 _ hln) h1 h2 h3 h4 ?_ rfl rfl d (kk ls hl)
    rw [h5]; exact congrArg (fun z => some (Value.int z)) hx) k
theorem wq_siob {index : Nat} (hln : Cond.fieldLink Y.1.cls index "jdk/internal/util/Preconditions" "SIOOBE_FORMATTER" "Ljava/util/function/BiFunction;" ∈ lw_good) (d : decode Y.2.1 pc = .ok (.getstatic index, 3)) (k : ∀ v : Value, v.category = 1 → WQ Z Y I0 gr (pc + 3) lv (v :: st) I e κ) : WQ Z Y I0 gr pc lv st I e κ := by
  intro o ho
  refine ⟨(k .null rfl o ho).1, fun X B hc H locs ls hH hlo hl => ?_⟩
  obtain ⟨v, hv, hZ⟩ := B.2.2.2.2.2.1.2.2.2.2.2.2.2.2.1.2.1
  obtain ⟨cf, kf, fi, f, a, cell, h1, h2, h3, h4, h5, h6, h7, h8⟩ := hZ.kept (old_kept hH)
  exact W.gets B.1 B.2.1 B.2.2.2.1 (B.2.2.2.2.1 _ hln) h1 h2 h3 h4 h5 (fun e => by rw [e] at h6; cases h6) h7 rfl d ((k v hv o ho).2 X B hc H locs ls hH hlo hl)
theorem sta_coder {j : Nat} (hj : j < 15) (U : State) (h : Sta Z U) : va_OF "java/lang/String" "coder" "B" (vi 0) (zA Z 34 j) (zN Z) U (zH Z) := (h.2.2.1.1 j hj).2.1
theorem sta_value {j : Nat} (hj : j < 15) (U : State) (h : Sta Z U) : va_OF "java/lang/String" "value" "[B" (vr Z 35 j) (zA Z 34 j) (zN Z) U (zH Z) := (h.2.2.1.1 j hj).2.2.1
theorem sta_compact (U : State) (h : Sta Z U) : va_Z "java/lang/String" "COMPACT_STRINGS" "Z" (vi 1) (zN Z) U (zH Z) := h.2.2.2.2.2.2.2.1.1
theorem txt_len : ∀ j, j < 15 → (wText.map List.length).getD j 0 = (wText.getD j []).length := by decide +kernel
theorem txt_len15 : ∀ j, j < 15 → (wText.getD j []).length < 100 := by decide +kernel
theorem txt_byt : ∀ j, j < 15 → ∀ k, k < 10 → ((wText.map (fun l => l.map Int32.ofInt)).getD j []).getD k 0 = Int32.ofInt (wAt j k) := by decide +kernel
theorem txt_chr : ∀ j, j < 15 → ∀ k, k < 10 → ian (wAt j k) 255 = wAt j k ∧ ((Int32.ofInt (wAt j k)).toUInt32 % 65536).toInt32 = Int32.ofInt (wAt j k) := by decide +kernel
theorem txt_len10 : ∀ j, j < 15 → (wText.getD j []).length < 10 := by decide +kernel
theorem sta_bytes {j : Nat} (hj : j < 15) (U : State) (h : Sta Z U) : va_T .byte (zA Z 35 j) (wText.getD j []).length (fun k => .int (((wText.map (fun l => l.map Int32.ofInt)).getD j []).getD k 0)) (zN Z) U (zH Z) := by
  have := (h.2.2.1.1 j hj).2.2.2
  rw [txt_len j hj] at this
  exact this
theorem wq_blen {j : Nat} (hj : j < 15) (d : decode Y.2.1 pc = .ok (.arraylength, 1)) (k : WQ Z Y I0 gr (pc + 1) lv (vi (wLen j) :: st) I e κ) : WQ Z Y I0 gr pc lv (vr Z 35 j :: st) I e κ :=
  WQ.go (fun X B _ _ _ ls _ _ hH hl kk => by
    obtain ⟨cell, h1, h2, h3, h4, h5, h6, h7⟩ := (sta_bytes hj _ B.2.2.2.2.2.1.2).kept (old_kept hH)
    exact W.alen (n := Int32.ofInt (wLen j)) B.1 B.2.1 h1 h2 (by rw [h5]; rfl) rfl rfl d (kk ls hl)) k
theorem wq_bget {j : Nat} {i i' : Int} (hj : j < 15) (hi : w32 i = i') (hin : 0 ≤ i' ∧ i' < wLen j) (d : decode Y.2.1 pc = .ok (.baload, 1)) (k : WQ Z Y I0 gr (pc + 1) lv (vi (wAt j i'.toNat) :: st) I e κ) : WQ Z Y I0 gr pc lv (vi i :: vr Z 35 j :: st) I e κ :=
  WQ.go (fun X B _ _ _ ls _ _ hH hl kk => by
    obtain ⟨cell, h1, h2, h3, h4, h5, h6, h7⟩ := (sta_bytes hj _ B.2.2.2.2.2.1.2).kept (old_kept hH)
    have hx := w_in (n := (wText.getD j []).length) hi hin (by unfold wLen; omega)
    have hlt : (Int32.ofInt i).toNatClampNeg < (wText.getD j []).length := Nat.not_le.mp fun q => hx (Or.inr q)
    refine W.bald (v := vi (wAt j i'.toNat)) B.1 B.2.1 h1 h2 h3 (fun q => hx (q.elim Or.inl (fun z => Or.inr (Nat.le_trans h4 z)))) ?_ rfl rfl d (kk ls hl)
    rw [h6 _ hlt, w_nat hi]
    exact congrArg (fun z => some (Value.int z)) (txt_byt j hj _ (by have := txt_len10 j hj; rw [w_nat hi] at hlt; omega))) k
theorem wq_nret {x : Int} {b : α} {ty : FieldType} (hr : Y.2.2.2.1 = some ty) (hx : narrow ty (vi x) = vi x) (h : κ b I = some (.inl (some (vi x)), I)) (d : decode Y.2.1 pc = .ok (.ireturn, 1)) : WQ Z Y I0 gr pc lv [vi x] I (some (b, I)) κ := by
  intro o ho
  have ho : some o = some (.inl (some (vi x)), I) := ho.symm.trans h
  cases ho
  refine ⟨cle.refl I, fun X B hcl H locs ls hH hlo hl => ?_⟩
  exact W.zret (hlocks := B.2.2.2.2.2.2.2.1) B.1 B.2.1 (B.2.2.2.2.2.2.1.trans hr) hx (fun t ht _ => ⟨rfl, gr, by rw [ht]; exact hH⟩) hlo d
theorem wq_i2c255 {x : Int} (d : decode Y.2.1 pc = .ok (.i2c, 1)) (k : WQ Z Y I0 gr (pc + 1) lv (vi (ian x 255) :: st) I e κ) : WQ Z Y I0 gr pc lv (vi (ian x 255) :: st) I e κ :=
  WQ.go (fun _ B _ _ _ ls _ _ _ hl kk => lv_i2c B.1 B.2.1 d (by unfold ian; rw [Int32.ofInt_toInt]; exact sc_c2 (Int32.ofInt x)) (kk ls hl)) k
theorem nar_255 (x : Int) : narrow .char (vi (ian x 255)) = vi (ian x 255) := by
  unfold ian vi; rw [Int32.ofInt_toInt]; exact sc_nar (Int32.ofInt x)
/-- a static call of any class -/
theorem WP.callSX {o : OT} {o1 : OV} {y' : MethodName} {cc' : ByteArray} {maxL' h' index n : Nat} {ret' : Option FieldType} {As rest : List Value} (hr : Runs Z y' cc' maxL' ret' h' As I o1) (hM : MwS y' cc' maxL' ret' n)
    (hn : As.length = n) (hst : st = As.reverse ++ rest) (hh : h' < Y.2.2.2.2) (hm : maxL' ≤ 16) (hw : (rest.map fun v => v.category).sum ≤ 8)
    (hlink : Cond.methodLink Y.1.cls index y' ∈ lw_good) (d : decode Y.2.1 pc = .ok (.invokestatic index, 3))
    (k : ∀ gr' : Nat → Nat, WP Z Y I0 o gr' (pc + 3) lv (o1.1.toList ++ rest) o1.2) : WP Z Y I0 o gr pc lv st I := by
  refine WP.call hr (fun X B H locs ls hH hls hroom => ?_) k
  have hG : GoodIn lw_good (va_wsS Y.1.cls index y' (wsAll y' cc' maxL' ret')) := by
    intro w hw
    rcases List.mem_append.mp hw with hw | hw
    · have hm : w ∈ lw_good := by
        simp only [List.mem_cons, List.mem_nil_iff, or_false] at hw
        rcases hw with rfl | rfl | rfl
        · exact hlink
        · exact hM.2.1
        · exact hM.2.2.1
      exact ⟨hm, good_of_word (List.mem_filter.mp hm).2⟩
    · exact goodAll hM.1 w hw
  exact va_runS (cc := Y.2.1) (nL := Y.2.2.1) (Ts := lw_good) (own := Y.1.cls) (As := As) (n := n) ⟨B.1, B.2.1, B.2.2.1, B.2.2.2.1, B.2.2.2.2.1⟩ (hr.2 X.2.1 B.2.2.2.2.2.2.2.2.1) (va_cwS n B.2.2.2.2.1 hG rfl rfl rfl hM.2.2.2 (room_ok hh hm)) ⟨fb_Pcz, pc_at B hH⟩ rfl hn hls hst (lv_room hw) d hroom
theorem wq_pSX {v : Option Value} {y' : MethodName} {cc' : ByteArray} {maxL' h' index n : Nat} {ret' : Option FieldType} {As rest : List Value} (hM : MwS y' cc' maxL' ret' n) (hr : Runs Z y' cc' maxL' ret' h' As I (v, I))
    (hn : As.length = n) (hst : st = As.reverse ++ rest) (hh : h' < Y.2.2.2.2) (hm : maxL' ≤ 16) (hw : (rest.map fun v => v.category).sum ≤ 8)
    (hlink : Cond.methodLink Y.1.cls index y' ∈ lw_good) (d : decode Y.2.1 pc = .ok (.invokestatic index, 3))
    (kk : ∀ gr' : Nat → Nat, WQ Z Y I0 gr' (pc + 3) lv (v.toList ++ rest) I e κ) : WQ Z Y I0 gr pc lv st I e κ :=
  fun o ho => WP.callSX hr hM hn hst hh hm hw hlink d (fun gr' => kk gr' o ho)
end STRS

theorem M_lengthS : MwV yJ0_length_8abf5 cJ0_length_8abf5 1 (some .int) 0 := ⟨li_2 189 (by decide +kernel) (by decide +kernel), li_2 187 (by decide +kernel) (by decide +kernel), li_2 188 (by decide +kernel) (by decide +kernel), li_1 17 (by decide +kernel) (by decide +kernel), by decide +kernel⟩
theorem M_coderS : MwV yJ0_coder_7d493 cJ0_coder_7d493 1 (some .byte) 0 := ⟨li_2 193 (by decide +kernel) (by decide +kernel), li_2 191 (by decide +kernel) (by decide +kernel), li_2 192 (by decide +kernel) (by decide +kernel), li_1 17 (by decide +kernel) (by decide +kernel), by decide +kernel⟩
theorem M_charAtS : MwV yJ0_charAt_5068e cJ0_charAt_5068e 2 (some .char) 1 := ⟨li_2 203 (by decide +kernel) (by decide +kernel), li_2 201 (by decide +kernel) (by decide +kernel), li_2 202 (by decide +kernel) (by decide +kernel), li_1 17 (by decide +kernel) (by decide +kernel), by decide +kernel⟩
theorem M_isLatin1S : MwV yJ0_isLatin1_aae02 cJ0_isLatin1_aae02 1 (some .boolean) 0 := ⟨li_2 207 (by decide +kernel) (by decide +kernel), li_2 205 (by decide +kernel) (by decide +kernel), li_2 206 (by decide +kernel) (by decide +kernel), li_1 17 (by decide +kernel) (by decide +kernel), by decide +kernel⟩
theorem M_checkIndexS : MwS yJ0_checkIndex_df160 cJ0_checkIndex_df160 2 (none) 2 := ⟨li_2 213 (by decide +kernel) (by decide +kernel), li_2 212 (by decide +kernel) (by decide +kernel), li_1 17 (by decide +kernel) (by decide +kernel), by decide +kernel⟩
theorem M_charAt1S : MwS yJ1_charAt_3b067 cJ1_charAt_3b067 2 (some .char) 2 := ⟨li_2 210 (by decide +kernel) (by decide +kernel), li_2 209 (by decide +kernel) (by decide +kernel), li_1 18 (by decide +kernel) (by decide +kernel), by decide +kernel⟩
theorem M_checkIndex3S : MwS yJ3_checkIndex_8e157 cJ3_checkIndex_8e157 3 (some .int) 3 := ⟨li_2 218 (by decide +kernel) (by decide +kernel), li_2 217 (by decide +kernel) (by decide +kernel), li_1 19 (by decide +kernel) (by decide +kernel), by decide +kernel⟩
theorem R_coder (Z : ZT) (j : Nat) (hj : j < 15) (I : Mem) : Runs Z yJ0_coder_7d493 cJ0_coder_7d493 1 (some .byte) 1 [vr Z 34 j] I (some (vi 0), I) := by
  refine Runs.of (rv := fun x => some (vi x)) (r := (0 : Int)) (f := some (0, I)) (by decide +kernel) (Nat.le_of_ble_eq_true rfl) rfl (fun gr => ?_)
  refine WQ.loc [0] (lv' := [(0, vr Z 34 j)]) rfl ?_
  refine wq_gets sta_compact (li_2 194 (by decide +kernel) (by decide +kernel) : Cond.fieldLink RJ0 38 RJ0 "COMPACT_STRINGS" "Z" ∈ lw_good) dJ0_coder_7d493_0 ?_
  refine WQ.both (((1 : Int)) = 0) ?_
  refine wq_if_eq 13 dJ0_coder_7d493_3 (by decide) rfl (fun h => absurd h (by decide)) (fun h => ?_)
  refine wq_aload_n dJ0_coder_7d493_6 0 rfl rfl ?_
  refine wq_strF (sta_coder hj) (li_10 24 (by decide +kernel) (by decide +kernel) : Cond.fieldLink RJ0 15 RJ0 "coder" "B" ∈ lw_good) dJ0_coder_7d493_7 ?_
  refine wq_goto 14 dJ0_coder_7d493_10 (by decide) ?_
  exact wq_nret rfl rfl rfl dJ0_coder_7d493_14
theorem R_length (Z : ZT) (j : Nat) (hj : j < 15) (I : Mem) : Runs Z yJ0_length_8abf5 cJ0_length_8abf5 1 (some .int) 2 [vr Z 34 j] I (some (vi (wLen j)), I) := by
  refine Runs.of (rv := fun x => some (vi x)) (r := wLen j) (f := some (wLen j, I)) (by decide +kernel) (Nat.le_of_ble_eq_true rfl) rfl (fun gr => ?_)
  refine WQ.loc [0] (lv' := [(0, vr Z 34 j)]) rfl ?_
  refine wq_aload_n dJ0_length_8abf5_0 0 rfl rfl ?_
  refine wq_strF (sta_value hj) (li_10 23 (by decide +kernel) (by decide +kernel) : Cond.fieldLink RJ0 9 RJ0 "value" "[B" ∈ lw_good) dJ0_length_8abf5_1 ?_
  refine wq_blen hj dJ0_length_8abf5_4 ?_
  refine wq_aload_n dJ0_length_8abf5_5 0 rfl rfl ?_
  refine wq_pR (v := vi 0) M_coderS (R_coder Z j hj _) (rcv_34 hj) rfl rfl (by decide) (by decide) (Nat.le_of_ble_eq_true rfl) (li_2 190 (by decide +kernel) (by decide +kernel) : Cond.methodLink RJ0 335 yJ0_coder_7d493 ∈ lw_good) dJ0_length_8abf5_6 (fun gr2 => ?_)
  refine wq_ishr dJ0_length_8abf5_9 ?_
  refine WQ.top (x := wLen j) ((by decide +kernel : ∀ j, j < 15 → wLen j = isr (wLen j) 0) j hj) ?_
  exact wq_iret rfl rfl dJ0_length_8abf5_10
theorem R_isLatin1 (Z : ZT) (j : Nat) (hj : j < 15) (I : Mem) : Runs Z yJ0_isLatin1_aae02 cJ0_isLatin1_aae02 1 (some .boolean) 1 [vr Z 34 j] I (some (vi 1), I) := by
  refine Runs.of (rv := fun x => some (vi x)) (r := (1 : Int)) (f := some (1, I)) (by decide +kernel) (Nat.le_of_ble_eq_true rfl) rfl (fun gr => ?_)
  refine WQ.loc [0] (lv' := [(0, vr Z 34 j)]) rfl ?_
  refine wq_gets sta_compact (li_2 194 (by decide +kernel) (by decide +kernel) : Cond.fieldLink RJ0 38 RJ0 "COMPACT_STRINGS" "Z" ∈ lw_good) dJ0_isLatin1_aae02_0 ?_
  refine WQ.both (((1 : Int)) = 0) ?_
  refine wq_if_eq 17 dJ0_isLatin1_aae02_3 (by decide) rfl (fun h => absurd h (by decide)) (fun h => ?_)
  refine wq_aload_n dJ0_isLatin1_aae02_6 0 rfl rfl ?_
  refine wq_strF (sta_coder hj) (li_10 24 (by decide +kernel) (by decide +kernel) : Cond.fieldLink RJ0 15 RJ0 "coder" "B" ∈ lw_good) dJ0_isLatin1_aae02_7 ?_
  refine WQ.both (((0 : Int)) = 0) ?_
  refine wq_if_ne 17 dJ0_isLatin1_aae02_10 (by decide) rfl (fun h => ?_) (fun h => absurd rfl h)
  refine wq_iconst dJ0_isLatin1_aae02_13 ?_
  refine wq_goto 18 dJ0_isLatin1_aae02_14 (by decide) ?_
  exact wq_zret rfl (by decide) rfl dJ0_isLatin1_aae02_18
theorem R_checkIndex3 (Z : ZT) (i n : Int) (v : Value) (hv : v.category = 1) (hi : 0 ≤ w32 i ∧ w32 i < w32 n) (I : Mem) : Runs Z yJ3_checkIndex_8e157 cJ3_checkIndex_8e157 3 (some .int) 1 [vi i, vi n, v] I (some (vi i), I) := by
  refine Runs.of (rv := fun x => some (vi x)) (r := i) (f := some (i, I)) (by decide +kernel) (by show (lg_sl [vi i, vi n, v]).length ≤ 3; cases v <;> first | (simp [lg_sl, Value.category]; done) | (simp [Value.category] at hv)) rfl (fun gr => ?_)
  refine WQ.loc [0, 1] (lv' := [(0, vi i), (1, vi n)]) rfl ?_
  refine wq_iload_n dJ3_checkIndex_8e157_0 0 rfl rfl ?_
  refine WQ.both (w32 i < 0) ?_
  refine wq_if_lt 9 dJ3_checkIndex_8e157_1 (by decide) rfl (fun h => absurd h (by omega)) (fun h => ?_)
  refine wq_iload_n dJ3_checkIndex_8e157_4 0 rfl rfl ?_
  refine wq_iload_n dJ3_checkIndex_8e157_5 1 rfl rfl ?_
  refine WQ.both (w32 i < w32 n) ?_
  refine wq_icmp_lt 16 dJ3_checkIndex_8e157_6 (by decide) rfl rfl (fun h => ?_) (fun h => absurd hi.2 h)
  refine wq_iload_n dJ3_checkIndex_8e157_16 0 rfl rfl ?_
  exact wq_iret rfl rfl dJ3_checkIndex_8e157_17

theorem R_checkIndex (Z : ZT) (i n : Int) (hi : 0 ≤ w32 i ∧ w32 i < w32 n) (I : Mem) : Runs Z yJ0_checkIndex_df160 cJ0_checkIndex_df160 2 none 2 [vi i, vi n] I (none, I) := by
  refine Runs.of (rv := fun _ => none) (r := ()) (f := some ((), I)) (by decide +kernel) (Nat.le_of_ble_eq_true rfl) rfl (fun gr => ?_)
  refine WQ.loc [0, 1] (lv' := [(0, vi i), (1, vi n)]) rfl ?_
  refine wq_iload_n dJ0_checkIndex_df160_0 0 rfl rfl ?_
  refine wq_iload_n dJ0_checkIndex_df160_1 1 rfl rfl ?_
  refine wq_siob (li_2 214 (by decide +kernel) (by decide +kernel) : Cond.fieldLink RJ0 1053 RJ3 "SIOOBE_FORMATTER" "Ljava/util/function/BiFunction;" ∈ lw_good) dJ0_checkIndex_df160_2 (fun v hv => ?_)
  refine wq_pSX M_checkIndex3S (R_checkIndex3 Z i n v hv hi _) rfl rfl (by decide) (by decide) (Nat.le_of_ble_eq_true rfl) (li_2 216 (by decide +kernel) (by decide +kernel) : Cond.methodLink RJ0 1059 yJ3_checkIndex_8e157 ∈ lw_good) dJ0_checkIndex_df160_5 (fun gr2 => ?_)
  refine wq_pop dJ0_checkIndex_df160_8 rfl ?_
  exact wq_vret rfl rfl dJ0_checkIndex_df160_9
theorem R_charAt1 (Z : ZT) (j : Nat) (hj : j < 15) (i : Int) (hi : 0 ≤ w32 i ∧ w32 i < wLen j) (I : Mem) : Runs Z yJ1_charAt_3b067 cJ1_charAt_3b067 2 (some .char) 3 [vr Z 35 j, vi i] I (some (vi (wAt j (w32 i).toNat)), I) := by
  have hl : (w32 i).toNat < 10 := by have := txt_len10 j hj; unfold wLen at hi; omega
  have hw : w32 (wLen j) = wLen j := (by decide +kernel : ∀ j, j < 15 → w32 (wLen j) = wLen j) j hj
  refine Runs.of (rv := fun x => some (vi x)) (r := wAt j (w32 i).toNat) (f := some (wAt j (w32 i).toNat, I)) (by decide +kernel) (Nat.le_of_ble_eq_true rfl) rfl (fun gr => ?_)
  refine WQ.loc [0, 1] (lv' := [(0, vr Z 35 j), (1, vi i)]) rfl ?_
  refine wq_iload_n dJ1_charAt_3b067_0 1 rfl rfl ?_
  refine wq_aload_n dJ1_charAt_3b067_1 0 rfl rfl ?_
  refine wq_blen hj dJ1_charAt_3b067_2 ?_
  refine wq_pSX M_checkIndexS (R_checkIndex Z i (wLen j) (by rw [hw]; exact hi) _) rfl rfl (by decide) (by decide) (Nat.le_of_ble_eq_true rfl) (li_2 211 (by decide +kernel) (by decide +kernel) : Cond.methodLink RJ1 9 yJ0_checkIndex_df160 ∈ lw_good) dJ1_charAt_3b067_3 (fun gr2 => ?_)
  refine wq_aload_n dJ1_charAt_3b067_6 0 rfl rfl ?_
  refine wq_iload_n dJ1_charAt_3b067_7 1 rfl rfl ?_
  refine wq_bget hj rfl hi dJ1_charAt_3b067_8 ?_
  refine wq_sipush dJ1_charAt_3b067_9 (by decide) ?_
  refine wq_iand dJ1_charAt_3b067_12 ?_
  refine wq_i2c255 dJ1_charAt_3b067_13 ?_
  have hz := (txt_chr j hj _ hl).1
  have hn := nar_255 (wAt j (w32 i).toNat)
  rw [hz] at hn ⊢
  exact wq_nret rfl hn rfl dJ1_charAt_3b067_14
theorem R_charAt (Z : ZT) (j : Nat) (hj : j < 15) (i : Int) (hi : 0 ≤ w32 i ∧ w32 i < wLen j) (I : Mem) : Runs Z yJ0_charAt_5068e cJ0_charAt_5068e 2 (some .char) 4 [vr Z 34 j, vi i] I (some (vi (wAt j (w32 i).toNat)), I) := by
  have hl : (w32 i).toNat < 10 := by have := txt_len10 j hj; unfold wLen at hi; omega
  refine Runs.of (rv := fun x => some (vi x)) (r := wAt j (w32 i).toNat) (f := some (wAt j (w32 i).toNat, I)) (by decide +kernel) (Nat.le_of_ble_eq_true rfl) rfl (fun gr => ?_)
  refine WQ.loc [0, 1] (lv' := [(0, vr Z 34 j), (1, vi i)]) rfl ?_
  refine wq_aload_n dJ0_charAt_5068e_0 0 rfl rfl ?_
  refine wq_pR (v := vi 1) M_isLatin1S (R_isLatin1 Z j hj _) (rcv_34 hj) rfl rfl (by decide) (by decide) (Nat.le_of_ble_eq_true rfl) (li_2 204 (by decide +kernel) (by decide +kernel) : Cond.methodLink RJ0 492 yJ0_isLatin1_aae02 ∈ lw_good) dJ0_charAt_5068e_1 (fun gr2 => ?_)
  refine WQ.both (((1 : Int)) = 0) ?_
  refine wq_if_eq 16 dJ0_charAt_5068e_4 (by decide) rfl (fun h => absurd h (by decide)) (fun h => ?_)
  refine wq_aload_n dJ0_charAt_5068e_7 0 rfl rfl ?_
  refine wq_strF (sta_value hj) (li_10 23 (by decide +kernel) (by decide +kernel) : Cond.fieldLink RJ0 9 RJ0 "value" "[B" ∈ lw_good) dJ0_charAt_5068e_8 ?_
  refine wq_iload_n dJ0_charAt_5068e_11 1 rfl rfl ?_
  refine wq_pSX M_charAt1S (R_charAt1 Z j hj i hi _) rfl rfl (by decide) (by decide) (Nat.le_of_ble_eq_true rfl) (li_2 208 (by decide +kernel) (by decide +kernel) : Cond.methodLink RJ0 495 yJ1_charAt_3b067 ∈ lw_good) dJ0_charAt_5068e_12 (fun gr3 => ?_)
  have hz := (txt_chr j hj _ hl).1
  have hn := nar_255 (wAt j (w32 i).toNat)
  rw [hz] at hn
  exact wq_nret rfl hn rfl dJ0_charAt_5068e_15
theorem R_ordinal (Z : ZT) (j : Nat) (hj : j < 15) (I : Mem) : Runs Z yJx29ce0_ordinal_8abf5 cJx29ce0_ordinal_8abf5 1 (some .int) 1 [vr Z 11 j] I (some (vi ((j : Nat) : Int)), I) := by
  refine Runs.of (rv := fun x => some (vi x)) (r := ((j : Nat) : Int)) (f := some (((j : Nat) : Int), I)) (by decide +kernel) (Nat.le_of_ble_eq_true rfl) rfl (fun gr => ?_)
  refine WQ.loc [0] (lv' := [(0, vr Z 11 j)]) rfl ?_
  refine wq_aload_n dJx29ce0_ordinal_8abf5_0 0 rfl rfl ?_
  refine wq_word0 (q := 0) rfl hj ((by decide +kernel : ∀ j, j < 15 → [0, 1, 2, 3, 4, 5, 6, 7, 8, 9, 10, 11, 12, 13, (14 : Int32)].getD j 0 = Int32.ofInt ((j : Nat) : Int)) j hj) (li_10 27 (by decide +kernel) (by decide +kernel) : Cond.fieldLink RJx29ce0 7 RJx29ce0 "ordinal" "I" ∈ lw_good) dJx29ce0_ordinal_8abf5_1 ?_
  exact wq_iret rfl rfl dJx29ce0_ordinal_8abf5_4
section STRS2
variable {Z : ZT} {Y : YT} {I0 : Mem} {gr : Nat → Nat} {pc : Nat} {lv : List (Nat × Value)} {st : List Value} {I : Mem} {α : Type} {e : Option (α × Mem)} {κ : α → Mem → Option OT}
theorem wq_strlen {j index : Nat} (hj : j < 15) (hh : 2 < Y.2.2.2.2) (hw : (st.map fun v => v.category).sum ≤ 8) (hln : Cond.methodLink Y.1.cls index yJ0_length_8abf5 ∈ lw_good) (d : decode Y.2.1 pc = .ok (.invokevirtual index, 3)) (kk : ∀ gr' : Nat → Nat, WQ Z Y I0 gr' (pc + 3) lv (vi (wLen j) :: st) I e κ) : WQ Z Y I0 gr pc lv (vr Z 34 j :: st) I e κ :=
  wq_pR (v := vi (wLen j)) (As := []) M_lengthS (R_length Z j hj _) (rcv_34 hj) rfl rfl hh (by decide) hw hln d kk
theorem wq_charAt {j index : Nat} {i i' : Int} (hj : j < 15) (hi : w32 i = i') (hin : 0 ≤ i' ∧ i' < wLen j) (hh : 4 < Y.2.2.2.2) (hw : (st.map fun v => v.category).sum ≤ 8) (hln : Cond.methodLink Y.1.cls index yJ0_charAt_5068e ∈ lw_good) (d : decode Y.2.1 pc = .ok (.invokevirtual index, 3)) (kk : ∀ gr' : Nat → Nat, WQ Z Y I0 gr' (pc + 3) lv (vi (wAt j i'.toNat) :: st) I e κ) : WQ Z Y I0 gr pc lv (vi i :: vr Z 34 j :: st) I e κ := by
  subst hi
  exact wq_pR (v := vi (wAt j (w32 i).toNat)) (As := [vi i]) M_charAtS (R_charAt Z j hj i hin _) (rcv_34 hj) rfl rfl hh (by decide) hw hln d kk
def yWordOrd : MethodName := ⟨RX11, "ordinal", "()I"⟩
theorem wq_ordinal {j index : Nat} (hj : j < 15) (hh : 1 < Y.2.2.2.2) (hw : (st.map fun v => v.category).sum ≤ 8) (hln : Cond.methodLink Y.1.cls index yWordOrd ∈ lw_good) (d : decode Y.2.1 pc = .ok (.invokevirtual index, 3)) (kk : ∀ gr' : Nat → Nat, WQ Z Y I0 gr' (pc + 3) lv (vi ((j : Nat) : Int) :: st) I e κ) : WQ Z Y I0 gr pc lv (vr Z 11 j :: st) I e κ :=
  wq_pU (C := RX11) (owner := "java/lang/Enum") (x := yWordOrd) (v := vi ((j : Nat) : Int)) (As := []) (R_ordinal Z j hj _) (rcv_11 hj) rfl rfl rfl hh (by decide) hw hln (li_3 97 (by decide +kernel) (by decide +kernel)) (li_3 99 (by decide +kernel) (by decide +kernel)) (li_3 100 (by decide +kernel) (by decide +kernel)) (li_1 10 (by decide +kernel) (by decide +kernel)) (li_3 101 (by decide +kernel) (by decide +kernel)) (by decide +kernel) d kk
end STRS2
end
section
/-! ===== methods that throw ===== -/
abbrev xIA : String := "java/lang/IllegalArgumentException"
abbrev xIO : String := "java/lang/IndexOutOfBoundsException"
abbrev xNS : String := "java/util/NoSuchElementException"
abbrev xUp : List String := ["java/lang/RuntimeException", "java/lang/Exception"]
/-- one cell of six slots is made -/
def thrw (I : Mem) : Mem := sI (sI I 30 0 0 (I 30 0 0 + 1)) 30 0 1 (I 30 0 1 + 6)
theorem thrw_0 (I : Mem) : thrw I 30 0 0 = I 30 0 0 + 1 := by
  unfold thrw
  rw [sI_ne (by decide), sI_self]
theorem thrw_1 (I : Mem) : thrw I 30 0 1 = I 30 0 1 + 6 := sI_self _ _ _ _ _
theorem thrw_o {I : Mem} {k i s : Nat} (h : k ≠ 30) : thrw I k i s = I k i s := by
  unfold thrw
  rw [sI_ne (fun q => h q.1), sI_ne (fun q => h q.1)]
theorem thrw_ent {Z : ZT} {gr : Nat → Nat} {I : Mem} {k i : Nat} (hi : i < ksz k) : ent Z gr (thrw I) k i = ent Z gr I k i := by
  have hk : k ≠ 30 := fun e => by rw [e] at hi; exact absurd hi (by simp [ksz])
  exact ent_congr (fun s => thrw_o hk) (fun _ => thrw_o (by decide)) (fun _ => thrw_o (by decide))
/-- the heap grows, the old cells stay -/
theorem HHA.more {Z : ZT} {gr : Nat → Nat} {I : Mem} {H H1 : Heap} (h : HHA Z gr I H) (hz : H.size ≤ H1.size) (hq : ∀ q : Nat, q < H.size → H1[q]? = H[q]?) : HHA Z gr I H1 := by
  obtain ⟨⟨h1, h2, h3⟩, h4, h5, h6⟩ := h
  refine ⟨⟨h1, Nat.le_trans h2 hz, fun q hq1 => by rw [hq q (Nat.lt_of_lt_of_le hq1 h2)]; exact h3 q hq1⟩, h4, h5, fun k i hi => (h6 k i hi).kept (hq _ (h6 k i hi).lt)⟩
/-- the words of a throw of class X, link ik, by the constructor at ic -/
def Thr (own X : String) (ik ic : Nat) : Prop :=
  (Bundle.fit X = true ∧ ∀ n ∈ xUp, Bundle.fit n = true) ∧ Cond.classLink own ik X ∈ lw_good ∧ Cond.initialized X ∈ lw_good ∧
  (∀ w ∈ (vx_at0 own ic X xUp).filter goodWord, w ∈ lw_good) ∧ (∀ w ∈ (vx_at0 own ic X xUp).filter (fun w => !goodWord w), w ∈ lw_nw) ∧
  ∀ w ∈ Cond.classLink own ik X :: Cond.initialized X :: vx_at0 own ic X xUp, vx_ot w = true
theorem lm_1 {w : Cond} (h : w ∈ tables_1_1) : w ∈ tables_1 := (List.mem_append_left _ h)
theorem lm_2 {w : Cond} (h : w ∈ tables_1_2) : w ∈ tables_1 := (List.mem_append_right _ (List.mem_append_left _ h))
theorem lm_3 {w : Cond} (h : w ∈ tables_1_3) : w ∈ tables_1 := (List.mem_append_right _ (List.mem_append_right _ (List.mem_append_left _ h)))
theorem lm_4 {w : Cond} (h : w ∈ tables_1_4) : w ∈ tables_1 := (List.mem_append_right _ (List.mem_append_right _ (List.mem_append_right _ (List.mem_append_left _ h))))
theorem lm_5 {w : Cond} (h : w ∈ tables_1_5) : w ∈ tables_1 := (List.mem_append_right _ (List.mem_append_right _ (List.mem_append_right _ (List.mem_append_right _ (List.mem_append_left _ h)))))
theorem lm_6 {w : Cond} (h : w ∈ tables_1_6) : w ∈ tables_1 := (List.mem_append_right _ (List.mem_append_right _ (List.mem_append_right _ (List.mem_append_right _ (List.mem_append_right _ (List.mem_append_left _ h))))))
theorem lm_7 {w : Cond} (h : w ∈ tables_1_7) : w ∈ tables_1 := (List.mem_append_right _ (List.mem_append_right _ (List.mem_append_right _ (List.mem_append_right _ (List.mem_append_right _ (List.mem_append_right _ (List.mem_append_left _ h)))))))
theorem lm_8 {w : Cond} (h : w ∈ tables_1_8) : w ∈ tables_1 := (List.mem_append_right _ (List.mem_append_right _ (List.mem_append_right _ (List.mem_append_right _ (List.mem_append_right _ (List.mem_append_right _ (List.mem_append_right _ (List.mem_append_left _ h))))))))
theorem lm_9 {w : Cond} (h : w ∈ tables_1_9) : w ∈ tables_1 := (List.mem_append_right _ (List.mem_append_right _ (List.mem_append_right _ (List.mem_append_right _ (List.mem_append_right _ (List.mem_append_right _ (List.mem_append_right _ (List.mem_append_right _ (List.mem_append_left _ h)))))))))
theorem lm_10 {w : Cond} (h : w ∈ tables_1_10) : w ∈ tables_1 := (List.mem_append_right _ (List.mem_append_right _ (List.mem_append_right _ (List.mem_append_right _ (List.mem_append_right _ (List.mem_append_right _ (List.mem_append_right _ (List.mem_append_right _ (List.mem_append_right _ h)))))))))
theorem thr_sub {L : List Cond} (h : ∀ w ∈ L, w ∈ (tables_1_1.drop 22).take 8 ∨ w ∈ (tables_1_5.drop 137).take 103 ∨ w ∈ (tables_1_6.drop 0).take 215 ∨ w ∈ (tables_1_10.drop 3).take 18 ∨ w ∈ lw_tbl) : ∀ w ∈ L, w ∈ lw_tbl := by
  intro w hw
  rcases h w hw with z | z | z | z | z
  · exact List.mem_append_right _ (lm_1 (List.mem_of_mem_drop (List.mem_of_mem_take z)))
  · exact List.mem_append_right _ (lm_5 (List.mem_of_mem_drop (List.mem_of_mem_take z)))
  · exact List.mem_append_right _ (lm_6 (List.mem_of_mem_drop (List.mem_of_mem_take z)))
  · exact List.mem_append_right _ (lm_10 (List.mem_of_mem_drop (List.mem_of_mem_take z)))
  · exact z
theorem thr_IA : Thr RX12 xIA 182 184 := ⟨by decide +kernel, li_5 187 (by decide +kernel) (by decide +kernel), li_1 25 (by decide +kernel) (by decide +kernel), fun w hw => List.mem_filter.mpr ⟨thr_sub (by decide +kernel) w hw, (List.mem_filter.mp hw).2⟩, fun w hw => List.mem_filter.mpr ⟨thr_sub (by decide +kernel) w hw, (by decide +kernel : ∀ w ∈ (vx_at0 RX12 184 xIA xUp).filter (fun w => !goodWord w), nwW w = true) w hw⟩, by decide +kernel⟩
theorem thr_IO : Thr RX12 xIO 185 187 := ⟨by decide +kernel, li_6 18 (by decide +kernel) (by decide +kernel), li_1 26 (by decide +kernel) (by decide +kernel), fun w hw => List.mem_filter.mpr ⟨thr_sub (by decide +kernel) w hw, (List.mem_filter.mp hw).2⟩, fun w hw => List.mem_filter.mpr ⟨thr_sub (by decide +kernel) w hw, (by decide +kernel : ∀ w ∈ (vx_at0 RX12 187 xIO xUp).filter (fun w => !goodWord w), nwW w = true) w hw⟩, by decide +kernel⟩
theorem thr_NS : Thr RX12 xNS 313 315 := ⟨by decide +kernel, li_6 200 (by decide +kernel) (by decide +kernel), li_1 29 (by decide +kernel) (by decide +kernel), fun w hw => List.mem_filter.mpr ⟨thr_sub (by decide +kernel) w hw, (List.mem_filter.mp hw).2⟩, fun w hw => List.mem_filter.mpr ⟨thr_sub (by decide +kernel) w hw, (by decide +kernel : ∀ w ∈ (vx_at0 RX12 315 xNS xUp).filter (fun w => !goodWord w), nwW w = true) w hw⟩, by decide +kernel⟩
section THROW
variable {Z : ZT} {Y : YT} {I0 : Mem} {gr : Nat → Nat} {pc : Nat} {lv : List (Nat × Value)} {I : Mem} {α : Type} {κ : α → Mem → Option OT}
theorem wq_throw {E : String} {ik ic : Nat} {b : α} (hT : Thr Y.1.cls E ik ic) (hh : 6 ≤ Y.2.2.2.2) (hx : (xtb Y.1).isEmpty = true) (h : κ b (thrw I) = some (.inr E, thrw I))
    (d0 : decode Y.2.1 pc = .ok (.new ik, 3)) (d3 : decode Y.2.1 (pc + 3) = .ok (.dup, 1)) (d4 : decode Y.2.1 (pc + 4) = .ok (.invokespecial ic, 3)) (d7 : decode Y.2.1 (pc + 7) = .ok (.athrow, 1)) :
    WQ Z Y I0 gr pc lv [] I (ltI (thrw I) fun J => some (b, J)) κ := by
  intro o ho
  have ho : some o = some (.inr E, thrw I) := ho.symm.trans h
  cases ho
  have e0 := thrw_0 I
  have e1 := thrw_1 I
  refine ⟨⟨by show I 30 0 0 ≤ thrw I 30 0 0; omega, by show I 30 0 1 ≤ thrw I 30 0 1; omega⟩, fun X B hcl H locs ls hH hlo hl => ?_⟩
  obtain ⟨⟨hf1, hf2⟩, hw1, hw2, hw3, hw4, hw5⟩ := hT
  obtain ⟨I1, gr1, hH1⟩ := B.2.2.2.2.2.2.2.2.2.2
  have hS := B.2.2.2.2.2.1.2.2.2.2.2.2.2.2.1
  have hgd := fun w (hw : w ∈ lw_good) => B.2.2.2.2.1 w hw
  have hold : ∀ a : Nat, a < (zH Z).size → ¬ zN Z a → X.2.2.2.1.heap[a]? = (zH Z)[a]? := fun a ha hn => hH1.1.2.2 a (by rw [← hH1.1.1]; exact ha)
  have hdc : dC I0 I + 1 = dC I0 (thrw I) := by
    have := hcl.1
    unfold dC
    omega
  have hds : dS I0 I + 6 = dS I0 (thrw I) := by
    have := hcl.2
    unfold dS
    omega
  intro T hT XX
  have hfr := vx_frame (U := T) XX.same
  have hSS : va_S (zN Z) X.2.2.2.1.heap H locs := by
    rw [← hT]
    refine ⟨hfr.1, fun q hq hn => hfr.2 q hq (fun z hz e => hn (by rw [← e]; exact hlo z hz)), hlo⟩
  have hat : ∀ w ∈ vx_at0 Y.1.cls ic E xUp, w.before X.2.2.2.2.2.1 X.2.2.2.1 = true := by
    refine vx_hat (B := (vx_at0 Y.1.cls ic E xUp).filter (fun w => !goodWord w)) (fun w hw => hgd w (hw3 w hw)) (fun w hw => hw) (fun w hw => ?_)
    have hn := B.2.2.2.2.2.1.2.2.2.2.2.2.2.2.2.2 w (hw4 w hw)
    have hot := hw5 w (List.mem_cons_of_mem _ (List.mem_cons_of_mem _ (List.mem_filter.mp hw).1))
    have hng := (List.mem_filter.mp hw).2
    simp only [vx_ot, Bool.or_eq_true] at hot
    rcases hot with hot | hot
    · exact va_tabs hot rfl hn
    · rw [hot] at hng; cases hng
  refine vx_throw0 (A := zN Z) (names := xUp) B.1 B.2.1 B.2.2.2.2.2.2.2.2.1 B.2.2.2.1 hf1 hf2 (hgd _ hw1) (hgd _ hw2) hat hw5 (vx_Zq.kept hS.2.2.1 hold) (vx_Zq.kept hS.2.2.2.1 hold) hSS (hl.1.trans B.2.2.1.symm) d0 d3 d4 d7 (fun x hxm => ?_) ?_ ?_ ?_ ?_ B.2.2.2.2.2.2.2.1 (fun t _ hz hq => ⟨rfl, gr, ?_⟩) hlo ?_ ?_ T hT XX
  · rw [B.2.2.2.2.2.2.2.2.2.1, List.isEmpty_iff.mp hx] at hxm
    cases hxm
  · show 2 + 3 < Y.2.2.2.2
    omega
  · show 0 + (13 * (2 + 1) + 42) ≤ 35 * Y.2.2.2.2
    omega
  · show dC I0 I + 1 ≤ dC I0 (thrw I)
    omega
  · show dS I0 I + 6 ≤ dS I0 (thrw I)
    omega
  · show dC I0 I + 1 ≤ dC I0 (thrw I)
    omega
  · show dS I0 I + 6 ≤ dS I0 (thrw I)
    omega
  · have hm := HHA.more hH hz hq
    exact ⟨hm.1, hm.2.1, hm.2.2.1, fun k i hi => by rw [thrw_ent hi]; exact hm.2.2.2 k i hi⟩
end THROW
/-- method y throws an object of class E -/
def RunsT (Z : ZT) (y : MethodName) (cc : ByteArray) (maxL : Nat) (ret : Option FieldType) (h : Nat) (av : List Value) (I : Mem) (E : String) (J : Mem) : Prop :=
  cle I J ∧ ∀ l : Launch, l.stackTraces = false → vx_Met l y (wsAll y cc maxL ret) (rmH h (dC I J) (dS I J)) (Pcz Z av I) (fun _ _ _ _ => False) (fun E' _ t => E' = E ∧ HH Z J t.heap) (dC I J) (dS I J) (zN Z)
/-- an answer or a throw -/
def xo {β : Type} (rv : β → Option Value) : β ⊕ String → Option Value ⊕ String
  | .inl b => .inl (rv b)
  | .inr E => .inr E
def RX (Z : ZT) (y : MethodName) (cc : ByteArray) (maxL : Nat) (ret : Option FieldType) (h : Nat) (av : List Value) (I : Mem) {β : Type} (rv : β → Option Value) (f : Option ((β ⊕ String) × Mem)) : Prop :=
  (∀ (r : β) (J : Mem), f = some (.inl r, J) → Runs Z y cc maxL ret h av I (rv r, J)) ∧ ∀ (E : String) (J : Mem), f = some (.inr E, J) → RunsT Z y cc maxL ret h av I E J
theorem RX.of {Z : ZT} {I : Mem} {β : Type} {rv : β → Option Value} {f : Option ((β ⊕ String) × Mem)} {y : MethodName} {cc : ByteArray} {maxL h : Nat} {ret : Option FieldType} {av : List Value} (hy : (plainName y.cls && (xtb y).isEmpty) = true) (hlen : (lg_sl av).length ≤ maxL)
    (k : ∀ gr : Nat → Nat, WQ Z (y, cc, maxL, ret, h) I gr 0 (lv_args 0 av) [] I f (fun b K => some (xo rv b, K))) : RX Z y cc maxL ret h av I rv f := by
  refine ⟨fun r J hf => ?_, fun E J hf => ?_⟩
  · exact Runs.of (rv := rv) (f := some (r, J)) hy hlen rfl (fun gr o ho => k gr o (by rw [hf]; exact ho))
  · rw [Bool.and_eq_true] at hy
    have k := fun gr => k gr (.inr E, J) (by rw [hf]; rfl)
    refine ⟨(k (fun _ => 0)).1, fun l hfl => ?_⟩
    refine vx_ofW (cc := cc) (maxL := maxL) (ret := ret) hy.1 rfl ?_
    intro p e s m args below meth c s₁ B hml _ hv
    have htb := tab_nil (ws := wsAll y cc maxL ret) B List.mem_cons_self hy.2
    obtain ⟨rfl, ⟨gr, hH⟩, hKK⟩ := hv
    have hts : ∀ w ∈ lw_good, w.before av.toArray s = true := fun w hw => atoms_spec (ws := wsAll y cc maxL ret) B.pre w (List.mem_cons_of_mem _ hw)
    have hown := findClass_of_methodNamed B.named
    have hl := lv_entry av (n := maxL) hlen
    rw [lg_entry_eq]
    have hk := (k gr).2 (p, l, e, s, m, av.toArray, below, meth, c) ⟨B.exec, B.bytes, hml, hown, hts, hKK, B.returns, B.notSynchronized, hfl, htb, I, gr, hH⟩ (cle.refl I) s.heap [] _ hH (fun q hq => by cases hq) hl
    have e1 : dC I I = 0 := by unfold dC; omega
    have e2 : dS I I = 0 := by unfold dS; omega
    rw [e1, e2] at hk
    exact hk
end
