/-! ===== the instructions, over the logical memory ===== -/
theorem w_toInt (x : Int) : (Int32.ofInt x).toInt = w32 x := Int32.toInt_ofInt
theorem w_eq (x y : Int) : Int32.ofInt x = Int32.ofInt y ↔ w32 x = w32 y := by rw [← Int32.toInt_inj, w_toInt, w_toInt]
theorem w_lt (x y : Int) : Int32.ofInt x < Int32.ofInt y ↔ w32 x < w32 y := by rw [Int32.lt_iff_toInt_lt, w_toInt, w_toInt]
theorem w_le (x y : Int) : Int32.ofInt x ≤ Int32.ofInt y ↔ ¬ w32 y < w32 x := by rw [Int32.le_iff_toInt_le, w_toInt, w_toInt]; omega
theorem w_0 : w32 0 = 0 := by decide
theorem w_in {x x' m : Int} {n : Nat} (hx : w32 x = x') (h : 0 ≤ x' ∧ x' < m) (hm : m.toNat ≤ n) : vp_in (Int32.ofInt x) n := by
  rw [vp_in_iff, w_toInt, hx]; omega
theorem w_nat {x x' : Int} (hx : w32 x = x') : (Int32.ofInt x).toNatClampNeg = x'.toNat := by
  show (Int32.ofInt x).toInt.toNat = _
  rw [w_toInt, hx]
theorem i_add (x y : Int) : Int32.ofInt x + Int32.ofInt y = Int32.ofInt (x + y) := (Int32.ofInt_add x y).symm
theorem i_sub (x y : Int) : Int32.ofInt x - Int32.ofInt y = Int32.ofInt (x - y) := by
  apply Int32.toInt_inj.mp; rw [Int32.toInt_sub, w_toInt, w_toInt, w_toInt]; unfold w32; simp
theorem i_mul (x y : Int) : Int32.ofInt x * Int32.ofInt y = Int32.ofInt (x * y) := (Int32.ofInt_mul x y).symm
theorem i_neg (x : Int) : -Int32.ofInt x = Int32.ofInt (-x) := (Int32.ofInt_neg x).symm
def idv (x y : Int) : Int := (w32 x).tdiv (w32 y)
def irm (x y : Int) : Int := x - idv x y * y
theorem i_div (x y : Int) : Int32.ofInt x / Int32.ofInt y = Int32.ofInt (idv x y) := by
  apply Int32.toInt_inj.mp; rw [Int32.toInt_div, w_toInt, w_toInt, w_toInt]; rfl
theorem i_rem (x y : Int) : Int32.ofInt x - Int32.ofInt x / Int32.ofInt y * Int32.ofInt y = Int32.ofInt (irm x y) := by
  rw [i_div, i_mul, i_sub]; rfl
def ian (x y : Int) : Int := (Int32.ofInt x &&& Int32.ofInt y).toInt
def ior (x y : Int) : Int := (Int32.ofInt x ||| Int32.ofInt y).toInt
def ish (x y : Int) : Int := (Int32.ofInt x <<< (Int32.ofInt y &&& 31)).toInt
def isr (x y : Int) : Int := (Int32.ofInt x >>> (Int32.ofInt y &&& 31)).toInt
def ius (x y : Int) : Int := ((Int32.ofInt x).toUInt32 >>> ((Int32.ofInt y).toUInt32 &&& Int32.toUInt32 31)).toInt32.toInt
def i2b (x : Int) : Int := (Int32.ofInt x).toInt8.toInt32.toInt
def stl (i : Nat) (v : Value) (lv : List (Nat × Value)) : List (Nat × Value) := (i, v) :: lv.filter (fun q => !(q.1 == i) && !(q.1 + 1 == i && q.2.category == 2))
section ROWS
variable {Z : ZT} {Y : YT} {I0 : Mem} {gr : Nat → Nat} {pc : Nat} {lv : List (Nat × Value)} {st : List Value} {I : Mem} {α : Type} {e e1 e2 : Option (α × Mem)} {κ : α → Mem → Option OT}
theorem wq_iconst {n : Int} (d : decode Y.2.1 pc = .ok (.iconst n, 1)) (k : WQ Z Y I0 gr (pc + 1) lv (vi n :: st) I e κ) : WQ Z Y I0 gr pc lv st I e κ :=
  WQ.go (fun _ B _ _ _ ls _ _ _ hl kk => lv_iconst B.1 B.2.1 d rfl (kk ls hl)) k
theorem wq_bipush {n : Int} (d : decode Y.2.1 pc = .ok (.bipush n, 2)) (hv : (Int8.ofInt n).toInt32 = Int32.ofInt n) (k : WQ Z Y I0 gr (pc + 2) lv (vi n :: st) I e κ) : WQ Z Y I0 gr pc lv st I e κ :=
  WQ.go (fun _ B _ _ _ ls _ _ _ hl kk => lv_bipush B.1 B.2.1 d hv (kk ls hl)) k
theorem wq_sipush {n : Int} (d : decode Y.2.1 pc = .ok (.sipush n, 3)) (hv : (Int16.ofInt n).toInt32 = Int32.ofInt n) (k : WQ Z Y I0 gr (pc + 3) lv (vi n :: st) I e κ) : WQ Z Y I0 gr pc lv st I e κ :=
  WQ.go (fun _ B _ _ _ ls _ _ _ hl kk => lv_sipush B.1 B.2.1 d hv (kk ls hl)) k
theorem wq_ldc {index : Nat} {n : Int} (hw : Cond.constant Y.1.cls index (Int32.ofInt n) ∈ lw_good) (d : decode Y.2.1 pc = .ok (.ldc index, 2)) (k : WQ Z Y I0 gr (pc + 2) lv (vi n :: st) I e κ) : WQ Z Y I0 gr pc lv st I e κ :=
  WQ.go (fun _ B _ _ _ ls _ _ _ hl kk => lv_ldc B.1 B.2.1 B.2.2.2.1 (B.2.2.2.2.1 _ hw) d (kk ls hl)) k
theorem wq_iload_n {j : Nat} {x : Int} {c : Fin 4} (d : decode Y.2.1 pc = .ok (.iload_n c, 1)) (j' : Nat) (hj : (c : Nat) = j) (hl : lv[j']? = some (j, vi x)) (k : WQ Z Y I0 gr (pc + 1) lv (vi x :: st) I e κ) : WQ Z Y I0 gr pc lv st I e κ :=
  WQ.go (fun _ B _ _ _ ls _ _ _ h kk => lv_iload_n B.1 B.2.1 d hj (lv_at h j' hl) (kk ls h)) k
theorem wq_iload {j : Nat} {x : Int} (d : decode Y.2.1 pc = .ok (.iload j, 2)) (j' : Nat) (hl : lv[j']? = some (j, vi x)) (k : WQ Z Y I0 gr (pc + 2) lv (vi x :: st) I e κ) : WQ Z Y I0 gr pc lv st I e κ :=
  WQ.go (fun _ B _ _ _ ls _ _ _ h kk => lv_iload B.1 B.2.1 d (lv_at h j' hl) (kk ls h)) k
theorem wq_aload_n {j x : Nat} {c : Fin 4} (d : decode Y.2.1 pc = .ok (.aload_n c, 1)) (j' : Nat) (hj : (c : Nat) = j) (hl : lv[j']? = some (j, .ref x)) (k : WQ Z Y I0 gr (pc + 1) lv (.ref x :: st) I e κ) : WQ Z Y I0 gr pc lv st I e κ :=
  WQ.go (fun _ B _ _ _ ls _ _ _ h kk => lv_aload_n B.1 B.2.1 d hj (lv_at h j' hl) (kk ls h)) k
theorem wq_aload {j x : Nat} (d : decode Y.2.1 pc = .ok (.aload j, 2)) (j' : Nat) (hl : lv[j']? = some (j, .ref x)) (k : WQ Z Y I0 gr (pc + 2) lv (.ref x :: st) I e κ) : WQ Z Y I0 gr pc lv st I e κ :=
  WQ.go (fun _ B _ _ _ ls _ _ _ h kk => lv_aload B.1 B.2.1 d (lv_at h j' hl) (kk ls h)) k
theorem wq_istore_n {j : Nat} {x : Int} {lv' : List (Nat × Value)} {c : Fin 4} (d : decode Y.2.1 pc = .ok (.istore_n c, 1)) (hj : (c : Nat) = j) (hn : j < Y.2.2.1) (hl : stl j (vi x) lv = lv') (k : WQ Z Y I0 gr (pc + 1) lv' st I e κ) : WQ Z Y I0 gr pc lv (vi x :: st) I e κ :=
  WQ.go (fun _ B _ _ _ ls _ _ _ h kk => lv_istore_n B.1 B.2.1 d hj h hn hl (fun ls' h' => kk ls' h')) k
theorem wq_istore {j : Nat} {x : Int} {lv' : List (Nat × Value)} (d : decode Y.2.1 pc = .ok (.istore j, 2)) (hn : j < Y.2.2.1) (hl : stl j (vi x) lv = lv') (k : WQ Z Y I0 gr (pc + 2) lv' st I e κ) : WQ Z Y I0 gr pc lv (vi x :: st) I e κ :=
  WQ.go (fun _ B _ _ _ ls _ _ _ h kk => lv_istore B.1 B.2.1 d h hn hl (fun ls' h' => kk ls' h')) k
theorem wq_astore_n {j x : Nat} {lv' : List (Nat × Value)} {c : Fin 4} (d : decode Y.2.1 pc = .ok (.astore_n c, 1)) (hj : (c : Nat) = j) (hn : j < Y.2.2.1) (hl : stl j (.ref x) lv = lv') (k : WQ Z Y I0 gr (pc + 1) lv' st I e κ) : WQ Z Y I0 gr pc lv (.ref x :: st) I e κ :=
  WQ.go (fun _ B _ _ _ ls _ _ _ h kk => lv_astore_n B.1 B.2.1 d hj h hn hl (fun ls' h' => kk ls' h')) k
theorem wq_astore {j x : Nat} {lv' : List (Nat × Value)} (d : decode Y.2.1 pc = .ok (.astore j, 2)) (hn : j < Y.2.2.1) (hl : stl j (.ref x) lv = lv') (k : WQ Z Y I0 gr (pc + 2) lv' st I e κ) : WQ Z Y I0 gr pc lv (.ref x :: st) I e κ :=
  WQ.go (fun _ B _ _ _ ls _ _ _ h kk => lv_astore B.1 B.2.1 d h hn hl (fun ls' h' => kk ls' h')) k
theorem wq_iinc {j : Nat} {n x : Int} {lv' : List (Nat × Value)} (d : decode Y.2.1 pc = .ok (.iinc j n, 3)) (j' : Nat) (hk : lv[j']? = some (j, vi x)) (hn : j < Y.2.2.1) (hl : stl j (vi (x + n)) lv = lv') (k : WQ Z Y I0 gr (pc + 3) lv' st I e κ) : WQ Z Y I0 gr pc lv st I e κ :=
  WQ.go (fun _ B _ _ _ ls _ _ _ h kk => lv_iinc B.1 B.2.1 d h (k := j') hk (i_add x n) hn hl (fun ls' h' => kk ls' h')) k
theorem wq_iadd {x y : Int} (d : decode Y.2.1 pc = .ok (.iadd, 1)) (k : WQ Z Y I0 gr (pc + 1) lv (vi (x + y) :: st) I e κ) : WQ Z Y I0 gr pc lv (vi y :: vi x :: st) I e κ :=
  WQ.go (fun _ B _ _ _ ls _ _ _ hl kk => lv_iadd B.1 B.2.1 d (by rw [i_add]; exact kk ls hl)) k
theorem wq_isub {x y : Int} (d : decode Y.2.1 pc = .ok (.isub, 1)) (k : WQ Z Y I0 gr (pc + 1) lv (vi (x - y) :: st) I e κ) : WQ Z Y I0 gr pc lv (vi y :: vi x :: st) I e κ :=
  WQ.go (fun _ B _ _ _ ls _ _ _ hl kk => lv_isub B.1 B.2.1 d (by rw [i_sub]; exact kk ls hl)) k
theorem wq_imul {x y : Int} (d : decode Y.2.1 pc = .ok (.imul, 1)) (k : WQ Z Y I0 gr (pc + 1) lv (vi (x * y) :: st) I e κ) : WQ Z Y I0 gr pc lv (vi y :: vi x :: st) I e κ :=
  WQ.go (fun _ B _ _ _ ls _ _ _ hl kk => lv_imul B.1 B.2.1 d (by rw [i_mul]; exact kk ls hl)) k
theorem wq_ineg {x : Int} (d : decode Y.2.1 pc = .ok (.ineg, 1)) (k : WQ Z Y I0 gr (pc + 1) lv (vi (-x) :: st) I e κ) : WQ Z Y I0 gr pc lv (vi x :: st) I e κ :=
  WQ.go (fun _ B _ _ _ ls _ _ _ hl kk => lv_ineg B.1 B.2.1 d (by rw [i_neg]; exact kk ls hl)) k
theorem wq_idiv {x y : Int} (d : decode Y.2.1 pc = .ok (.idiv, 1)) (h : ¬ Int32.ofInt y = 0) (k : WQ Z Y I0 gr (pc + 1) lv (vi (idv x y) :: st) I e κ) : WQ Z Y I0 gr pc lv (vi y :: vi x :: st) I e κ :=
  WQ.go (fun _ B _ _ _ ls _ _ _ hl kk => lv_idiv B.1 B.2.1 d h (by rw [i_div]; exact kk ls hl)) k
theorem wq_irem {x y : Int} (d : decode Y.2.1 pc = .ok (.irem, 1)) (h : ¬ Int32.ofInt y = 0) (k : WQ Z Y I0 gr (pc + 1) lv (vi (irm x y) :: st) I e κ) : WQ Z Y I0 gr pc lv (vi y :: vi x :: st) I e κ :=
  WQ.go (fun _ B _ _ _ ls _ _ _ hl kk => lv_irem B.1 B.2.1 d h (by rw [i_rem]; exact kk ls hl)) k
theorem wq_iand {x y : Int} (d : decode Y.2.1 pc = .ok (.iand, 1)) (k : WQ Z Y I0 gr (pc + 1) lv (vi (ian x y) :: st) I e κ) : WQ Z Y I0 gr pc lv (vi y :: vi x :: st) I e κ :=
  WQ.go (fun _ B _ _ _ ls _ _ _ hl kk => lv_iand B.1 B.2.1 d (by have := kk ls hl; simp only [ian, vi, Int32.ofInt_toInt] at this; exact this)) k
theorem wq_ior {x y : Int} (d : decode Y.2.1 pc = .ok (.ior, 1)) (k : WQ Z Y I0 gr (pc + 1) lv (vi (ior x y) :: st) I e κ) : WQ Z Y I0 gr pc lv (vi y :: vi x :: st) I e κ :=
  WQ.go (fun _ B _ _ _ ls _ _ _ hl kk => lv_ior B.1 B.2.1 d (by have := kk ls hl; simp only [ior, vi, Int32.ofInt_toInt] at this; exact this)) k
theorem wq_ishl {x y : Int} (d : decode Y.2.1 pc = .ok (.ishl, 1)) (k : WQ Z Y I0 gr (pc + 1) lv (vi (ish x y) :: st) I e κ) : WQ Z Y I0 gr pc lv (vi y :: vi x :: st) I e κ :=
  WQ.go (fun _ B _ _ _ ls _ _ _ hl kk => lv_ishl B.1 B.2.1 d (by have := kk ls hl; simp only [ish, vi, Int32.ofInt_toInt] at this; exact this)) k
theorem wq_ishr {x y : Int} (d : decode Y.2.1 pc = .ok (.ishr, 1)) (k : WQ Z Y I0 gr (pc + 1) lv (vi (isr x y) :: st) I e κ) : WQ Z Y I0 gr pc lv (vi y :: vi x :: st) I e κ :=
  WQ.go (fun _ B _ _ _ ls _ _ _ hl kk => lv_ishr B.1 B.2.1 d (by have := kk ls hl; simp only [isr, vi, Int32.ofInt_toInt] at this; exact this)) k
theorem wq_iushr {x y : Int} (d : decode Y.2.1 pc = .ok (.iushr, 1)) (k : WQ Z Y I0 gr (pc + 1) lv (vi (ius x y) :: st) I e κ) : WQ Z Y I0 gr pc lv (vi y :: vi x :: st) I e κ :=
  WQ.go (fun _ B _ _ _ ls _ _ _ hl kk => lv_iushr B.1 B.2.1 d (Int32.ofInt_toInt _).symm (kk ls hl)) k
theorem wq_i2b {x : Int} (d : decode Y.2.1 pc = .ok (.i2b, 1)) (k : WQ Z Y I0 gr (pc + 1) lv (vi (i2b x) :: st) I e κ) : WQ Z Y I0 gr pc lv (vi x :: st) I e κ :=
  WQ.go (fun _ B _ _ _ ls _ _ _ hl kk => lv_i2b B.1 B.2.1 d (Int32.ofInt_toInt _).symm (kk ls hl)) k
theorem wq_dup {v : Value} (d : decode Y.2.1 pc = .ok (.dup, 1)) (hv : v.category = 1) (k : WQ Z Y I0 gr (pc + 1) lv (v :: v :: st) I e κ) : WQ Z Y I0 gr pc lv (v :: st) I e κ :=
  WQ.go (fun _ B _ _ _ ls _ _ _ hl kk => lv_dup B.1 B.2.1 d hv (kk ls hl)) k
theorem wq_dup2 {u v : Value} (d : decode Y.2.1 pc = .ok (.dup2, 1)) (hu : u.category = 1) (hv : v.category = 1) (k : WQ Z Y I0 gr (pc + 1) lv (u :: v :: u :: v :: st) I e κ) : WQ Z Y I0 gr pc lv (u :: v :: st) I e κ :=
  WQ.go (fun _ B _ _ _ ls _ _ _ hl kk => lv_dup2_11 B.1 B.2.1 d hu hv (kk ls hl)) k
theorem wq_dup_x1 {u v : Value} (d : decode Y.2.1 pc = .ok (.dup_x1, 1)) (hu : u.category = 1) (hv : v.category = 1) (k : WQ Z Y I0 gr (pc + 1) lv (u :: v :: u :: st) I e κ) : WQ Z Y I0 gr pc lv (u :: v :: st) I e κ :=
  WQ.go (fun _ B _ _ _ ls _ _ _ hl kk => lv_dup_x1 B.1 B.2.1 d hu hv (kk ls hl)) k
theorem wq_pop {v : Value} (d : decode Y.2.1 pc = .ok (.pop, 1)) (hv : v.category = 1) (k : WQ Z Y I0 gr (pc + 1) lv st I e κ) : WQ Z Y I0 gr pc lv (v :: st) I e κ :=
  WQ.go (fun _ B _ _ _ ls _ _ _ hl kk => lv_pop B.1 B.2.1 d hv (kk ls hl)) k
theorem wq_goto {off : Int} (tgt : Nat) (d : decode Y.2.1 pc = .ok (.goto off, 3)) (ht : (pc : Int) + off = (tgt : Int)) (k : WQ Z Y I0 gr tgt lv st I e κ) : WQ Z Y I0 gr pc lv st I e κ :=
  WQ.go (fun _ B _ _ _ ls _ _ _ hl kk => lv_goto B.1 B.2.1 d ht (kk ls hl)) k
theorem wq_if_eq {off x x' : Int} (tgt : Nat) (d : decode Y.2.1 pc = .ok (.ifCond .eq off, 3)) (ht : (pc : Int) + off = (tgt : Int)) (hx : w32 x = x') (k1 : x' = 0 → WQ Z Y I0 gr tgt lv st I e1 κ) (k2 : ¬ x' = 0 → WQ Z Y I0 gr (pc + 3) lv st I e2 κ) : WQ Z Y I0 gr pc lv (vi x :: st) I (if x' = 0 then e1 else e2) κ :=
  WQ.br (fun _ B _ _ _ ls _ _ _ _ h1 h2 => lv_if_eq B.1 B.2.1 d ht (fun q => h1 (by rw [← hx, ← w_0]; exact (w_eq x 0).mp q)) (fun q => h2 (fun r => q ((w_eq x 0).mpr (by rw [hx, r, w_0]))))) k1 k2
theorem wq_if_ne {off x x' : Int} (tgt : Nat) (d : decode Y.2.1 pc = .ok (.ifCond .ne off, 3)) (ht : (pc : Int) + off = (tgt : Int)) (hx : w32 x = x') (k1 : x' = 0 → WQ Z Y I0 gr (pc + 3) lv st I e1 κ) (k2 : ¬ x' = 0 → WQ Z Y I0 gr tgt lv st I e2 κ) : WQ Z Y I0 gr pc lv (vi x :: st) I (if x' = 0 then e1 else e2) κ :=
  WQ.br (fun _ B _ _ _ ls _ _ _ _ h1 h2 => lv_if_ne B.1 B.2.1 d ht (fun q => h2 (fun r => q ((w_eq x 0).mpr (by rw [hx, r, w_0])))) (fun q => h1 (by rw [← hx, ← w_0]; exact (w_eq x 0).mp q))) k1 k2
theorem wq_if_lt {off x x' : Int} (tgt : Nat) (d : decode Y.2.1 pc = .ok (.ifCond .lt off, 3)) (ht : (pc : Int) + off = (tgt : Int)) (hx : w32 x = x') (k1 : x' < 0 → WQ Z Y I0 gr tgt lv st I e1 κ) (k2 : ¬ x' < 0 → WQ Z Y I0 gr (pc + 3) lv st I e2 κ) : WQ Z Y I0 gr pc lv (vi x :: st) I (if x' < 0 then e1 else e2) κ :=
  WQ.br (fun _ B _ _ _ ls _ _ _ _ h1 h2 => lv_if_lt B.1 B.2.1 d ht (fun q => h1 (by have := (w_lt x 0).mp q; rw [hx, w_0] at this; exact this)) (fun q => h2 (fun r => q ((w_lt x 0).mpr (by rw [hx, w_0]; exact r))))) k1 k2
theorem wq_if_ge {off x x' : Int} (tgt : Nat) (d : decode Y.2.1 pc = .ok (.ifCond .ge off, 3)) (ht : (pc : Int) + off = (tgt : Int)) (hx : w32 x = x') (k1 : x' < 0 → WQ Z Y I0 gr (pc + 3) lv st I e1 κ) (k2 : ¬ x' < 0 → WQ Z Y I0 gr tgt lv st I e2 κ) : WQ Z Y I0 gr pc lv (vi x :: st) I (if x' < 0 then e1 else e2) κ :=
  WQ.br (fun _ B _ _ _ ls _ _ _ _ h1 h2 => lv_if_ge B.1 B.2.1 d ht (fun q => h2 (by have := (w_le 0 x).mp q; rw [hx, w_0] at this; exact this)) (fun q => h1 (by have := mt (w_le 0 x).mpr q; rw [hx, w_0] at this; omega))) k1 k2
theorem wq_if_gt {off x x' : Int} (tgt : Nat) (d : decode Y.2.1 pc = .ok (.ifCond .gt off, 3)) (ht : (pc : Int) + off = (tgt : Int)) (hx : w32 x = x') (k1 : 0 < x' → WQ Z Y I0 gr tgt lv st I e1 κ) (k2 : ¬ 0 < x' → WQ Z Y I0 gr (pc + 3) lv st I e2 κ) : WQ Z Y I0 gr pc lv (vi x :: st) I (if 0 < x' then e1 else e2) κ :=
  WQ.br (fun _ B _ _ _ ls _ _ _ _ h1 h2 => lv_if_gt B.1 B.2.1 d ht (fun q => h1 (by have := (w_lt 0 x).mp q; rw [hx, w_0] at this; exact this)) (fun q => h2 (fun r => q ((w_lt 0 x).mpr (by rw [hx, w_0]; exact r))))) k1 k2
theorem wq_if_le {off x x' : Int} (tgt : Nat) (d : decode Y.2.1 pc = .ok (.ifCond .le off, 3)) (ht : (pc : Int) + off = (tgt : Int)) (hx : w32 x = x') (k1 : 0 < x' → WQ Z Y I0 gr (pc + 3) lv st I e1 κ) (k2 : ¬ 0 < x' → WQ Z Y I0 gr tgt lv st I e2 κ) : WQ Z Y I0 gr pc lv (vi x :: st) I (if 0 < x' then e1 else e2) κ :=
  WQ.br (fun _ B _ _ _ ls _ _ _ _ h1 h2 => lv_if_le B.1 B.2.1 d ht (fun q => h2 (by have := (w_le x 0).mp q; rw [hx, w_0] at this; exact this)) (fun q => h1 (by have := mt (w_le x 0).mpr q; rw [hx, w_0] at this; omega))) k1 k2
theorem wq_icmp_eq {off x y x' y' : Int} (tgt : Nat) (d : decode Y.2.1 pc = .ok (.if_icmp .eq off, 3)) (ht : (pc : Int) + off = (tgt : Int)) (hx : w32 x = x') (hy : w32 y = y') (k1 : x' = y' → WQ Z Y I0 gr tgt lv st I e1 κ) (k2 : ¬ x' = y' → WQ Z Y I0 gr (pc + 3) lv st I e2 κ) : WQ Z Y I0 gr pc lv (vi y :: vi x :: st) I (if x' = y' then e1 else e2) κ :=
  WQ.br (fun _ B _ _ _ ls _ _ _ _ h1 h2 => lv_icmp_eq B.1 B.2.1 d ht (fun q => h1 (by rw [← hx, ← hy]; exact (w_eq x y).mp q)) (fun q => h2 (fun r => q ((w_eq x y).mpr (by rw [hx, r, hy]))))) k1 k2
theorem wq_icmp_ne {off x y x' y' : Int} (tgt : Nat) (d : decode Y.2.1 pc = .ok (.if_icmp .ne off, 3)) (ht : (pc : Int) + off = (tgt : Int)) (hx : w32 x = x') (hy : w32 y = y') (k1 : x' = y' → WQ Z Y I0 gr (pc + 3) lv st I e1 κ) (k2 : ¬ x' = y' → WQ Z Y I0 gr tgt lv st I e2 κ) : WQ Z Y I0 gr pc lv (vi y :: vi x :: st) I (if x' = y' then e1 else e2) κ :=
  WQ.br (fun _ B _ _ _ ls _ _ _ _ h1 h2 => lv_icmp_ne B.1 B.2.1 d ht (fun q => h2 (fun r => q ((w_eq x y).mpr (by rw [hx, r, hy])))) (fun q => h1 (by rw [← hx, ← hy]; exact (w_eq x y).mp q))) k1 k2
theorem wq_icmp_lt {off x y x' y' : Int} (tgt : Nat) (d : decode Y.2.1 pc = .ok (.if_icmp .lt off, 3)) (ht : (pc : Int) + off = (tgt : Int)) (hx : w32 x = x') (hy : w32 y = y') (k1 : x' < y' → WQ Z Y I0 gr tgt lv st I e1 κ) (k2 : ¬ x' < y' → WQ Z Y I0 gr (pc + 3) lv st I e2 κ) : WQ Z Y I0 gr pc lv (vi y :: vi x :: st) I (if x' < y' then e1 else e2) κ :=
  WQ.br (fun _ B _ _ _ ls _ _ _ _ h1 h2 => lv_icmp_lt B.1 B.2.1 d ht (fun q => h1 (by have := (w_lt x y).mp q; rw [hx, hy] at this; exact this)) (fun q => h2 (fun r => q ((w_lt x y).mpr (by rw [hx, hy]; exact r))))) k1 k2
theorem wq_icmp_ge {off x y x' y' : Int} (tgt : Nat) (d : decode Y.2.1 pc = .ok (.if_icmp .ge off, 3)) (ht : (pc : Int) + off = (tgt : Int)) (hx : w32 x = x') (hy : w32 y = y') (k1 : x' < y' → WQ Z Y I0 gr (pc + 3) lv st I e1 κ) (k2 : ¬ x' < y' → WQ Z Y I0 gr tgt lv st I e2 κ) : WQ Z Y I0 gr pc lv (vi y :: vi x :: st) I (if x' < y' then e1 else e2) κ :=
  WQ.br (fun _ B _ _ _ ls _ _ _ _ h1 h2 => lv_icmp_ge B.1 B.2.1 d ht (fun q => h2 (by have := (w_le y x).mp q; rw [hx, hy] at this; exact this)) (fun q => h1 (by have := mt (w_le y x).mpr q; rw [hx, hy] at this; omega))) k1 k2
theorem wq_icmp_gt {off x y x' y' : Int} (tgt : Nat) (d : decode Y.2.1 pc = .ok (.if_icmp .gt off, 3)) (ht : (pc : Int) + off = (tgt : Int)) (hx : w32 x = x') (hy : w32 y = y') (k1 : y' < x' → WQ Z Y I0 gr tgt lv st I e1 κ) (k2 : ¬ y' < x' → WQ Z Y I0 gr (pc + 3) lv st I e2 κ) : WQ Z Y I0 gr pc lv (vi y :: vi x :: st) I (if y' < x' then e1 else e2) κ :=
  WQ.br (fun _ B _ _ _ ls _ _ _ _ h1 h2 => lv_icmp_gt B.1 B.2.1 d ht (fun q => h1 (by have := (w_lt y x).mp q; rw [hx, hy] at this; exact this)) (fun q => h2 (fun r => q ((w_lt y x).mpr (by rw [hx, hy]; exact r))))) k1 k2
theorem wq_icmp_le {off x y x' y' : Int} (tgt : Nat) (d : decode Y.2.1 pc = .ok (.if_icmp .le off, 3)) (ht : (pc : Int) + off = (tgt : Int)) (hx : w32 x = x') (hy : w32 y = y') (k1 : y' < x' → WQ Z Y I0 gr (pc + 3) lv st I e1 κ) (k2 : ¬ y' < x' → WQ Z Y I0 gr tgt lv st I e2 κ) : WQ Z Y I0 gr pc lv (vi y :: vi x :: st) I (if y' < x' then e1 else e2) κ :=
  WQ.br (fun _ B _ _ _ ls _ _ _ _ h1 h2 => lv_icmp_le B.1 B.2.1 d ht (fun q => h2 (by have := (w_le x y).mp q; rw [hx, hy] at this; exact this)) (fun q => h1 (by have := mt (w_le x y).mpr q; rw [hx, hy] at this; omega))) k1 k2
end ROWS
