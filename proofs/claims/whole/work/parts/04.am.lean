/-! THE ABSTRACT MACHINE: memory (ints, longs, references, cells made, places made, the script's length), one instruction, runs -/
abbrev am_M : Type := (Nat → Nat → Int32) × (Nat → Nat → Int64) × (Nat → Nat → Option Nat) × Nat × Nat × Nat
abbrev am_L : Type := List (Option Value)
abbrev am_K : Type := Nat → am_L → List Value → am_M → Prop
abbrev am_C : Type := Nat → List Value → am_M → (Option Value → am_M → Prop) → Prop
def am_k (v : Int) : Int32 := match v with
  | .ofNat n => nI n
  | .negSucc n => Int32.ofInt (.negSucc n)
def am_kl (v : Int) : Int64 := match v with
  | .ofNat n => lN n
  | .negSucc n => Int64.ofInt (.negSucc n)
theorem am_k_eq (v : Int) : am_k v = Int32.ofInt v := by
  cases v with
  | ofNat n => rfl
  | negSucc n => rfl
theorem am_kl_eq (v : Int) : am_kl v = Int64.ofInt v := by
  cases v with
  | ofNat n => rfl
  | negSucc n => rfl
def am_un (i : Int32) : Nat := i.toBitVec.toNat
def am_u1 {α : Type} (f : Nat → α) (i : Nat) (v : α) : Nat → α := fun j => cond (Nat.beq j i) v (f j)
def am_sr {α : Type} (I : Nat → Nat → α) (a : Nat) (g : Nat → α) : Nat → Nat → α := fun b => cond (Nat.beq b a) g (I b)
/-- n rows from a on are made of the same row -/
def am_zr {α : Type} (I : Nat → Nat → α) (a n : Nat) (g : Nat → α) : Nat → Nat → α := fun b => cond (Nat.ble a b && Nat.ble (b + 1) (a + n)) g (I b)
def am_ok (M : am_M) (a t : Nat) : Bool := Nat.beq (sh_t a) t && Nat.ble (a + 1) M.2.2.2.1
def am_len (M : am_M) (a : Nat) : Nat := cond (Nat.beq a 0) M.2.2.2.2.2 (sh_n a)
def am_nth : am_L → Nat → Option Value
  | [], _ => none
  | v :: _, 0 => v
  | _ :: l, n + 1 => am_nth l n
def am_set : am_L → Nat → Option Value → am_L
  | [], _, _ => []
  | _ :: l, 0, w => w :: l
  | v :: l, n + 1, w => v :: am_set l n w
/-- no long begins at the place before -/
def am_nl (L : am_L) (i : Nat) : Bool := match i with
  | 0 => true
  | j + 1 => match am_nth L j with
    | some (.long _) => false
    | some (.double _) => false
    | _ => true
def am_pi (st : List Value) (f : Int32 → List Value → Prop) : Prop := match st with
  | .int x :: r => f x r
  | _ => False
def am_pl (st : List Value) (f : Int64 → List Value → Prop) : Prop := match st with
  | .long x :: r => f x r
  | _ => False
def am_pr (st : List Value) (f : Nat → List Value → Prop) : Prop := match st with
  | .ref x :: r => f x r
  | _ => False
def am_p1 (st : List Value) (f : Value → List Value → Prop) : Prop := match st with
  | v :: r => cond (Nat.beq v.category 1) (f v r) False
  | _ => False
def am_ob (o : Option Nat) (f : Nat → Prop) : Prop := match o with
  | some b => f b
  | none => False
def am_g (b : Bool) (p : Prop) : Prop := cond b p False
def am_br (A p q : Prop) : Prop := (A → p) ∧ (¬ A → q)
def am_li (L : am_L) (i : Nat) (f : Int32 → Prop) : Prop := match am_nth L i with
  | some (.int x) => f x
  | _ => False
def am_ll (L : am_L) (i : Nat) (f : Int64 → Prop) : Prop := match am_nth L i with
  | some (.long x) => f x
  | _ => False
def am_lr (L : am_L) (i : Nat) (f : Nat → Prop) : Prop := match am_nth L i with
  | some (.ref x) => f x
  | _ => False
def am_sw (x : Int32) (k : Int) (ts : List Int) (f : Nat → Prop) (d : Nat) : Prop := match ts with
  | [] => f d
  | t :: r => (x = am_k k → f t.toNat) ∧ (¬ x = am_k k → am_sw x (k + 1) r f d)
def am_lw (x : Int32) (ps : List (Int × Int)) (f : Nat → Prop) (d : Nat) : Prop := match ps with
  | [] => f d
  | q :: r => (x = am_k q.1 → f q.2.toNat) ∧ (¬ x = am_k q.1 → am_lw x r f d)
def am_pop : Nat → List Value → List Value → (List Value → List Value → Prop) → Prop
  | 0, st, acc, f => f acc st
  | n + 1, v :: st, acc, f => am_pop n st (v :: acc) f
  | _ + 1, [], _, _ => False
def am_cs : List Value → Nat
  | [] => 0
  | v :: r => v.category + am_cs r
/-- what comes behind a call, by the kind of its answer: 0 nothing, 1 an int, 2 a long, 3 a reference -/
def am_aft (rk : Nat) (v : Option Value) (f : List Value → Prop) : Prop := match rk with
  | 0 => v = none ∧ f []
  | 1 => ∃ x : Int32, v = some (.int x) ∧ f [.int x]
  | 2 => ∃ x : Int64, v = some (.long x) ∧ f [.long x]
  | _ => ∃ x : Nat, v = some (.ref x) ∧ f [.ref x]
/-- memory with its parts changed -/
def am_sI (M : am_M) (I : Nat → Nat → Int32) : am_M := (I, M.2.1, M.2.2.1, M.2.2.2.1, M.2.2.2.2.1, M.2.2.2.2.2)
def am_sL (M : am_M) (Lg : Nat → Nat → Int64) : am_M := (M.1, Lg, M.2.2.1, M.2.2.2.1, M.2.2.2.2.1, M.2.2.2.2.2)
def am_sR (M : am_M) (Rf : Nat → Nat → Option Nat) : am_M := (M.1, M.2.1, Rf, M.2.2.2.1, M.2.2.2.2.1, M.2.2.2.2.2)
/-- a cell more: its places are 0 and null -/
def am_new (M : am_M) : am_M := (am_sr M.1 M.2.2.2.1 (fun _ => 0), am_sr M.2.1 M.2.2.2.1 (fun _ => 0), am_sr M.2.2.1 M.2.2.2.1 (fun _ => none), M.2.2.2.1 + 1, M.2.2.2.2.1 + sh_n M.2.2.2.1, M.2.2.2.2.2)
/-- a row of n rows of k places more -/
def am_mul (M : am_M) (n k : Nat) : am_M := (am_zr (am_sr M.1 M.2.2.2.1 (fun _ => 0)) (M.2.2.2.1 + 1) n (fun _ => 0), am_zr (am_sr M.2.1 M.2.2.2.1 (fun _ => 0)) (M.2.2.2.1 + 1) n (fun _ => 0), am_sr (am_zr M.2.2.1 (M.2.2.2.1 + 1) n (fun _ => none)) M.2.2.2.1 (fun j => cond (Nat.ble (j + 1) n) (some (M.2.2.2.1 + 1 + j)) none), M.2.2.2.1 + 1 + n, M.2.2.2.2.1 + n + n * k, M.2.2.2.2.2)
def am_cpy (f g : Nat → Int64) (sp dp n : Nat) : Nat → Int64 := fun k => cond (Nat.ble dp k && Nat.ble (k + 1) (dp + n)) (f (sp + (k - dp))) (g k)
/-- one instruction; mt: of each method how many words it takes off, the kind of its answer, the class of its receiver (+1), the cells and places that it makes -/
def am_one (mt : Nat → Nat × Nat × Nat × Nat × Nat) (C : am_C) (zm sm : Nat) (Rt : Option Value → am_M → Prop) (ins : Instr) (ln pc : Nat) (L : am_L) (st : List Value) (M : am_M) (P : am_K) : Prop := match ins with
  | .sipush v => P (pc + ln) L (.int (am_k v) :: st) M
  | .jsr_w v => P (pc + ln) L (.long (am_kl v) :: st) M
  | .iload i => am_li L i fun x => P (pc + ln) L (.int x :: st) M
  | .lload i => am_ll L i fun x => P (pc + ln) L (.long x :: st) M
  | .aload i => am_lr L i fun x => P (pc + ln) L (.ref x :: st) M
  | .istore i => am_pi st fun x r => am_g (am_nl L i && Nat.ble (i + 1) L.length) (P (pc + ln) (am_set L i (some (.int x))) r M)
  | .astore i => am_pr st fun x r => am_g (am_nl L i && Nat.ble (i + 1) L.length) (P (pc + ln) (am_set L i (some (.ref x))) r M)
  | .lstore i => am_pl st fun x r => am_g (am_nl L i && Nat.ble (i + 2) L.length) (P (pc + ln) (am_set (am_set L i (some (.long x))) (i + 1) none) r M)
  | .iinc i n => am_li L i fun x => am_g (am_nl L i && Nat.ble (i + 1) L.length) (P (pc + ln) (am_set L i (some (.int (x + am_k n)))) st M)
  | .getfield q => am_pr st fun a r => am_g (am_ok M a (10 + q / 64)) (cond (Nat.beq (sh_f (q / 64) (q % 64)) 1) (am_ob (M.2.2.1 a (q % 64)) fun b => P (pc + ln) L (.ref b :: r) M) (P (pc + ln) L (.int (M.1 a (q % 64)) :: r) M))
  | .putfield q => cond (Nat.beq (sh_f (q / 64) (q % 64)) 1)
      (am_pr st fun b st => am_pr st fun a r => am_g (am_ok M a (10 + q / 64) && Nat.ble 12 a) (P (pc + ln) L r (am_sR M (am_sr M.2.2.1 a (am_u1 (M.2.2.1 a) (q % 64) (some b))))))
      (am_pi st fun x st => am_pr st fun a r => am_g (am_ok M a (10 + q / 64) && Nat.ble 12 a && (Nat.beq (sh_f (q / 64) (q % 64)) 0 || decide (x = 0) || decide (x = 1))) (P (pc + ln) L r (am_sI M (am_sr M.1 a (am_u1 (M.1 a) (q % 64) x)))))
  | .getstatic _ => P (pc + ln) L (.ref 1 :: st) M
  | .ldc k => P (pc + ln) L (.ref (2 + k) :: st) M
  | .iaload => am_pi st fun i st => am_pr st fun a r => am_g (am_ok M a 0) (am_un i < am_len M a ∧ P (pc + ln) L (.int (M.1 a (am_un i)) :: r) M)
  | .baload => am_pi st fun i st => am_pr st fun a r => am_g (am_ok M a 1) (am_un i < am_len M a ∧ P (pc + ln) L (.int (M.1 a (am_un i)) :: r) M)
  | .laload => am_pi st fun i st => am_pr st fun a r => am_g (am_ok M a 2) (am_un i < am_len M a ∧ P (pc + ln) L (.long (M.2.1 a (am_un i)) :: r) M)
  | .aaload => am_pi st fun i st => am_pr st fun a r => am_g (am_ok M a 3 || am_ok M a 4 || am_ok M a 5) (am_un i < am_len M a ∧ am_ob (M.2.2.1 a (am_un i)) fun b => P (pc + ln) L (.ref b :: r) M)
  | .iastore => am_pi st fun x st => am_pi st fun i st => am_pr st fun a r => am_g (am_ok M a 0 && Nat.ble 12 a) (am_un i < am_len M a ∧ P (pc + ln) L r (am_sI M (am_sr M.1 a (am_u1 (M.1 a) (am_un i) x))))
  | .bastore => am_pi st fun x st => am_pi st fun i st => am_pr st fun a r => am_g (am_ok M a 1 && Nat.ble 12 a && (decide (x = 0) || decide (x = 1))) (am_un i < am_len M a ∧ P (pc + ln) L r (am_sI M (am_sr M.1 a (am_u1 (M.1 a) (am_un i) x))))
  | .lastore => am_pl st fun x st => am_pi st fun i st => am_pr st fun a r => am_g (am_ok M a 2 && Nat.ble 12 a) (am_un i < am_len M a ∧ P (pc + ln) L r (am_sL M (am_sr M.2.1 a (am_u1 (M.2.1 a) (am_un i) x))))
  | .aastore => am_pr st fun b st => am_pi st fun i st => am_pr st fun a r => am_g (am_ok M a 5 && Nat.ble 12 a && am_ok M b 16 && Nat.ble 12 b) (am_un i < am_len M a ∧ P (pc + ln) L r (am_sR M (am_sr M.2.2.1 a (am_u1 (M.2.2.1 a) (am_un i) (some b)))))
  | .arraylength => am_pr st fun a r => am_g (Nat.ble (sh_t a) 5 && Nat.ble (a + 1) M.2.2.2.1) (P (pc + ln) L (.int (nI (am_len M a)) :: r) M)
  | .ireturn => am_pi st fun x r => am_g (r.isEmpty) (Rt (some (.int x)) M)
  | .lreturn => am_pl st fun x r => am_g (r.isEmpty) (Rt (some (.long x)) M)
  | .areturn => am_pr st fun x r => am_g (r.isEmpty) (Rt (some (.ref x)) M)
  | .return_ => am_g (st.isEmpty) (Rt none M)
  | .dup => am_p1 st fun v r => P (pc + ln) L (v :: v :: r) M
  | .dup2 => am_p1 st fun v st => am_p1 st fun w r => P (pc + ln) L (v :: w :: v :: w :: r) M
  | .pop => am_p1 st fun _ r => P (pc + ln) L r M
  | .monitorexit => am_pr st fun _ r => am_g (Nat.ble (am_cs r) 8) (P (pc + ln) L r M)
  | .iadd => am_pi st fun y st => am_pi st fun x r => P (pc + ln) L (.int (x + y) :: r) M
  | .isub => am_pi st fun y st => am_pi st fun x r => P (pc + ln) L (.int (x - y) :: r) M
  | .imul => am_pi st fun y st => am_pi st fun x r => P (pc + ln) L (.int (x * y) :: r) M
  | .iand => am_pi st fun y st => am_pi st fun x r => P (pc + ln) L (.int (x &&& y) :: r) M
  | .ior => am_pi st fun y st => am_pi st fun x r => P (pc + ln) L (.int (x ||| y) :: r) M
  | .ixor => am_pi st fun y st => am_pi st fun x r => P (pc + ln) L (.int (x ^^^ y) :: r) M
  | .ishl => am_pi st fun y st => am_pi st fun x r => P (pc + ln) L (.int (x <<< (y &&& 31)) :: r) M
  | .ishr => am_pi st fun y st => am_pi st fun x r => P (pc + ln) L (.int (x >>> (y &&& 31)) :: r) M
  | .iushr => am_pi st fun y st => am_pi st fun x r => P (pc + ln) L (.int (x.toUInt32 >>> (y.toUInt32 &&& Int32.toUInt32 31)).toInt32 :: r) M
  | .idiv => am_pi st fun y st => am_pi st fun x r => am_g (!decide (y = 0)) (P (pc + ln) L (.int (x / y) :: r) M)
  | .irem => am_pi st fun y st => am_pi st fun x r => am_g (!decide (y = 0)) (P (pc + ln) L (.int (x - x / y * y) :: r) M)
  | .ineg => am_pi st fun x r => P (pc + ln) L (.int (0 - x) :: r) M
  | .ladd => am_pl st fun y st => am_pl st fun x r => P (pc + ln) L (.long (x + y) :: r) M
  | .lmul => am_pl st fun y st => am_pl st fun x r => P (pc + ln) L (.long (x * y) :: r) M
  | .land => am_pl st fun y st => am_pl st fun x r => P (pc + ln) L (.long (x &&& y) :: r) M
  | .lor => am_pl st fun y st => am_pl st fun x r => P (pc + ln) L (.long (x ||| y) :: r) M
  | .ldiv => am_pl st fun y st => am_pl st fun x r => am_g (!decide (y = 0)) (P (pc + ln) L (.long (x / y) :: r) M)
  | .lrem => am_pl st fun y st => am_pl st fun x r => am_g (!decide (y = 0)) (P (pc + ln) L (.long (x - x / y * y) :: r) M)
  | .lshl => am_pi st fun y st => am_pl st fun x r => P (pc + ln) L (.long (x <<< (y.toInt64 &&& 63)) :: r) M
  | .lcmp => am_pl st fun y st => am_pl st fun x r => P (pc + ln) L (.int (lg_cmp x y) :: r) M
  | .i2l => am_pi st fun x r => P (pc + ln) L (.long x.toInt64 :: r) M
  | .l2i => am_pl st fun x r => P (pc + ln) L (.int x.toInt32 :: r) M
  | .i2b => am_pi st fun x r => P (pc + ln) L (.int x.toInt8.toInt32 :: r) M
  | .i2s => am_pi st fun x r => P (pc + ln) L (.int x.toInt16.toInt32 :: r) M
  | .goto t => P t.toNat L st M
  | .ifCond c t => am_pi st fun x r => match c with
    | .eq => am_br (x = 0) (P t.toNat L r M) (P (pc + ln) L r M)
    | .ne => am_br (x = 0) (P (pc + ln) L r M) (P t.toNat L r M)
    | .lt => am_br (x < 0) (P t.toNat L r M) (P (pc + ln) L r M)
    | .ge => am_br (x < 0) (P (pc + ln) L r M) (P t.toNat L r M)
    | .gt => am_br (0 < x) (P t.toNat L r M) (P (pc + ln) L r M)
    | .le => am_br (0 < x) (P (pc + ln) L r M) (P t.toNat L r M)
  | .if_icmp c t => am_pi st fun y st => am_pi st fun x r => match c with
    | .eq => am_br (x = y) (P t.toNat L r M) (P (pc + ln) L r M)
    | .ne => am_br (x = y) (P (pc + ln) L r M) (P t.toNat L r M)
    | .lt => am_br (x < y) (P t.toNat L r M) (P (pc + ln) L r M)
    | .ge => am_br (x < y) (P (pc + ln) L r M) (P t.toNat L r M)
    | .gt => am_br (y < x) (P t.toNat L r M) (P (pc + ln) L r M)
    | .le => am_br (y < x) (P (pc + ln) L r M) (P t.toNat L r M)
  | .tableswitch d lo _ ts => am_pi st fun x r => am_sw x lo ts.toList (fun t => P t L r M) d.toNat
  | .lookupswitch d ps => am_pi st fun x r => am_lw x ps.toList (fun t => P t L r M) d.toNat
  | .invokestatic k => am_pop (mt k).1 st [] fun as r => am_g (Nat.ble (am_cs r) 8) (C k as M fun v M' => am_aft (mt k).2.1 v fun w => P (pc + ln) L (w ++ r) M')
  | .invokevirtual k => am_pop (mt k).1 st [] fun as r => am_pr as fun a _ => am_g (am_ok M a (9 + (mt k).2.2.1) && Nat.ble 12 a && Nat.ble (am_cs r) 8) (C k as M fun v M' => am_aft (mt k).2.1 v fun w => P (pc + ln) L (w ++ r) M')
  | .invokespecial k => am_pop (mt k).1 st [] fun as r => am_pr as fun _ _ => am_g (Nat.ble (am_cs r) 8) ((M.2.2.2.1 + (mt k).2.2.2.1 ≤ zm ∧ M.2.2.2.2.1 + (mt k).2.2.2.2 ≤ sm) ∧ C k as M fun v M' => am_aft (mt k).2.1 v fun w => P (pc + ln) L (w ++ r) M')
  | .invokeinterface 0 _ => am_pi st fun y st => am_pi st fun x r => am_g (Nat.ble (am_cs r) 8) (P (pc + ln) L (.int (if y < x then y else x) :: r) M)
  | .invokeinterface 1 _ => am_pi st fun y st => am_pi st fun x r => am_g (Nat.ble (am_cs r) 8) (P (pc + ln) L (.int (if x < y then y else x) :: r) M)
  | .invokeinterface 2 _ => am_pr st fun a r => am_g (am_ok M a 6 && Nat.ble (am_cs r) 8) (P (pc + ln) L (.int (nI (sh_n a)) :: r) M)
  | .invokeinterface 3 _ => am_pi st fun i st => am_pr st fun a r => am_g (am_ok M a 6 && Nat.ble (am_cs r) 8) (am_un i < sh_n a ∧ P (pc + ln) L (.int (nI (sh_c a (am_un i))) :: r) M)
  | .invokeinterface 4 _ => am_pi st fun n st => am_pi st fun dp st => am_pr st fun b st => am_pi st fun sp st => am_pr st fun a r => am_g (am_ok M a 2 && am_ok M b 2 && Nat.ble 12 a && Nat.ble 12 b && Nat.ble (am_cs r) 8) ((am_un sp + am_un n ≤ sh_n a ∧ am_un dp + am_un n ≤ sh_n b) ∧ P (pc + ln) L r (am_sL M (am_sr M.2.1 b (am_cpy (M.2.1 a) (M.2.1 b) (am_un sp) (am_un dp) (am_un n)))))
  | .new c => am_g (Nat.beq (sh_t M.2.2.2.1) (10 + c)) ((M.2.2.2.1 + 1 ≤ zm ∧ M.2.2.2.2.1 + sh_n M.2.2.2.1 ≤ sm) ∧ P (pc + ln) L (.ref M.2.2.2.1 :: st) (am_new M))
  | .newarray t => am_pi st fun x r => am_g (Nat.beq (sh_t M.2.2.2.1) (match t with | .int => 0 | .boolean => 1 | .long => 2 | _ => 9) && Nat.beq (sh_n M.2.2.2.1) (am_un x)) ((M.2.2.2.1 + 1 ≤ zm ∧ M.2.2.2.2.1 + sh_n M.2.2.2.1 ≤ sm) ∧ P (pc + ln) L (.ref M.2.2.2.1 :: r) (am_new M))
  | .anewarray _ => am_pi st fun x r => am_g (Nat.beq (sh_t M.2.2.2.1) 5 && Nat.beq (sh_n M.2.2.2.1) (am_un x)) ((M.2.2.2.1 + 1 ≤ zm ∧ M.2.2.2.2.1 + sh_n M.2.2.2.1 ≤ sm) ∧ P (pc + ln) L (.ref M.2.2.2.1 :: r) (am_new M))
  | .multianewarray t _ => am_pi st fun k st => am_pi st fun n r => am_g (Nat.beq (sh_t M.2.2.2.1) t && Nat.beq (sh_n M.2.2.2.1) (am_un n) && Nat.ble 3 t && Nat.ble t 4 && Nat.ble (am_un k) 24000) ((∀ j, j < am_un n → sh_t (M.2.2.2.1 + 1 + j) = (t - 3) * 2 ∧ sh_n (M.2.2.2.1 + 1 + j) = am_un k) ∧ (M.2.2.2.1 + 1 + am_un n ≤ zm ∧ M.2.2.2.2.1 + am_un n + am_un n * am_un k ≤ sm) ∧ P (pc + ln) L (.ref M.2.2.2.1 :: r) (am_mul M (am_un n) (am_un k)))
  | _ => False
/-- a method's code: the places and instructions of each sixteen bytes -/
abbrev am_T : Type := List (Nat × List (Nat × Instr × Nat))
def am_f1 : List (Nat × Instr × Nat) → Nat → Option (Instr × Nat)
  | [], _ => none
  | q :: l, pc => cond (Nat.beq q.1 pc) (some q.2) (am_f1 l pc)
def am_at : am_T → Nat → Option (Instr × Nat)
  | [], _ => none
  | q :: l, pc => cond (Nat.ble pc q.1) (am_f1 q.2 pc) (am_at l pc)
def am_F (mt : Nat → Nat × Nat × Nat × Nat × Nat) (C : am_C) (T : am_T) (zm sm : Nat) (Rt : Option Value → am_M → Prop) (X : am_K) : am_K := fun pc L st M => match am_at T pc with
  | some q => am_one mt C zm sm Rt q.1 q.2 pc L st M X
  | none => False
/-- the run comes to a return with Rt -/
def am_WP (mt : Nat → Nat × Nat × Nat × Nat × Nat) (C : am_C) (T : am_T) (zm sm : Nat) (Rt : Option Value → am_M → Prop) : am_K := fun pc L st M => ∀ X : am_K, (∀ pc L st M, am_F mt C T zm sm Rt X pc L st M → X pc L st M) → X pc L st M
/-- as many instructions, till one of some places is reached -/
def am_blk (mt : Nat → Nat × Nat × Nat × Nat × Nat) (C : am_C) (T : am_T) (zm sm : Nat) (Rt : Option Value → am_M → Prop) (cuts : List Nat) (X : am_K) : Nat → am_K
  | 0 => X
  | n + 1 => fun pc L st M => cond (cuts.any (Nat.beq pc)) (X pc L st M) (am_F mt C T zm sm Rt (am_blk mt C T zm sm Rt cuts X n) pc L st M)
def am_loc : List Value → am_L
  | [] => []
  | v :: l => some v :: (match v with | .long _ => none :: am_loc l | .double _ => none :: am_loc l | _ => am_loc l)
def am_ent (n : Nat) (as : List Value) : am_L := am_loc as ++ List.replicate (n - (am_loc as).length) none
