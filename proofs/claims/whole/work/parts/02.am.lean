/-! THE ABSTRACT MACHINE (AM): int memory by object id and index; references are fixed ids. -/
abbrev am_V : Type := Int ⊕ Nat
abbrev am_M : Type := Nat → Int → Int
abbrev am_I : Type := Jvm.ClassFile.Instr × Nat × Nat
abbrev am_R : Type := Option (Int × am_M)
abbrev am_K : Type := Nat → List (Option am_V) → List am_V → am_M → am_R
def am_wrap (x : Int) : Int := (x + 2147483648) % 4294967296 - 2147483648
def am_upd (M : am_M) (a : Nat) (i v : Int) : am_M := fun b j => if b = a ∧ j = i then v else M b j
def am_cpy (M : am_M) (a : Nat) (i : Int) (b : Nat) (j n : Int) : am_M := fun c k => if c = b ∧ j ≤ k ∧ k < j + n then M a (i + (k - j)) else M c k
def am_idiv (x y : Int) : Int := (Int32.ofInt x / Int32.ofInt y).toInt
def am_irem (x y : Int) : Int := (Int32.ofInt x - Int32.ofInt x / Int32.ofInt y * Int32.ofInt y).toInt
def am_iand (x y : Int) : Int := (Int32.ofInt x &&& Int32.ofInt y).toInt
def am_ior (x y : Int) : Int := (Int32.ofInt x ||| Int32.ofInt y).toInt
def am_ixor (x y : Int) : Int := (Int32.ofInt x ^^^ Int32.ofInt y).toInt
def am_ishl (x y : Int) : Int := (Int32.ofInt x <<< (Int32.ofInt y &&& 31)).toInt
def am_ishr (x y : Int) : Int := (Int32.ofInt x >>> (Int32.ofInt y &&& 31)).toInt
def am_iushr (x y : Int) : Int := ((Int32.ofInt x).toUInt32 >>> ((Int32.ofInt y).toUInt32 &&& Int32.toUInt32 31)).toInt32.toInt
def am_chr (x : Int) : Int := x % 65536
def am_chk (c : Prop) [Decidable c] (x : am_R) : am_R := if c then x else none
def am_bnd (x : am_R) (f : Int → am_M → am_R) : am_R := match x with
  | some (r, M) => f r M
  | none => none
def am_br (c : Jvm.ClassFile.Cond) (x y : Int) (A B : am_R) : am_R := match c with
  | .eq => if x = y then A else B
  | .ne => if x = y then B else A
  | .lt => if x < y then A else B
  | .ge => if x < y then B else A
  | .gt => if y < x then A else B
  | .le => if y < x then B else A
def am_sw (x d : Int) (kj : Nat → am_R) : Int → List Int → am_R
  | _, [] => kj d.toNat
  | lo, t :: ts => if x = lo then kj t.toNat else am_sw x d kj (lo + 1) ts
def am_swl (x d : Int) (kj : Nat → am_R) : List (Int × Int) → am_R
  | [] => kj d.toNat
  | (v, t) :: ts => if x = v then kj t.toNat else am_swl x d kj ts
def am_kd (v : am_V) : Nat := match v with
  | .inl _ => 0
  | .inr _ => 1
/-- what a method of a small type may answer -/
def am_ret (t : Nat) (x : Int) (o : am_R) : am_R := match t with
  | 0 => o
  | 1 => am_chk (x = 0 ∨ x = 1) o
  | 2 => am_chk (0 ≤ x ∧ x < 65536) o
  | _ => am_chk (-128 ≤ x ∧ x < 128) o
def am_pv (st : List am_V) (f : am_V → List am_V → am_R) : am_R := match st with
  | v :: st => f v st
  | [] => none
def am_pi (st : List am_V) (f : Int → List am_V → am_R) : am_R := match st with
  | .inl x :: st => f x st
  | _ => none
def am_pr (st : List am_V) (f : Nat → List am_V → am_R) : am_R := match st with
  | .inr a :: st => f a st
  | _ => none
def am_lo (o : Option (Option am_V)) (f : am_V → am_R) : am_R := match o with
  | some (some v) => f v
  | _ => none
def am_vi (v : am_V) (f : Int → am_R) : am_R := match v with
  | .inl x => f x
  | .inr _ => none
def am_nil (st : List am_V) (o : am_R) : am_R := match st with
  | [] => o
  | _ :: _ => none
section AM
variable (cls : Nat → Nat) (rf : Nat → Int → Nat) (len : am_M → Nat → Int) (call : Nat → List am_V → am_M → am_R)
/-- one instruction: 'ks' goes on behind it, 'kj' at another place -/
def am_stp (i : am_I) (ls : List (Option am_V)) (st : List am_V) (M : am_M) (ks : List (Option am_V) → List am_V → am_M → am_R) (kj : Nat → List (Option am_V) → List am_V → am_M → am_R) : am_R :=
  match i with
  | (.bipush v, _, _) => ks ls (.inl v :: st) M
  | (.aload n, _, _) => ks ls (.inr n :: st) M
  | (.iload n, kd, _) => am_lo ls[n]? fun v => cond (Nat.beq (am_kd v) kd) (ks ls (v :: st) M) none
  | (.istore n, kd, _) => am_pv st fun v st => cond (Nat.beq (am_kd v) kd && Nat.blt n ls.length) (ks (ls.set n (some v)) st M) none
  | (.iinc n c, _, _) => am_lo ls[n]? fun v => am_vi v fun x => ks (ls.set n (some (.inl (am_wrap (x + c))))) st M
  | (.iadd, _, _) => am_pi st fun y st => am_pi st fun x st => ks ls (.inl (am_wrap (x + y)) :: st) M
  | (.isub, _, _) => am_pi st fun y st => am_pi st fun x st => ks ls (.inl (am_wrap (x - y)) :: st) M
  | (.imul, _, _) => am_pi st fun y st => am_pi st fun x st => ks ls (.inl (am_wrap (x * y)) :: st) M
  | (.idiv, _, _) => am_pi st fun y st => am_pi st fun x st => am_chk (¬ y = 0) (ks ls (.inl (am_idiv x y) :: st) M)
  | (.irem, _, _) => am_pi st fun y st => am_pi st fun x st => am_chk (¬ y = 0) (ks ls (.inl (am_irem x y) :: st) M)
  | (.ineg, _, _) => am_pi st fun x st => ks ls (.inl (am_wrap (-x)) :: st) M
  | (.iand, _, _) => am_pi st fun y st => am_pi st fun x st => ks ls (.inl (am_iand x y) :: st) M
  | (.ior, _, _) => am_pi st fun y st => am_pi st fun x st => ks ls (.inl (am_ior x y) :: st) M
  | (.ixor, _, _) => am_pi st fun y st => am_pi st fun x st => ks ls (.inl (am_ixor x y) :: st) M
  | (.ishl, _, _) => am_pi st fun y st => am_pi st fun x st => ks ls (.inl (am_ishl x y) :: st) M
  | (.ishr, _, _) => am_pi st fun y st => am_pi st fun x st => ks ls (.inl (am_ishr x y) :: st) M
  | (.iushr, _, _) => am_pi st fun y st => am_pi st fun x st => ks ls (.inl (am_iushr x y) :: st) M
  | (.i2c, _, _) => am_pi st fun x st => ks ls (.inl (am_chr x) :: st) M
  | (.dup, _, _) => am_pv st fun v st => ks ls (v :: v :: st) M
  | (.dup2, _, _) => am_pv st fun v st => am_pv st fun w st => ks ls (v :: w :: v :: w :: st) M
  | (.pop, _, _) => am_pv st fun _ st => ks ls st M
  | (.ifCond c t, _, _) => am_pi st fun x st => am_br c x 0 (kj t.toNat ls st M) (ks ls st M)
  | (.if_icmp c t, _, _) => am_pi st fun y st => am_pi st fun x st => am_br c x y (kj t.toNat ls st M) (ks ls st M)
  | (.goto t, _, _) => kj t.toNat ls st M
  | (.tableswitch d lo _ ts, _, _) => am_pi st fun x st => am_sw x d (fun t => kj t ls st M) lo ts.toList
  | (.lookupswitch d ts, _, _) => am_pi st fun x st => am_swl x d (fun t => kj t ls st M) ts.toList
  | (.getfield k, ci, _) => am_pr st fun a st => cond (Nat.beq (cls a) ci) (ks ls (.inl (M a k) :: st) M) none
  | (.checkcast k, ci, _) => am_pr st fun a st => cond (Nat.beq (cls a) ci) (ks ls (.inr (rf a k) :: st) M) none
  | (.putfield k, ci, b) => am_pi st fun x st => am_pr st fun a st => cond (Nat.beq (cls a) ci) (am_ret (b % 2) x (ks ls st (am_upd M a k x))) none
  | (.iaload, _, _) => am_pi st fun i st => am_pr st fun a st => cond (Nat.beq (cls a) 9 || Nat.beq (cls a) 12) (am_chk (0 ≤ i ∧ i < len M a) (ks ls (.inl (M a i) :: st) M)) none
  | (.caload, _, _) => am_pi st fun i st => am_pr st fun a st => cond (Nat.beq (cls a) 10) (am_chk (0 ≤ i ∧ i < len M a) (ks ls (.inl (M a i) :: st) M)) none
  | (.baload, _, _) => am_pi st fun i st => am_pr st fun a st => cond (Nat.beq (cls a) 13) (am_chk (0 ≤ i ∧ i < len M a) (ks ls (.inl (M a i) :: st) M)) none
  | (.aaload, _, _) => am_pi st fun i st => am_pr st fun a st => cond (Nat.beq (cls a) 11 || Nat.beq (cls a) 14) (am_chk (0 ≤ i ∧ i < len M a) (ks ls (.inr (rf a i) :: st) M)) none
  | (.iastore, _, _) => am_pi st fun x st => am_pi st fun i st => am_pr st fun a st => cond (Nat.beq (cls a) 9) (am_chk (0 ≤ i ∧ i < len M a) (ks ls st (am_upd M a i x))) none
  | (.castore, _, _) => am_pi st fun x st => am_pi st fun i st => am_pr st fun a st => cond (Nat.beq (cls a) 10) (am_chk (0 ≤ i ∧ i < len M a) (ks ls st (am_upd M a i (am_chr x)))) none
  | (.arraylength, _, _) => am_pr st fun a st => cond (Nat.ble 9 (cls a) && Nat.blt (cls a) 15) (ks ls (.inl (len M a) :: st) M) none
  -- Math.max, Math.min
  | (.ladd, _, _) => am_pi st fun y st => am_pi st fun x st => cond (Nat.ble st.length 8) (ks ls (.inl (max x y) :: st) M) none
  | (.lsub, _, _) => am_pi st fun y st => am_pi st fun x st => cond (Nat.ble st.length 8) (ks ls (.inl (min x y) :: st) M) none
  -- System.arraycopy, of int arrays
  | (.lcmp, _, _) => am_pi st fun n st => am_pi st fun j st => am_pr st fun b st => am_pi st fun i st => am_pr st fun a st => cond (Nat.beq (cls a) 9 && Nat.beq (cls b) 9) (am_chk (0 ≤ i ∧ 0 ≤ j ∧ 0 ≤ n ∧ i + n ≤ len M a ∧ j + n ≤ len M b) (am_nil st (ks ls [] (am_cpy M a i b j n)))) none
  -- a call: method, how many come off the stack, whether it answers
  | (.invokevirtual j, n, r) => cond (Nat.ble (st.drop n).length 8 && Nat.ble n st.length) (am_bnd (call j (st.take n).reverse M) fun v M' => ks ls (cond (Nat.beq (r % 2) 1) (.inl v :: st.drop n) (st.drop n)) M') none
  | (.ireturn, t, _) => am_pi st fun x st => am_nil st (am_ret t x (some (x, M)))
  | (.return_, _, _) => am_nil st (some (0, M))
  | _ => none
/-- n instructions in a row -/
def am_ex (full : List am_I) : Nat → am_K
  | 0 => fun _ _ _ _ => none
  | n + 1 => fun pc ls st M => match full[pc]? with
    | some i => am_stp cls rf len call i ls st M (am_ex full n (pc + 1)) (am_ex full n)
    | none => none
/-- as many as it takes -/
noncomputable def am_lim (full : List am_I) : am_K := fun pc ls st M => Classical.epsilon (fun o : am_R => (∃ n, am_ex cls rf len call full n pc ls st M = o ∧ o ≠ none) ∨ ((∀ n, am_ex cls rf len call full n pc ls st M = none) ∧ o = none))
/-- a run over the rest of the code until a stop, then K -/
def am_go (full : List am_I) (stops : List Nat) (K : am_K) : Nat → List am_I → am_K
  | 0, _ => K
  | n + 1, code => fun pc ls st M => match code with
    | [] => none
    | i :: code => am_stp cls rf len call i ls st M
        (fun ls st M => cond (stops.contains (pc + 1)) (K (pc + 1) ls st M) (am_go full stops K n code (pc + 1) ls st M))
        (fun t ls st M => cond (stops.contains t) (K t ls st M) (am_go full stops K n (full.drop t) t ls st M))
end AM
