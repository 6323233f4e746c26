/-! START: the building machine: constructors, run once; a reference field is set (1) or not (0) -/
def bm_fl : List (Nat × Nat × Nat × Nat) := [(4, 11, 4, 0), (6, 19, 6, 2)]
def bm_fp : List (Nat × Nat × Nat × Nat) := [(0, 19, 0, 0), (0, 31, 0, 1), (1, 19, 1, 2), (1, 31, 1, 3), (1, 37, 1, 4), (1, 43, 1, 5), (1, 49, 1, 6), (2, 19, 2, 0), (2, 31, 2, 1), (2, 37, 2, 2), (2, 42, 2, 6), (2, 57, 2, 8), (2, 71, 2, 9), (3, 19, 3, 1), (4, 23, 4, 0), (4, 41, 4, 1), (4, 49, 4, 2), (5, 19, 5, 5), (5, 31, 5, 6), (5, 37, 5, 7), (5, 43, 5, 8), (5, 49, 5, 9), (5, 55, 5, 10), (5, 61, 5, 11), (5, 67, 5, 12), (5, 73, 5, 13), (5, 79, 5, 14), (5, 85, 5, 15), (5, 91, 5, 16), (6, 21, 6, 0), (6, 33, 6, 1), (6, 39, 6, 2), (6, 53, 6, 5), (6, 61, 6, 6), (6, 69, 6, 7), (6, 75, 6, 8), (6, 81, 6, 9), (6, 87, 6, 11), (6, 101, 6, 13), (6, 115, 6, 14), (6, 123, 6, 15), (7, 15, 7, 0), (7, 27, 7, 1), (7, 33, 7, 2), (7, 39, 7, 3), (7, 45, 7, 6), (7, 51, 7, 7), (7, 57, 7, 8), (7, 63, 7, 9), (7, 69, 7, 10), (7, 75, 7, 11), (7, 80, 7, 25), (7, 89, 7, 29), (7, 95, 7, 30)]
def bm_nw : List (Nat × Nat × Nat) := [(2, 25, 1), (2, 32, 3), (4, 17, 3), (4, 9, 1), (6, 7, 5), (6, 23, 4), (6, 47, 2), (6, 54, 0), (8, 7, 6), (8, 10, 7)]
def bm_an : List (Nat × Nat × Nat) := [(4, 9, 14), (6, 7, 11)]
def bm_iv : List (Nat × Nat × Nat × Nat) := [(2, 27, 1, 1), (2, 34, 3, 1), (4, 19, 3, 1), (4, 27, 1, 1), (6, 9, 5, 1), (6, 25, 4, 0), (6, 49, 2, 1), (6, 56, 0, 1), (8, 9, 6, 0), (8, 12, 7, 0)]
def bm_oi : List (Nat × Nat) := [(0, 3), (1, 3), (2, 3), (3, 3), (4, 3), (5, 3), (6, 1), (7, 1)]
def bm_c0 : List am_I := [(.iload 0, 1, 0), (.areturn, 3, 0), (.iload 0, 1, 0), (.bipush 14, 1, 0), (.newarray .int, 0, 0), (.putfield 0, 0, 19), (.iload 0, 1, 0), (.bipush 32, 1, 0), (.newarray .int, 0, 0), (.putfield 1, 0, 31), (.return_, 0, 0)]
def bm_p0 : List Nat := [0, 1, 4, 5, 7, 9, 12, 13, 15, 17, 20, 21]
def bm_c1 : List am_I := [(.iload 0, 1, 0), (.areturn, 3, 0), (.iload 0, 1, 0), (.bipush 16, 1, 0), (.newarray .int, 0, 0), (.putfield 2, 1, 19), (.iload 0, 1, 0), (.bipush 16, 1, 0), (.newarray .int, 0, 0), (.putfield 3, 1, 31), (.iload 0, 1, 0), (.bipush 16, 1, 0), (.newarray .int, 0, 0), (.putfield 4, 1, 37), (.iload 0, 1, 0), (.bipush 16, 1, 0), (.newarray .int, 0, 0), (.putfield 5, 1, 43), (.iload 0, 1, 0), (.bipush 400, 2, 0), (.newarray .int, 0, 0), (.putfield 6, 1, 49), (.return_, 0, 0)]
def bm_p1 : List Nat := [0, 1, 4, 5, 7, 9, 12, 13, 15, 17, 20, 21, 23, 25, 28, 29, 31, 33, 36, 37, 40, 42, 45, 46]
def bm_c2 : List am_I := [(.iload 0, 1, 0), (.areturn, 3, 0), (.iload 0, 1, 0), (.bipush 401, 2, 0), (.newarray .int, 0, 0), (.putfield 0, 2, 19), (.iload 0, 1, 0), (.bipush 401, 2, 0), (.newarray .int, 0, 0), (.putfield 1, 2, 31), (.iload 0, 1, 0), (.bipush 401, 2, 0), (.newarray .int, 0, 0), (.putfield 2, 2, 37), (.iload 0, 1, 0), (.bipush (-1), 0, 0), (.putfield 6, 2, 42), (.iload 0, 1, 0), (.new 1, 25, 0), (.dup, 0, 0), (.invokespecial 1, 27, 1), (.putfield 8, 2, 57), (.iload 0, 1, 0), (.new 3, 32, 0), (.dup, 0, 0), (.invokespecial 3, 34, 1), (.putfield 9, 2, 71), (.return_, 0, 0)]
def bm_p2 : List Nat := [0, 1, 4, 5, 8, 10, 13, 14, 17, 19, 22, 23, 26, 28, 31, 32, 33, 36, 37, 40, 41, 44, 47, 48, 51, 52, 55, 58, 59]
def bm_c3 : List am_I := [(.iload 0, 1, 0), (.areturn, 3, 0), (.iload 0, 1, 0), (.bipush 80, 1, 0), (.newarray .int, 0, 0), (.putfield 1, 3, 19), (.return_, 0, 0)]
def bm_p3 : List Nat := [0, 1, 4, 5, 7, 9, 12, 13]
def bm_c4 : List am_I := [(.iload 0, 1, 0), (.areturn, 3, 0), (.iload 0, 1, 0), (.bipush 3, 0, 0), (.anewarray 14, 9, 0), (.putfield 0, 4, 23), (.iload 0, 1, 0), (.new 3, 17, 0), (.dup, 0, 0), (.invokespecial 3, 19, 1), (.putfield 1, 4, 41), (.iload 0, 1, 0), (.new 3, 17, 0), (.dup, 0, 0), (.invokespecial 3, 19, 1), (.putfield 2, 4, 49), (.bipush 0, 0, 0), (.istore 1, 0, 0), (.iload 1, 0, 0), (.bipush 3, 0, 0), (.if_icmp .ge 30, 0, 0), (.iload 0, 1, 0), (.checkcast 0, 4, 11), (.iload 1, 0, 0), (.new 1, 9, 0), (.dup, 0, 0), (.invokespecial 1, 27, 1), (.aastore, 0, 0), (.iinc 1 1, 0, 0), (.goto 18, 0, 0), (.return_, 0, 0)]
def bm_p4 : List Nat := [0, 1, 4, 5, 6, 9, 12, 13, 16, 17, 20, 23, 24, 27, 28, 31, 34, 35, 36, 37, 38, 41, 42, 45, 46, 49, 50, 53, 54, 57, 60, 61]
def bm_c5 : List am_I := [(.iload 0, 1, 0), (.areturn, 3, 0), (.iload 0, 1, 0), (.bipush 8, 1, 0), (.newarray .int, 0, 0), (.putfield 5, 5, 19), (.iload 0, 1, 0), (.bipush 8, 1, 0), (.newarray .int, 0, 0), (.putfield 6, 5, 31), (.iload 0, 1, 0), (.bipush 8, 1, 0), (.newarray .int, 0, 0), (.putfield 7, 5, 37), (.iload 0, 1, 0), (.bipush 8, 1, 0), (.newarray .int, 0, 0), (.putfield 8, 5, 43), (.iload 0, 1, 0), (.bipush 16, 1, 0), (.newarray .int, 0, 0), (.putfield 9, 5, 49), (.iload 0, 1, 0), (.bipush 16, 1, 0), (.newarray .int, 0, 0), (.putfield 10, 5, 55), (.iload 0, 1, 0), (.bipush 64, 1, 0), (.newarray .int, 0, 0), (.putfield 11, 5, 61), (.iload 0, 1, 0), (.bipush 16, 1, 0), (.newarray .int, 0, 0), (.putfield 12, 5, 67), (.iload 0, 1, 0), (.bipush 16, 1, 0), (.newarray .int, 0, 0), (.putfield 13, 5, 73), (.iload 0, 1, 0), (.bipush 16, 1, 0), (.newarray .int, 0, 0), (.putfield 14, 5, 79), (.iload 0, 1, 0), (.bipush 16, 1, 0), (.newarray .int, 0, 0), (.putfield 15, 5, 85), (.iload 0, 1, 0), (.bipush 80, 1, 0), (.newarray .int, 0, 0), (.putfield 16, 5, 91), (.return_, 0, 0)]
def bm_p5 : List Nat := [0, 1, 4, 5, 7, 9, 12, 13, 15, 17, 20, 21, 23, 25, 28, 29, 31, 33, 36, 37, 39, 41, 44, 45, 47, 49, 52, 53, 55, 57, 60, 61, 63, 65, 68, 69, 71, 73, 76, 77, 79, 81, 84, 85, 87, 89, 92, 93, 95, 97, 100, 101]
def bm_c6 : List am_I := [(.iload 0, 1, 0), (.areturn, 1, 0), (.iload 0, 1, 0), (.new 5, 7, 0), (.dup, 0, 0), (.invokespecial 5, 9, 1), (.putfield 0, 6, 21), (.iload 0, 1, 0), (.new 5, 7, 0), (.dup, 0, 0), (.invokespecial 5, 9, 1), (.putfield 1, 6, 33), (.iload 0, 1, 0), (.bipush 6, 1, 0), (.anewarray 11, 7, 0), (.putfield 2, 6, 39), (.iload 0, 1, 0), (.new 4, 23, 0), (.dup, 0, 0), (.invokespecial 4, 25, 0), (.putfield 5, 6, 53), (.iload 0, 1, 0), (.bipush 400, 2, 0), (.newarray .int, 0, 0), (.putfield 6, 6, 61), (.iload 0, 1, 0), (.new 5, 7, 0), (.dup, 0, 0), (.invokespecial 5, 9, 1), (.putfield 7, 6, 69), (.iload 0, 1, 0), (.new 4, 23, 0), (.dup, 0, 0), (.invokespecial 4, 25, 0), (.putfield 8, 6, 75), (.iload 0, 1, 0), (.bipush 400, 2, 0), (.newarray .int, 0, 0), (.putfield 9, 6, 81), (.iload 0, 1, 0), (.bipush 400, 2, 0), (.newarray .char, 0, 0), (.putfield 11, 6, 87), (.iload 0, 1, 0), (.new 2, 47, 0), (.dup, 0, 0), (.invokespecial 2, 49, 1), (.putfield 13, 6, 101), (.iload 0, 1, 0), (.new 0, 54, 0), (.dup, 0, 0), (.invokespecial 0, 56, 1), (.putfield 14, 6, 115), (.iload 0, 1, 0), (.bipush 2304, 2, 0), (.newarray .int, 0, 0), (.putfield 15, 6, 123), (.bipush 0, 0, 0), (.istore 1, 0, 0), (.iload 1, 0, 0), (.bipush 6, 1, 0), (.if_icmp .ge 71, 0, 0), (.iload 0, 1, 0), (.checkcast 2, 6, 19), (.iload 1, 0, 0), (.new 5, 7, 0), (.dup, 0, 0), (.invokespecial 5, 9, 1), (.aastore, 0, 0), (.iinc 1 1, 0, 0), (.goto 59, 0, 0), (.return_, 0, 0)]
def bm_p6 : List Nat := [0, 1, 4, 5, 8, 9, 12, 15, 16, 19, 20, 23, 26, 27, 29, 32, 35, 36, 39, 40, 43, 46, 47, 50, 52, 55, 56, 59, 60, 63, 66, 67, 70, 71, 74, 77, 78, 81, 83, 86, 87, 90, 92, 95, 96, 99, 100, 103, 106, 107, 110, 111, 114, 117, 118, 121, 123, 126, 127, 128, 129, 131, 134, 135, 138, 139, 142, 143, 146, 147, 150, 153, 154]
def bm_c7 : List am_I := [(.iload 0, 1, 0), (.areturn, 1, 0), (.iload 0, 1, 0), (.bipush 3456, 2, 0), (.newarray .int, 0, 0), (.putfield 0, 7, 15), (.iload 0, 1, 0), (.bipush 3456, 2, 0), (.newarray .int, 0, 0), (.putfield 1, 7, 27), (.iload 0, 1, 0), (.bipush 1656, 2, 0), (.newarray .int, 0, 0), (.putfield 2, 7, 33), (.iload 0, 1, 0), (.bipush 276, 2, 0), (.newarray .int, 0, 0), (.putfield 3, 7, 39), (.iload 0, 1, 0), (.bipush 64, 1, 0), (.newarray .int, 0, 0), (.putfield 6, 7, 45), (.iload 0, 1, 0), (.bipush 820, 2, 0), (.newarray .int, 0, 0), (.putfield 7, 7, 51), (.iload 0, 1, 0), (.bipush 80, 1, 0), (.newarray .int, 0, 0), (.putfield 8, 7, 57), (.iload 0, 1, 0), (.bipush 400, 2, 0), (.newarray .int, 0, 0), (.putfield 9, 7, 63), (.iload 0, 1, 0), (.bipush 420, 2, 0), (.newarray .int, 0, 0), (.putfield 10, 7, 69), (.iload 0, 1, 0), (.bipush 15, 1, 0), (.newarray .int, 0, 0), (.putfield 11, 7, 75), (.iload 0, 1, 0), (.bipush (-1), 0, 0), (.putfield 25, 7, 80), (.iload 0, 1, 0), (.bipush 2304, 2, 0), (.newarray .int, 0, 0), (.putfield 29, 7, 89), (.iload 0, 1, 0), (.bipush 8, 1, 0), (.newarray .int, 0, 0), (.putfield 30, 7, 95), (.return_, 0, 0)]
def bm_p7 : List Nat := [0, 1, 4, 5, 8, 10, 13, 14, 17, 19, 22, 23, 26, 28, 31, 32, 35, 37, 40, 41, 43, 45, 48, 49, 52, 54, 57, 58, 60, 62, 65, 66, 69, 71, 74, 75, 78, 80, 83, 84, 86, 88, 91, 92, 93, 96, 97, 100, 102, 105, 106, 108, 110, 113, 114]
def bm_code (ci : Nat) : List am_I := ([bm_c0, bm_c1, bm_c2, bm_c3, bm_c4, bm_c5, bm_c6, bm_c7] : List (List am_I)).getD ci []
def bm_pp (ci : Nat) : List Nat := ([bm_p0, bm_p1, bm_p2, bm_p3, bm_p4, bm_p5, bm_p6, bm_p7] : List (List Nat)).getD ci []
def bm_b (ci : Nat) : ByteArray := ([prog_2_method_1_code, prog_3_method_1_code, prog_4_method_1_code, prog_5_method_1_code, prog_6_method_1_code, prog_7_method_1_code, prog_1_method_1_code, prog_9_method_1_code] : List ByteArray).getD ci ByteArray.empty
def bm_ml (ci : Nat) : Nat := ([1, 1, 1, 1, 2, 1, 2, 1] : List Nat).getD ci 0
def bm_y (ci : Nat) : MethodName := ⟨am_cn ci, "<init>", "()V"⟩
abbrev bm_R : Type := Option (Nat × Nat × am_M)
def bm_end : List (Option am_V) := [some (.inr 203), some (.inr 0), some (.inr 186), none]
/-- one instruction of a constructor: n objects are made, z slots in them -/
def bm_stp (call : Nat → List am_V → Nat → Nat → am_M → bm_R) (i : am_I) (ls : List (Option am_V)) (st : List am_V) (n z : Nat) (M : am_M) (ks : List (Option am_V) → List am_V → Nat → Nat → am_M → bm_R) (kj : Nat → List (Option am_V) → List am_V → Nat → Nat → am_M → bm_R) : bm_R :=
  match i with
  | (.iload k, kd, _) => (match ls[k]? with
    | some (some v) => cond (Nat.beq (am_kd v) kd) (ks ls (v :: st) n z M) none
    | _ => none)
  | (.istore k, kd, _) => (match st with
    | v :: st => cond (Nat.beq (am_kd v) kd && Nat.blt k ls.length) (ks (ls.set k (some v)) st n z M) none
    | _ => none)
  | (.bipush v, _, _) => ks ls (.inl v :: st) n z M
  | (.dup, _, _) => (match st with
    | v :: st => ks ls (v :: v :: st) n z M
    | _ => none)
  | (.if_icmp .ge t, _, _) => (match st with
    | .inl y :: .inl x :: st => cond (decide (x < y)) (ks ls st n z M) (kj t.toNat ls st n z M)
    | _ => none)
  | (.goto t, _, _) => kj t.toNat ls st n z M
  | (.iinc k c, _, _) => (match ls[k]? with
    | some (some (.inl x)) => ks (ls.set k (some (.inl (am_wrap (x + c))))) st n z M
    | _ => none)
  | (.checkcast k, ci, _) => (match st with
    | .inr a :: st => cond (Nat.beq (am_cls a) ci && Nat.blt a n && decide (M a k = 1)) (ks ls (.inr (am_rf a k) :: st) n z M) none
    | _ => none)
  | (.putfield k, ci, b) => (match st with
    | .inr v :: .inr a :: st => cond (Nat.beq (am_cls a) ci && Nat.blt a n && Nat.beq (am_rf a k) v && Nat.beq (b % 2) 1) (ks ls st n z (am_upd M a k 1)) none
    | .inl x :: .inr a :: st => cond (Nat.beq (am_cls a) ci && Nat.blt a n && Nat.beq (b % 2) 0) (ks ls st n z (am_upd M a k x)) none
    | _ => none)
  | (.new ci, _, _) => cond (Nat.beq (am_cls n) ci && Nat.blt n 199) (ks ls (.inr n :: st) (n + 1) (z + am_nf ci) M) none
  | (.newarray t, _, _) => (match st with
    | .inl x :: st => cond (Nat.beq (am_cls n) (match t with
      | .int => 9
      | .char => 10
      | _ => 99) && Nat.blt n 199 && decide (x = (am_ln n : Int))) (ks ls (.inr n :: st) (n + 1) (z + am_ln n) M) none
    | _ => none)
  | (.anewarray k, _, _) => (match st with
    | .inl x :: st => cond (Nat.beq (am_cls n) k && Nat.blt n 199 && decide (x = (am_ln n : Int))) (ks ls (.inr n :: st) (n + 1) (z + am_ln n) M) none
    | _ => none)
  | (.aastore, _, _) => (match st with
    | .inr v :: .inl i :: .inr a :: st => cond (Nat.blt a n && Nat.blt v n && Nat.beq (am_rf a i) v && decide (0 ≤ i ∧ i < (am_ln a : Int)) && ((Nat.beq (am_cls a) 11 && Nat.beq (am_cls v) 5) || (Nat.beq (am_cls a) 14 && Nat.beq (am_cls v) 1))) (ks ls st n z (am_upd M a i 1)) none
    | _ => none)
  -- Object's constructor
  | (.areturn, _, _) => (match st with
    | .inr a :: st => cond (Nat.blt a n && Nat.ble st.length 8) (ks ls st n z M) none
    | _ => none)
  | (.invokespecial ci, _, _) => (match st with
    | .inr a :: st => cond (Nat.beq (am_cls a) ci && Nat.blt a n && Nat.ble st.length 8) (match call ci [.inr a] n z M with
      | some (n', z', M') => ks ls st n' z' M'
      | none => none) none
    | _ => none)
  | (.return_, _, _) => (match st with
    | [] => some (n, z, M)
    | _ => none)
  -- the law's prologue ends
  | (.nop, _, _) => (match st with
    | [] => cond (decide (ls = bm_end)) (some (n, z, M)) none
    | _ => none)
  | _ => none
def bm_ex (call : Nat → List am_V → Nat → Nat → am_M → bm_R) (full : List am_I) : Nat → Nat → List (Option am_V) → List am_V → Nat → Nat → am_M → bm_R
  | 0 => fun _ _ _ _ _ _ => none
  | f + 1 => fun pc ls st n z M => match full[pc]? with
    | some i => bm_stp call i ls st n z M (bm_ex call full f (pc + 1)) (bm_ex call full f)
    | none => none
def bm_run : Nat → Nat → List am_V → Nat → Nat → am_M → bm_R
  | 0 => fun _ _ _ _ _ => none
  | d + 1 => fun ci args n z M => (match args with
    | [.inr a] => cond (Nat.beq (am_cls a) ci && Nat.blt a n) (bm_ex (bm_run d) (bm_code ci) 400 0 (am_ini (bm_ml ci) args) [] n z M) none
    | _ => none)
def bm_dec (own : Nat) (cc : ByteArray) (ps : List Nat) (bp nx : Nat) (ai : am_I) : Bool := match ai with
  | (.iload n, kd, _) => (match kd with
    | 0 => am_d1 cc bp nx (.iload_n (Fin.ofNat 4 n)) 1 && decide (n < 4)
    | _ => am_d1 cc bp nx (.aload_n (Fin.ofNat 4 n)) 1 && decide (n < 4))
  | (.istore n, kd, _) => (match kd with
    | 0 => am_d1 cc bp nx (.istore_n (Fin.ofNat 4 n)) 1 && decide (n < 4)
    | _ => am_d1 cc bp nx (.astore_n (Fin.ofNat 4 n)) 1 && decide (n < 4))
  | (.nop, _, _) => decide (own = 8)
  | (.bipush v, a, _) => decide (am_in v) && (match a with
    | 0 => am_d1 cc bp nx (.iconst v) 1
    | 1 => am_d1 cc bp nx (.bipush v) 2 && decide ((Int8.ofInt v).toInt32 = Int32.ofInt v)
    | _ => am_d1 cc bp nx (.sipush v) 3 && decide ((Int16.ofInt v).toInt32 = Int32.ofInt v))
  | (.dup, _, _) => am_d1 cc bp nx .dup 1
  | (.if_icmp .ge t, _, _) => am_d1 cc bp nx (.if_icmp .ge (am_off ps bp t)) 3
  | (.goto t, _, _) => am_d0 cc bp (.goto (am_off ps bp t)) 3
  | (.iinc n c, _, _) => am_d1 cc bp nx (.iinc n c) 3
  | (.checkcast k, ci, b) => am_d1 cc bp nx (.getfield b) 3 && bm_fl.contains (own, b, ci, k)
  | (.putfield k, ci, b) => am_d1 cc bp nx (.putfield (b / 2)) 3 && bm_fp.contains (own, b, ci, k)
  | (.new ci, b, _) => am_d1 cc bp nx (.new b) 3 && bm_nw.contains (own, b, ci)
  | (.newarray t, _, _) => am_d1 cc bp nx (.newarray t) 2
  | (.anewarray k, b, _) => am_d1 cc bp nx (.anewarray b) 3 && bm_an.contains (own, b, k)
  | (.aastore, _, _) => am_d1 cc bp nx .aastore 1
  | (.areturn, b, _) => am_d1 cc bp nx (.invokespecial b) 3 && bm_oi.contains (own, b)
  | (.invokespecial ci, b, t) => am_d1 cc bp nx (.invokespecial b) 3 && bm_iv.contains (own, b, ci, t)
  | (.return_, _, _) => am_d0 cc bp .return_ 1
  | _ => false
def bm_decs (own : Nat) (cc : ByteArray) (ps : List Nat) : List Nat → List am_I → Bool
  | bp :: nx :: r, ai :: c => bm_dec own cc ps bp nx ai && bm_decs own cc ps (nx :: r) c
  | [_], [] => true
  | _, _ => false
def bm_FL (q : Nat × Nat × Nat × Nat) : Prop := ∃ (C : String) (T : u_T) (N : Nat), vwCl[q.2.2.1]? = some (C, T, N) ∧ q.2.2.2 < N ∧ (T q.2.2.2).1 = C ∧ Cond.fieldLink (am_cn q.1) q.2.1 C (T q.2.2.2).2.1 (T q.2.2.2).2.2.1 ∈ lw_tbl ∧ am_isr q.2.2.1 q.2.2.2 = true ∧ q.2.2.1 < 8
def bm_FP (q : Nat × Nat × Nat × Nat) : Prop := ∃ (C : String) (T : u_T) (N : Nat), vwCl[q.2.2.1]? = some (C, T, N) ∧ q.2.2.2 < N ∧ (T q.2.2.2).1 = C ∧ Cond.fieldLink (am_cn q.1) (q.2.1 / 2) C (T q.2.2.2).2.1 (T q.2.2.2).2.2.1 ∈ lw_tbl ∧ am_isr q.2.2.1 q.2.2.2 = Nat.beq (q.2.1 % 2) 1 ∧ q.2.2.1 < 8 ∧ (T q.2.2.2).2.2.2 = Nat.beq (q.2.1 % 2) 1 ∧ ∃ ty, parseFieldDescriptor (T q.2.2.2).2.2.1 = some ty ∧ (cond (Nat.beq (q.2.1 % 2) 1) (∀ a : Nat, narrow ty (.ref a) = .ref a ∧ fits ty (.ref a) = true) (ty = .int))
def bm_NW (q : Nat × Nat × Nat) : Prop := Cond.classLink (am_cn q.1) q.2.1 (am_cn q.2.2) ∈ lw_tbl ∧ Cond.instantiable (am_cn q.2.2) (am_nf q.2.2) ∈ lw_tbl ∧ Cond.initialized (am_cn q.2.2) ∈ lw_tbl ∧ q.2.2 < 8
def bm_AN (q : Nat × Nat × Nat) : Prop := Cond.classLink (am_cn q.1) q.2.1 (am_cn (cond (Nat.beq q.2.2 11) 5 1)) ∈ lw_tbl
def bm_IV (q : Nat × Nat × Nat × Nat) : Prop := (cond (Nat.beq q.2.2.2 1) (Cond.methodLinkNest (am_cn q.1) q.2.1 (bm_y q.2.2.1) "LentHands" ∈ lw_tbl) (Cond.methodLink (am_cn q.1) q.2.1 (bm_y q.2.2.1) ∈ lw_tbl)) ∧ q.2.2.1 < 8
def bm_OI (q : Nat × Nat) : Prop := Cond.methodLink (am_cn q.1) q.2 Lib.objectInit ∈ lw_tbl
def bm_MF (ci : Nat) : Prop := plainName (bm_y ci).cls = true ∧ Cond.code (bm_y ci) (bm_b ci) (bm_ml ci) none ∈ lw_tbl ∧ ((bm_y ci).cls ≠ "java/lang/invoke/MethodHandle" ∧ (bm_y ci).cls ≠ "java/lang/invoke/VarHandle" ∧ (parseMethodDescriptor (bm_y ci).desc).map (fun d => d.parameters.length) = some 0) ∧ Cond.instanceMethod (bm_y ci) ∈ lw_tbl ∧ Cond.initialized (bm_y ci).cls ∈ lw_tbl

theorem bm_ok0 : bm_decs 0 (bm_b 0) bm_p0 bm_p0 bm_c0 = true := by decide +kernel
theorem bm_ok1 : bm_decs 1 (bm_b 1) bm_p1 bm_p1 bm_c1 = true := by decide +kernel
theorem bm_ok2 : bm_decs 2 (bm_b 2) bm_p2 bm_p2 bm_c2 = true := by decide +kernel
theorem bm_ok3 : bm_decs 3 (bm_b 3) bm_p3 bm_p3 bm_c3 = true := by decide +kernel
theorem bm_ok4 : bm_decs 4 (bm_b 4) bm_p4 bm_p4 bm_c4 = true := by decide +kernel
theorem bm_ok5 : bm_decs 5 (bm_b 5) bm_p5 bm_p5 bm_c5 = true := by decide +kernel
theorem bm_ok6 : bm_decs 6 (bm_b 6) bm_p6 bm_p6 bm_c6 = true := by decide +kernel
theorem bm_ok7 : bm_decs 7 (bm_b 7) bm_p7 bm_p7 bm_c7 = true := by decide +kernel
theorem bm_ok_all : ∀ ci, ci < 8 → bm_decs ci (bm_b ci) (bm_pp ci) (bm_pp ci) (bm_code ci) = true := lt_s (lt_s (lt_s (lt_s (lt_s (lt_s (lt_s (lt_s (lt_0) bm_ok0) bm_ok1) bm_ok2) bm_ok3) bm_ok4) bm_ok5) bm_ok6) bm_ok7
theorem bm_fl_0 : bm_FL (4, 11, 4, 0) := ⟨_, _, _, rfl, by decide, rfl, lw_i1 (List.mem_of_getElem? (i := 158) rfl), rfl, by decide⟩
theorem bm_fl_1 : bm_FL (6, 19, 6, 2) := ⟨_, _, _, rfl, by decide, rfl, lw_i1 (List.mem_of_getElem? (i := 235) rfl), rfl, by decide⟩
theorem bm_fl_all : ∀ q ∈ bm_fl, bm_FL q := List.forall_mem_cons.mpr ⟨bm_fl_0, List.forall_mem_cons.mpr ⟨bm_fl_1, fun _ h => absurd h List.not_mem_nil⟩⟩
theorem bm_fp_0 : bm_FP (0, 19, 0, 0) := ⟨_, _, _, rfl, by decide, rfl, lw_i1 (List.mem_of_getElem? (i := 223) rfl), rfl, by decide, rfl, _, rfl, fun _ => ⟨rfl, rfl⟩⟩
theorem bm_fp_1 : bm_FP (0, 31, 0, 1) := ⟨_, _, _, rfl, by decide, rfl, lw_i1 (List.mem_of_getElem? (i := 226) rfl), rfl, by decide, rfl, _, rfl, fun _ => ⟨rfl, rfl⟩⟩
theorem bm_fp_2 : bm_FP (1, 19, 1, 2) := ⟨_, _, _, rfl, by decide, rfl, lw_i1 (List.mem_of_getElem? (i := 134) rfl), rfl, by decide, rfl, _, rfl, fun _ => ⟨rfl, rfl⟩⟩
theorem bm_fp_3 : bm_FP (1, 31, 1, 3) := ⟨_, _, _, rfl, by decide, rfl, lw_i1 (List.mem_of_getElem? (i := 136) rfl), rfl, by decide, rfl, _, rfl, fun _ => ⟨rfl, rfl⟩⟩
theorem bm_fp_4 : bm_FP (1, 37, 1, 4) := ⟨_, _, _, rfl, by decide, rfl, lw_i1 (List.mem_of_getElem? (i := 138) rfl), rfl, by decide, rfl, _, rfl, fun _ => ⟨rfl, rfl⟩⟩
theorem bm_fp_5 : bm_FP (1, 43, 1, 5) := ⟨_, _, _, rfl, by decide, rfl, lw_i1 (List.mem_of_getElem? (i := 140) rfl), rfl, by decide, rfl, _, rfl, fun _ => ⟨rfl, rfl⟩⟩
theorem bm_fp_6 : bm_FP (1, 49, 1, 6) := ⟨_, _, _, rfl, by decide, rfl, lw_i1 (List.mem_of_getElem? (i := 142) rfl), rfl, by decide, rfl, _, rfl, fun _ => ⟨rfl, rfl⟩⟩
theorem bm_fp_7 : bm_FP (2, 19, 2, 0) := ⟨_, _, _, rfl, by decide, rfl, lw_i1 (List.mem_of_getElem? (i := 181) rfl), rfl, by decide, rfl, _, rfl, fun _ => ⟨rfl, rfl⟩⟩
theorem bm_fp_8 : bm_FP (2, 31, 2, 1) := ⟨_, _, _, rfl, by decide, rfl, lw_i1 (List.mem_of_getElem? (i := 182) rfl), rfl, by decide, rfl, _, rfl, fun _ => ⟨rfl, rfl⟩⟩
theorem bm_fp_9 : bm_FP (2, 37, 2, 2) := ⟨_, _, _, rfl, by decide, rfl, lw_i1 (List.mem_of_getElem? (i := 183) rfl), rfl, by decide, rfl, _, rfl, fun _ => ⟨rfl, rfl⟩⟩
theorem bm_fp_10 : bm_FP (2, 42, 2, 6) := ⟨_, _, _, rfl, by decide, rfl, lw_i1 (List.mem_of_getElem? (i := 188) rfl), rfl, by decide, rfl, _, rfl, rfl⟩
theorem bm_fp_11 : bm_FP (2, 57, 2, 8) := ⟨_, _, _, rfl, by decide, rfl, lw_i1 (List.mem_of_getElem? (i := 191) rfl), rfl, by decide, rfl, _, rfl, fun _ => ⟨rfl, rfl⟩⟩
theorem bm_fp_12 : bm_FP (2, 71, 2, 9) := ⟨_, _, _, rfl, by decide, rfl, lw_i1 (List.mem_of_getElem? (i := 193) rfl), rfl, by decide, rfl, _, rfl, fun _ => ⟨rfl, rfl⟩⟩
theorem bm_fp_13 : bm_FP (3, 19, 3, 1) := ⟨_, _, _, rfl, by decide, rfl, lw_i1 (List.mem_of_getElem? (i := 117) rfl), rfl, by decide, rfl, _, rfl, fun _ => ⟨rfl, rfl⟩⟩
theorem bm_fp_14 : bm_FP (4, 23, 4, 0) := ⟨_, _, _, rfl, by decide, rfl, lw_i1 (List.mem_of_getElem? (i := 158) rfl), rfl, by decide, rfl, _, rfl, fun _ => ⟨rfl, rfl⟩⟩
theorem bm_fp_15 : bm_FP (4, 41, 4, 1) := ⟨_, _, _, rfl, by decide, rfl, lw_i1 (List.mem_of_getElem? (i := 160) rfl), rfl, by decide, rfl, _, rfl, fun _ => ⟨rfl, rfl⟩⟩
theorem bm_fp_16 : bm_FP (4, 49, 4, 2) := ⟨_, _, _, rfl, by decide, rfl, lw_i1 (List.mem_of_getElem? (i := 162) rfl), rfl, by decide, rfl, _, rfl, fun _ => ⟨rfl, rfl⟩⟩
theorem bm_fp_17 : bm_FP (5, 19, 5, 5) := ⟨_, _, _, rfl, by decide, rfl, lw_i1 (List.mem_of_getElem? (i := 40) rfl), rfl, by decide, rfl, _, rfl, fun _ => ⟨rfl, rfl⟩⟩
theorem bm_fp_18 : bm_FP (5, 31, 5, 6) := ⟨_, _, _, rfl, by decide, rfl, lw_i1 (List.mem_of_getElem? (i := 42) rfl), rfl, by decide, rfl, _, rfl, fun _ => ⟨rfl, rfl⟩⟩
theorem bm_fp_19 : bm_FP (5, 37, 5, 7) := ⟨_, _, _, rfl, by decide, rfl, lw_i1 (List.mem_of_getElem? (i := 44) rfl), rfl, by decide, rfl, _, rfl, fun _ => ⟨rfl, rfl⟩⟩
theorem bm_fp_20 : bm_FP (5, 43, 5, 8) := ⟨_, _, _, rfl, by decide, rfl, lw_i1 (List.mem_of_getElem? (i := 46) rfl), rfl, by decide, rfl, _, rfl, fun _ => ⟨rfl, rfl⟩⟩
theorem bm_fp_21 : bm_FP (5, 49, 5, 9) := ⟨_, _, _, rfl, by decide, rfl, lw_i1 (List.mem_of_getElem? (i := 48) rfl), rfl, by decide, rfl, _, rfl, fun _ => ⟨rfl, rfl⟩⟩
theorem bm_fp_22 : bm_FP (5, 55, 5, 10) := ⟨_, _, _, rfl, by decide, rfl, lw_i1 (List.mem_of_getElem? (i := 50) rfl), rfl, by decide, rfl, _, rfl, fun _ => ⟨rfl, rfl⟩⟩
theorem bm_fp_23 : bm_FP (5, 61, 5, 11) := ⟨_, _, _, rfl, by decide, rfl, lw_i1 (List.mem_of_getElem? (i := 52) rfl), rfl, by decide, rfl, _, rfl, fun _ => ⟨rfl, rfl⟩⟩
theorem bm_fp_24 : bm_FP (5, 67, 5, 12) := ⟨_, _, _, rfl, by decide, rfl, lw_i1 (List.mem_of_getElem? (i := 54) rfl), rfl, by decide, rfl, _, rfl, fun _ => ⟨rfl, rfl⟩⟩
theorem bm_fp_25 : bm_FP (5, 73, 5, 13) := ⟨_, _, _, rfl, by decide, rfl, lw_i1 (List.mem_of_getElem? (i := 56) rfl), rfl, by decide, rfl, _, rfl, fun _ => ⟨rfl, rfl⟩⟩
theorem bm_fp_26 : bm_FP (5, 79, 5, 14) := ⟨_, _, _, rfl, by decide, rfl, lw_i1 (List.mem_of_getElem? (i := 58) rfl), rfl, by decide, rfl, _, rfl, fun _ => ⟨rfl, rfl⟩⟩
theorem bm_fp_27 : bm_FP (5, 85, 5, 15) := ⟨_, _, _, rfl, by decide, rfl, lw_i1 (List.mem_of_getElem? (i := 60) rfl), rfl, by decide, rfl, _, rfl, fun _ => ⟨rfl, rfl⟩⟩
theorem bm_fp_28 : bm_FP (5, 91, 5, 16) := ⟨_, _, _, rfl, by decide, rfl, lw_i1 (List.mem_of_getElem? (i := 62) rfl), rfl, by decide, rfl, _, rfl, fun _ => ⟨rfl, rfl⟩⟩
theorem bm_fp_29 : bm_FP (6, 21, 6, 0) := ⟨_, _, _, rfl, by decide, rfl, lw_i1 (List.mem_of_getElem? (i := 233) rfl), rfl, by decide, rfl, _, rfl, fun _ => ⟨rfl, rfl⟩⟩
theorem bm_fp_30 : bm_FP (6, 33, 6, 1) := ⟨_, _, _, rfl, by decide, rfl, lw_i1 (List.mem_of_getElem? (i := 234) rfl), rfl, by decide, rfl, _, rfl, fun _ => ⟨rfl, rfl⟩⟩
theorem bm_fp_31 : bm_FP (6, 39, 6, 2) := ⟨_, _, _, rfl, by decide, rfl, lw_i1 (List.mem_of_getElem? (i := 235) rfl), rfl, by decide, rfl, _, rfl, fun _ => ⟨rfl, rfl⟩⟩
theorem bm_fp_32 : bm_FP (6, 53, 6, 5) := ⟨_, _, _, rfl, by decide, rfl, lw_i1 (List.mem_of_getElem? (i := 238) rfl), rfl, by decide, rfl, _, rfl, fun _ => ⟨rfl, rfl⟩⟩
theorem bm_fp_33 : bm_FP (6, 61, 6, 6) := ⟨_, _, _, rfl, by decide, rfl, lw_i1 (List.mem_of_getElem? (i := 239) rfl), rfl, by decide, rfl, _, rfl, fun _ => ⟨rfl, rfl⟩⟩
theorem bm_fp_34 : bm_FP (6, 69, 6, 7) := ⟨_, _, _, rfl, by decide, rfl, lw_i2 (List.mem_of_getElem? (i := 0) rfl), rfl, by decide, rfl, _, rfl, fun _ => ⟨rfl, rfl⟩⟩
theorem bm_fp_35 : bm_FP (6, 75, 6, 8) := ⟨_, _, _, rfl, by decide, rfl, lw_i2 (List.mem_of_getElem? (i := 1) rfl), rfl, by decide, rfl, _, rfl, fun _ => ⟨rfl, rfl⟩⟩
theorem bm_fp_36 : bm_FP (6, 81, 6, 9) := ⟨_, _, _, rfl, by decide, rfl, lw_i2 (List.mem_of_getElem? (i := 2) rfl), rfl, by decide, rfl, _, rfl, fun _ => ⟨rfl, rfl⟩⟩
theorem bm_fp_37 : bm_FP (6, 87, 6, 11) := ⟨_, _, _, rfl, by decide, rfl, lw_i2 (List.mem_of_getElem? (i := 4) rfl), rfl, by decide, rfl, _, rfl, fun _ => ⟨rfl, rfl⟩⟩
theorem bm_fp_38 : bm_FP (6, 101, 6, 13) := ⟨_, _, _, rfl, by decide, rfl, lw_i2 (List.mem_of_getElem? (i := 6) rfl), rfl, by decide, rfl, _, rfl, fun _ => ⟨rfl, rfl⟩⟩
theorem bm_fp_39 : bm_FP (6, 115, 6, 14) := ⟨_, _, _, rfl, by decide, rfl, lw_i2 (List.mem_of_getElem? (i := 7) rfl), rfl, by decide, rfl, _, rfl, fun _ => ⟨rfl, rfl⟩⟩
theorem bm_fp_40 : bm_FP (6, 123, 6, 15) := ⟨_, _, _, rfl, by decide, rfl, lw_i2 (List.mem_of_getElem? (i := 8) rfl), rfl, by decide, rfl, _, rfl, fun _ => ⟨rfl, rfl⟩⟩
theorem bm_fp_41 : bm_FP (7, 15, 7, 0) := ⟨_, _, _, rfl, by decide, rfl, lw_i4 (List.mem_of_getElem? (i := 135) rfl), rfl, by decide, rfl, _, rfl, fun _ => ⟨rfl, rfl⟩⟩
theorem bm_fp_42 : bm_FP (7, 27, 7, 1) := ⟨_, _, _, rfl, by decide, rfl, lw_i4 (List.mem_of_getElem? (i := 136) rfl), rfl, by decide, rfl, _, rfl, fun _ => ⟨rfl, rfl⟩⟩
theorem bm_fp_43 : bm_FP (7, 33, 7, 2) := ⟨_, _, _, rfl, by decide, rfl, lw_i4 (List.mem_of_getElem? (i := 137) rfl), rfl, by decide, rfl, _, rfl, fun _ => ⟨rfl, rfl⟩⟩
theorem bm_fp_44 : bm_FP (7, 39, 7, 3) := ⟨_, _, _, rfl, by decide, rfl, lw_i4 (List.mem_of_getElem? (i := 138) rfl), rfl, by decide, rfl, _, rfl, fun _ => ⟨rfl, rfl⟩⟩
theorem bm_fp_45 : bm_FP (7, 45, 7, 6) := ⟨_, _, _, rfl, by decide, rfl, lw_i4 (List.mem_of_getElem? (i := 141) rfl), rfl, by decide, rfl, _, rfl, fun _ => ⟨rfl, rfl⟩⟩
theorem bm_fp_46 : bm_FP (7, 51, 7, 7) := ⟨_, _, _, rfl, by decide, rfl, lw_i4 (List.mem_of_getElem? (i := 142) rfl), rfl, by decide, rfl, _, rfl, fun _ => ⟨rfl, rfl⟩⟩
theorem bm_fp_47 : bm_FP (7, 57, 7, 8) := ⟨_, _, _, rfl, by decide, rfl, lw_i4 (List.mem_of_getElem? (i := 143) rfl), rfl, by decide, rfl, _, rfl, fun _ => ⟨rfl, rfl⟩⟩
theorem bm_fp_48 : bm_FP (7, 63, 7, 9) := ⟨_, _, _, rfl, by decide, rfl, lw_i4 (List.mem_of_getElem? (i := 144) rfl), rfl, by decide, rfl, _, rfl, fun _ => ⟨rfl, rfl⟩⟩
theorem bm_fp_49 : bm_FP (7, 69, 7, 10) := ⟨_, _, _, rfl, by decide, rfl, lw_i4 (List.mem_of_getElem? (i := 145) rfl), rfl, by decide, rfl, _, rfl, fun _ => ⟨rfl, rfl⟩⟩
theorem bm_fp_50 : bm_FP (7, 75, 7, 11) := ⟨_, _, _, rfl, by decide, rfl, lw_i4 (List.mem_of_getElem? (i := 146) rfl), rfl, by decide, rfl, _, rfl, fun _ => ⟨rfl, rfl⟩⟩
theorem bm_fp_51 : bm_FP (7, 80, 7, 25) := ⟨_, _, _, rfl, by decide, rfl, lw_i4 (List.mem_of_getElem? (i := 160) rfl), rfl, by decide, rfl, _, rfl, rfl⟩
theorem bm_fp_52 : bm_FP (7, 89, 7, 29) := ⟨_, _, _, rfl, by decide, rfl, lw_i4 (List.mem_of_getElem? (i := 164) rfl), rfl, by decide, rfl, _, rfl, fun _ => ⟨rfl, rfl⟩⟩
theorem bm_fp_53 : bm_FP (7, 95, 7, 30) := ⟨_, _, _, rfl, by decide, rfl, lw_i4 (List.mem_of_getElem? (i := 165) rfl), rfl, by decide, rfl, _, rfl, fun _ => ⟨rfl, rfl⟩⟩
theorem bm_fp_all : ∀ q ∈ bm_fp, bm_FP q := List.forall_mem_cons.mpr ⟨bm_fp_0, List.forall_mem_cons.mpr ⟨bm_fp_1, List.forall_mem_cons.mpr ⟨bm_fp_2, List.forall_mem_cons.mpr ⟨bm_fp_3, List.forall_mem_cons.mpr ⟨bm_fp_4, List.forall_mem_cons.mpr ⟨bm_fp_5, List.forall_mem_cons.mpr ⟨bm_fp_6, List.forall_mem_cons.mpr ⟨bm_fp_7, List.forall_mem_cons.mpr ⟨bm_fp_8, List.forall_mem_cons.mpr ⟨bm_fp_9, List.forall_mem_cons.mpr ⟨bm_fp_10, List.forall_mem_cons.mpr ⟨bm_fp_11, List.forall_mem_cons.mpr ⟨bm_fp_12, List.forall_mem_cons.mpr ⟨bm_fp_13, List.forall_mem_cons.mpr ⟨bm_fp_14, List.forall_mem_cons.mpr ⟨bm_fp_15, List.forall_mem_cons.mpr ⟨bm_fp_16, List.forall_mem_cons.mpr ⟨bm_fp_17, List.forall_mem_cons.mpr ⟨bm_fp_18, List.forall_mem_cons.mpr ⟨bm_fp_19, List.forall_mem_cons.mpr ⟨bm_fp_20, List.forall_mem_cons.mpr ⟨bm_fp_21, List.forall_mem_cons.mpr ⟨bm_fp_22, List.forall_mem_cons.mpr ⟨bm_fp_23, List.forall_mem_cons.mpr ⟨bm_fp_24, List.forall_mem_cons.mpr ⟨bm_fp_25, List.forall_mem_cons.mpr ⟨bm_fp_26, List.forall_mem_cons.mpr ⟨bm_fp_27, List.forall_mem_cons.mpr ⟨bm_fp_28, List.forall_mem_cons.mpr ⟨bm_fp_29, List.forall_mem_cons.mpr ⟨bm_fp_30, List.forall_mem_cons.mpr ⟨bm_fp_31, List.forall_mem_cons.mpr ⟨bm_fp_32, List.forall_mem_cons.mpr ⟨bm_fp_33, List.forall_mem_cons.mpr ⟨bm_fp_34, List.forall_mem_cons.mpr ⟨bm_fp_35, List.forall_mem_cons.mpr ⟨bm_fp_36, List.forall_mem_cons.mpr ⟨bm_fp_37, List.forall_mem_cons.mpr ⟨bm_fp_38, List.forall_mem_cons.mpr ⟨bm_fp_39, List.forall_mem_cons.mpr ⟨bm_fp_40, List.forall_mem_cons.mpr ⟨bm_fp_41, List.forall_mem_cons.mpr ⟨bm_fp_42, List.forall_mem_cons.mpr ⟨bm_fp_43, List.forall_mem_cons.mpr ⟨bm_fp_44, List.forall_mem_cons.mpr ⟨bm_fp_45, List.forall_mem_cons.mpr ⟨bm_fp_46, List.forall_mem_cons.mpr ⟨bm_fp_47, List.forall_mem_cons.mpr ⟨bm_fp_48, List.forall_mem_cons.mpr ⟨bm_fp_49, List.forall_mem_cons.mpr ⟨bm_fp_50, List.forall_mem_cons.mpr ⟨bm_fp_51, List.forall_mem_cons.mpr ⟨bm_fp_52, List.forall_mem_cons.mpr ⟨bm_fp_53, fun _ h => absurd h List.not_mem_nil⟩⟩⟩⟩⟩⟩⟩⟩⟩⟩⟩⟩⟩⟩⟩⟩⟩⟩⟩⟩⟩⟩⟩⟩⟩⟩⟩⟩⟩⟩⟩⟩⟩⟩⟩⟩⟩⟩⟩⟩⟩⟩⟩⟩⟩⟩⟩⟩⟩⟩⟩⟩⟩⟩
theorem bm_nw_0 : bm_NW (2, 25, 1) := ⟨lw_i1 (List.mem_of_getElem? (i := 177) rfl), lw_i1 (List.mem_of_getElem? (i := 124) rfl), lw_i1 (List.mem_of_getElem? (i := 5) rfl), by decide⟩
theorem bm_nw_1 : bm_NW (2, 32, 3) := ⟨lw_i1 (List.mem_of_getElem? (i := 179) rfl), lw_i1 (List.mem_of_getElem? (i := 109) rfl), lw_i1 (List.mem_of_getElem? (i := 4) rfl), by decide⟩
theorem bm_nw_2 : bm_NW (4, 17, 3) := ⟨lw_i1 (List.mem_of_getElem? (i := 108) rfl), lw_i1 (List.mem_of_getElem? (i := 109) rfl), lw_i1 (List.mem_of_getElem? (i := 4) rfl), by decide⟩
theorem bm_nw_3 : bm_NW (4, 9, 1) := ⟨lw_i1 (List.mem_of_getElem? (i := 106) rfl), lw_i1 (List.mem_of_getElem? (i := 124) rfl), lw_i1 (List.mem_of_getElem? (i := 5) rfl), by decide⟩
theorem bm_nw_4 : bm_NW (6, 7, 5) := ⟨lw_i1 (List.mem_of_getElem? (i := 24) rfl), lw_i1 (List.mem_of_getElem? (i := 25) rfl), lw_i1 (List.mem_of_getElem? (i := 2) rfl), by decide⟩
theorem bm_nw_5 : bm_NW (6, 23, 4) := ⟨lw_i1 (List.mem_of_getElem? (i := 100) rfl), lw_i1 (List.mem_of_getElem? (i := 101) rfl), lw_i1 (List.mem_of_getElem? (i := 3) rfl), by decide⟩
theorem bm_nw_6 : bm_NW (6, 47, 2) := ⟨lw_i1 (List.mem_of_getElem? (i := 171) rfl), lw_i1 (List.mem_of_getElem? (i := 172) rfl), lw_i1 (List.mem_of_getElem? (i := 6) rfl), by decide⟩
theorem bm_nw_7 : bm_NW (6, 54, 0) := ⟨lw_i1 (List.mem_of_getElem? (i := 217) rfl), lw_i1 (List.mem_of_getElem? (i := 218) rfl), lw_i1 (List.mem_of_getElem? (i := 7) rfl), by decide⟩
theorem bm_nw_8 : bm_NW (8, 7, 6) := ⟨lw_i1 (List.mem_of_getElem? (i := 16) rfl), lw_i1 (List.mem_of_getElem? (i := 17) rfl), lw_i1 (List.mem_of_getElem? (i := 1) rfl), by decide⟩
theorem bm_nw_9 : bm_NW (8, 10, 7) := ⟨lw_i4 (List.mem_of_getElem? (i := 129) rfl), lw_i4 (List.mem_of_getElem? (i := 130) rfl), lw_i1 (List.mem_of_getElem? (i := 8) rfl), by decide⟩
theorem bm_nw_all : ∀ q ∈ bm_nw, bm_NW q := List.forall_mem_cons.mpr ⟨bm_nw_0, List.forall_mem_cons.mpr ⟨bm_nw_1, List.forall_mem_cons.mpr ⟨bm_nw_2, List.forall_mem_cons.mpr ⟨bm_nw_3, List.forall_mem_cons.mpr ⟨bm_nw_4, List.forall_mem_cons.mpr ⟨bm_nw_5, List.forall_mem_cons.mpr ⟨bm_nw_6, List.forall_mem_cons.mpr ⟨bm_nw_7, List.forall_mem_cons.mpr ⟨bm_nw_8, List.forall_mem_cons.mpr ⟨bm_nw_9, fun _ h => absurd h List.not_mem_nil⟩⟩⟩⟩⟩⟩⟩⟩⟩⟩
theorem bm_an_0 : bm_AN (4, 9, 14) := lw_i1 (List.mem_of_getElem? (i := 106) rfl)
theorem bm_an_1 : bm_AN (6, 7, 11) := lw_i1 (List.mem_of_getElem? (i := 24) rfl)
theorem bm_an_all : ∀ q ∈ bm_an, bm_AN q := List.forall_mem_cons.mpr ⟨bm_an_0, List.forall_mem_cons.mpr ⟨bm_an_1, fun _ h => absurd h List.not_mem_nil⟩⟩
theorem bm_iv_0 : bm_IV (2, 27, 1, 1) := ⟨lw_i1 (List.mem_of_getElem? (i := 178) rfl), by decide⟩
theorem bm_iv_1 : bm_IV (2, 34, 3, 1) := ⟨lw_i1 (List.mem_of_getElem? (i := 180) rfl), by decide⟩
theorem bm_iv_2 : bm_IV (4, 19, 3, 1) := ⟨lw_i1 (List.mem_of_getElem? (i := 110) rfl), by decide⟩
theorem bm_iv_3 : bm_IV (4, 27, 1, 1) := ⟨lw_i1 (List.mem_of_getElem? (i := 125) rfl), by decide⟩
theorem bm_iv_4 : bm_IV (6, 9, 5, 1) := ⟨lw_i1 (List.mem_of_getElem? (i := 26) rfl), by decide⟩
theorem bm_iv_5 : bm_IV (6, 25, 4, 0) := ⟨lw_i1 (List.mem_of_getElem? (i := 102) rfl), by decide⟩
theorem bm_iv_6 : bm_IV (6, 49, 2, 1) := ⟨lw_i1 (List.mem_of_getElem? (i := 173) rfl), by decide⟩
theorem bm_iv_7 : bm_IV (6, 56, 0, 1) := ⟨lw_i1 (List.mem_of_getElem? (i := 219) rfl), by decide⟩
theorem bm_iv_8 : bm_IV (8, 9, 6, 0) := ⟨lw_i1 (List.mem_of_getElem? (i := 18) rfl), by decide⟩
theorem bm_iv_9 : bm_IV (8, 12, 7, 0) := ⟨lw_i4 (List.mem_of_getElem? (i := 131) rfl), by decide⟩
theorem bm_iv_all : ∀ q ∈ bm_iv, bm_IV q := List.forall_mem_cons.mpr ⟨bm_iv_0, List.forall_mem_cons.mpr ⟨bm_iv_1, List.forall_mem_cons.mpr ⟨bm_iv_2, List.forall_mem_cons.mpr ⟨bm_iv_3, List.forall_mem_cons.mpr ⟨bm_iv_4, List.forall_mem_cons.mpr ⟨bm_iv_5, List.forall_mem_cons.mpr ⟨bm_iv_6, List.forall_mem_cons.mpr ⟨bm_iv_7, List.forall_mem_cons.mpr ⟨bm_iv_8, List.forall_mem_cons.mpr ⟨bm_iv_9, fun _ h => absurd h List.not_mem_nil⟩⟩⟩⟩⟩⟩⟩⟩⟩⟩
theorem bm_oi_0 : bm_OI (0, 3) := lw_i1 (List.mem_of_getElem? (i := 222) rfl)
theorem bm_oi_1 : bm_OI (1, 3) := lw_i1 (List.mem_of_getElem? (i := 128) rfl)
theorem bm_oi_2 : bm_OI (2, 3) := lw_i1 (List.mem_of_getElem? (i := 176) rfl)
theorem bm_oi_3 : bm_OI (3, 3) := lw_i1 (List.mem_of_getElem? (i := 113) rfl)
theorem bm_oi_4 : bm_OI (4, 3) := lw_i1 (List.mem_of_getElem? (i := 105) rfl)
theorem bm_oi_5 : bm_OI (5, 3) := lw_i1 (List.mem_of_getElem? (i := 29) rfl)
theorem bm_oi_6 : bm_OI (6, 1) := lw_i1 (List.mem_of_getElem? (i := 21) rfl)
theorem bm_oi_7 : bm_OI (7, 1) := lw_i4 (List.mem_of_getElem? (i := 134) rfl)
theorem bm_oi_all : ∀ q ∈ bm_oi, bm_OI q := List.forall_mem_cons.mpr ⟨bm_oi_0, List.forall_mem_cons.mpr ⟨bm_oi_1, List.forall_mem_cons.mpr ⟨bm_oi_2, List.forall_mem_cons.mpr ⟨bm_oi_3, List.forall_mem_cons.mpr ⟨bm_oi_4, List.forall_mem_cons.mpr ⟨bm_oi_5, List.forall_mem_cons.mpr ⟨bm_oi_6, List.forall_mem_cons.mpr ⟨bm_oi_7, fun _ h => absurd h List.not_mem_nil⟩⟩⟩⟩⟩⟩⟩⟩
theorem bm_mf0 : bm_MF 0 := ⟨by decide +kernel, lw_i1 (List.mem_of_getElem? (i := 221) rfl), ⟨by decide +kernel, by decide +kernel, by decide +kernel⟩, lw_i1 (List.mem_of_getElem? (i := 220) rfl), lw_i1 (List.mem_of_getElem? (i := 7) rfl)⟩
theorem bm_mf1 : bm_MF 1 := ⟨by decide +kernel, lw_i1 (List.mem_of_getElem? (i := 127) rfl), ⟨by decide +kernel, by decide +kernel, by decide +kernel⟩, lw_i1 (List.mem_of_getElem? (i := 126) rfl), lw_i1 (List.mem_of_getElem? (i := 5) rfl)⟩
theorem bm_mf2 : bm_MF 2 := ⟨by decide +kernel, lw_i1 (List.mem_of_getElem? (i := 175) rfl), ⟨by decide +kernel, by decide +kernel, by decide +kernel⟩, lw_i1 (List.mem_of_getElem? (i := 174) rfl), lw_i1 (List.mem_of_getElem? (i := 6) rfl)⟩
theorem bm_mf3 : bm_MF 3 := ⟨by decide +kernel, lw_i1 (List.mem_of_getElem? (i := 112) rfl), ⟨by decide +kernel, by decide +kernel, by decide +kernel⟩, lw_i1 (List.mem_of_getElem? (i := 111) rfl), lw_i1 (List.mem_of_getElem? (i := 4) rfl)⟩
theorem bm_mf4 : bm_MF 4 := ⟨by decide +kernel, lw_i1 (List.mem_of_getElem? (i := 104) rfl), ⟨by decide +kernel, by decide +kernel, by decide +kernel⟩, lw_i1 (List.mem_of_getElem? (i := 103) rfl), lw_i1 (List.mem_of_getElem? (i := 3) rfl)⟩
theorem bm_mf5 : bm_MF 5 := ⟨by decide +kernel, lw_i1 (List.mem_of_getElem? (i := 28) rfl), ⟨by decide +kernel, by decide +kernel, by decide +kernel⟩, lw_i1 (List.mem_of_getElem? (i := 27) rfl), lw_i1 (List.mem_of_getElem? (i := 2) rfl)⟩
theorem bm_mf6 : bm_MF 6 := ⟨by decide +kernel, lw_i1 (List.mem_of_getElem? (i := 20) rfl), ⟨by decide +kernel, by decide +kernel, by decide +kernel⟩, lw_i1 (List.mem_of_getElem? (i := 19) rfl), lw_i1 (List.mem_of_getElem? (i := 1) rfl)⟩
theorem bm_mf7 : bm_MF 7 := ⟨by decide +kernel, lw_i4 (List.mem_of_getElem? (i := 133) rfl), ⟨by decide +kernel, by decide +kernel, by decide +kernel⟩, lw_i4 (List.mem_of_getElem? (i := 132) rfl), lw_i1 (List.mem_of_getElem? (i := 8) rfl)⟩
theorem bm_mf_all : ∀ ci, ci < 8 → bm_MF ci := lt_s (lt_s (lt_s (lt_s (lt_s (lt_s (lt_s (lt_s (lt_0) bm_mf0) bm_mf1) bm_mf2) bm_mf3) bm_mf4) bm_mf5) bm_mf6) bm_mf7
theorem bm_l_obj1 : Cond.instanceMethod Lib.objectInit ∈ lw_tbl := lw_i1 (List.mem_of_getElem? (i := 22) rfl)
theorem bm_l_obj2 : Cond.code Lib.objectInit ⟨#[0xb1]⟩ 1 none ∈ lw_tbl := lw_i1 (List.mem_of_getElem? (i := 23) rfl)
theorem bm_l_int : Cond.arrayClass .int ∈ lw_tbl := lw_i1 (List.mem_of_getElem? (i := 98) rfl)
theorem bm_l_char : Cond.arrayClass .char ∈ lw_tbl := lw_i1 (List.mem_of_getElem? (i := 216) rfl)
theorem bm_l_aoWorld : Cond.arrayOver (.object "LentHands$World") ∈ lw_tbl := lw_i1 (List.mem_of_getElem? (i := 99) rfl)
theorem bm_l_aoLaw : Cond.arrayOver (.object "LentHands$Law") ∈ lw_tbl := lw_i1 (List.mem_of_getElem? (i := 107) rfl)
theorem bm_df0 : ∀ k, k < 2 → defaultValue (tyX0 k) = if am_isr 0 k = true then .null else .int 0 := by decide +kernel
theorem bm_df1 : ∀ k, k < 7 → defaultValue (tyX1 k) = if am_isr 1 k = true then .null else .int 0 := by decide +kernel
theorem bm_df2 : ∀ k, k < 10 → defaultValue (tyX2 k) = if am_isr 2 k = true then .null else .int 0 := by decide +kernel
theorem bm_df3 : ∀ k, k < 2 → defaultValue (tyX3 k) = if am_isr 3 k = true then .null else .int 0 := by decide +kernel
theorem bm_df4 : ∀ k, k < 3 → defaultValue (tyX4 k) = if am_isr 4 k = true then .null else .int 0 := by decide +kernel
theorem bm_df5 : ∀ k, k < 17 → defaultValue (tyX5 k) = if am_isr 5 k = true then .null else .int 0 := by decide +kernel
theorem bm_df6 : ∀ k, k < 16 → defaultValue (tyX6 k) = if am_isr 6 k = true then .null else .int 0 := by decide +kernel
theorem bm_df7 : ∀ k, k < 36 → defaultValue (tyX7 k) = if am_isr 7 k = true then .null else .int 0 := by decide +kernel
theorem bm_cd_all : ∀ (ci : Nat) (q : vw_C), vwCl[ci]? = some q → ∃ ty : Nat → FieldType, (∀ k, k < q.2.2 → parseFieldDescriptor (q.2.1 k).2.2.1 = some (ty k)) ∧ ∀ k, k < q.2.2 → defaultValue (ty k) = if am_isr ci k = true then .null else .int 0 := by
  intro ci q h
  match ci, h with
  | 0, h => cases h; exact ⟨_, tyX0_ok, bm_df0⟩
  | 1, h => cases h; exact ⟨_, tyX1_ok, bm_df1⟩
  | 2, h => cases h; exact ⟨_, tyX2_ok, bm_df2⟩
  | 3, h => cases h; exact ⟨_, tyX3_ok, bm_df3⟩
  | 4, h => cases h; exact ⟨_, tyX4_ok, bm_df4⟩
  | 5, h => cases h; exact ⟨_, tyX5_ok, bm_df5⟩
  | 6, h => cases h; exact ⟨_, tyX6_ok, bm_df6⟩
  | 7, h => cases h; exact ⟨_, tyX7_ok, bm_df7⟩
  | k + 8, h => simp [vwCl] at h
