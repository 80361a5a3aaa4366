/-! The walk: what is to be shown, out of the code. -/
def am_get (L : LL) (i : Nat) (K : AV → Prop) : Prop := match L, i with
  | [], _ => False
  | some v :: _, 0 => K v
  | none :: _, 0 => False
  | _ :: xs, i + 1 => am_get xs i K
def am_set : LL → Nat → Option AV → (LL → Prop) → Prop
  | [], _, _, _ => False
  | _ :: xs, 0, o, K => K (o :: xs)
  | x :: xs, 1, o, K => am_set xs 0 o (fun ys => match x with
    | some (.inr (.inl _)) => K (none :: ys)
    | some (.inl y) => K (some (.inl y) :: ys)
    | some (.inr (.inr y)) => K (some (.inr (.inr y)) :: ys)
    | none => K (none :: ys))
  | x :: xs, n + 2, o, K => am_set xs (n + 1) o (fun ys => K (x :: ys))
def am_set2 : LL → Nat → (LL → Prop) → Prop
  | [], _, _ => False
  | _ :: xs, 0, K => K (none :: xs)
  | x :: xs, n + 1, K => am_set2 xs n (fun ys => K (x :: ys))
def am_pop : Nat → List AV → List AV → (List AV → List AV → Prop) → Prop
  | 0, st, acc, K => K acc st
  | _ + 1, [], _, _ => False
  | n + 1, v :: st, acc, K => am_pop n st (v :: acc) K
def am_sidxK (b m i : Nat) (K : Nat → Prop) : Prop := match m with
  | 0 => K b
  | _ => K i
def am_aidxK (b j : Nat) (K : Nat → Prop) : Prop := match b with
  | 0 => K j
  | _ => K (b + j)
def am_sw : List Nat → Int → (Nat → Prop) → Prop
  | key :: t :: r, x, K => (x = (key : Int) → K t) ∧ am_sw r x K
  | _, _, _ => True
/-- a value, a state: named, where that is wanted -/
def am_nmV (nm : Bool) (x : Int32) (K : Int32 → Prop) : Prop := match nm with
  | true => ∀ x' : Int32, x' = x → K x'
  | false => K x
def am_nmI (nm : Bool) (I : II) (K : II → Prop) : Prop := match nm with
  | true => ∀ I' : II, I' = I → K I'
  | false => K I
abbrev GO : Type := Nat → Nat → Nat → LL → List AV → II → LJ → RR → GG → Prop
def am_hop (Γ : AMG) (M : MD) (Q : QQ) (nm : Bool) (d pc : Nat) (ce : CE) (go : GO) (k n : Nat) (L : LL) (st : List AV) (I : II) (Lg : LJ) (R : RR) (G : GG) : Prop := match ce with
  | (ins, nx, _, ann, M2) => match ins with
    | .iconst z => go k n nx L (vI (zI z) :: st) I Lg R G
    | .bipush z => go k n nx L (vI (zI z) :: st) I Lg R G
    | .sipush z => go k n nx L (vI (zI z) :: st) I Lg R G
    | .ldc _ => (match ann with
      | 0 :: z :: _ => go k n nx L (vI (zI z) :: st) I Lg R G
      | _ => am_J Γ M Q d k n pc L st I Lg R G)
    | .ldc2_w _ => (match ann with
      | z :: _ => go k n nx L (vL (zL z) :: st) I Lg R G
      | _ => False)
    | .lconst _ => (match ann with
      | z :: _ => go k n nx L (vL (zL z) :: st) I Lg R G
      | _ => False)
    | .iload_n j => am_get L j (fun v => match v with
      | .inl x => go k n nx L (vI x :: st) I Lg R G
      | _ => False)
    | .iload j => am_get L j (fun v => match v with
      | .inl x => go k n nx L (vI x :: st) I Lg R G
      | _ => False)
    | .lload_n j => am_get L j (fun v => match v with
      | .inr (.inl x) => go k n nx L (vL x :: st) I Lg R G
      | _ => False)
    | .lload j => am_get L j (fun v => match v with
      | .inr (.inl x) => go k n nx L (vL x :: st) I Lg R G
      | _ => False)
    | .aload_n j => am_get L j (fun v => match v with
      | .inr (.inr x) => go k n nx L (.inr (.inr x) :: st) I Lg R G
      | _ => False)
    | .aload j => am_get L j (fun v => match v with
      | .inr (.inr x) => go k n nx L (.inr (.inr x) :: st) I Lg R G
      | _ => False)
    | .istore_n j => (match st with
      | .inl x :: r => am_nmV nm x (fun x => am_set L j (some (vI x)) (fun L2 => go k n nx L2 r I Lg R G))
      | _ => False)
    | .istore j => (match st with
      | .inl x :: r => am_nmV nm x (fun x => am_set L j (some (vI x)) (fun L2 => go k n nx L2 r I Lg R G))
      | _ => False)
    | .astore_n j => (match st with
      | .inr (.inr x) :: r => am_set L j (some (.inr (.inr x))) (fun L2 => go k n nx L2 r I Lg R G)
      | _ => False)
    | .astore j => (match st with
      | .inr (.inr x) :: r => am_set L j (some (.inr (.inr x))) (fun L2 => go k n nx L2 r I Lg R G)
      | _ => False)
    | .lstore_n j => (match st with
      | .inr (.inl x) :: r => am_set L j (some (vL x)) (fun L2 => am_set2 L2 (j + 1) (fun L3 => go k n nx L3 r I Lg R G))
      | _ => False)
    | .lstore j => (match st with
      | .inr (.inl x) :: r => am_set L j (some (vL x)) (fun L2 => am_set2 L2 (j + 1) (fun L3 => go k n nx L3 r I Lg R G))
      | _ => False)
    | .iinc j z => am_get L j (fun v => match v with
      | .inl x => am_nmV nm (x + zI z) (fun x => am_set L j (some (vI x)) (fun L2 => go k n nx L2 st I Lg R G))
      | _ => False)
    | .iadd => (match st with
      | .inl y :: .inl x :: r => go k n nx L (vI (x + y) :: r) I Lg R G
      | _ => False)
    | .isub => (match st with
      | .inl y :: .inl x :: r => go k n nx L (vI (x - y) :: r) I Lg R G
      | _ => False)
    | .imul => (match st with
      | .inl y :: .inl x :: r => go k n nx L (vI (x * y) :: r) I Lg R G
      | _ => False)
    | .iand => (match st with
      | .inl y :: .inl x :: r => go k n nx L (vI (x &&& y) :: r) I Lg R G
      | _ => False)
    | .ior => (match st with
      | .inl y :: .inl x :: r => go k n nx L (vI (x ||| y) :: r) I Lg R G
      | _ => False)
    | .ixor => (match st with
      | .inl y :: .inl x :: r => go k n nx L (vI (x ^^^ y) :: r) I Lg R G
      | _ => False)
    | .ishl => (match st with
      | .inl y :: .inl x :: r => go k n nx L (vI (x <<< (y &&& 31)) :: r) I Lg R G
      | _ => False)
    | .ishr => (match st with
      | .inl y :: .inl x :: r => go k n nx L (vI (x >>> (y &&& 31)) :: r) I Lg R G
      | _ => False)
    | .iushr => (match st with
      | .inl y :: .inl x :: r => go k n nx L (vI (x.toUInt32 >>> (y.toUInt32 &&& Int32.toUInt32 31)).toInt32 :: r) I Lg R G
      | _ => False)
    | .idiv => (match st with
      | .inl y :: .inl x :: r => y.toInt ≠ 0 ∧ go k n nx L (vI (x / y) :: r) I Lg R G
      | _ => False)
    | .irem => (match st with
      | .inl y :: .inl x :: r => y.toInt ≠ 0 ∧ go k n nx L (vI (x - x / y * y) :: r) I Lg R G
      | _ => False)
    | .ineg => (match st with
      | .inl x :: r => go k n nx L (vI (-x) :: r) I Lg R G
      | _ => False)
    | .i2l => (match st with
      | .inl x :: r => go k n nx L (vL x.toInt64 :: r) I Lg R G
      | _ => False)
    | .ladd => (match st with
      | .inr (.inl y) :: .inr (.inl x) :: r => go k n nx L (vL (x + y) :: r) I Lg R G
      | _ => False)
    | .lsub => (match st with
      | .inr (.inl y) :: .inr (.inl x) :: r => go k n nx L (vL (x - y) :: r) I Lg R G
      | _ => False)
    | .lmul => (match st with
      | .inr (.inl y) :: .inr (.inl x) :: r => go k n nx L (vL (x * y) :: r) I Lg R G
      | _ => False)
    | .lcmp => (match st with
      | .inr (.inl y) :: .inr (.inl x) :: r => go k n nx L (vI (lg_cmp x y) :: r) I Lg R G
      | _ => False)
    | .ifCond c _ => (match st, ann with
      | .inl x :: r, a :: _ => (match c with
        | .eq => (x.toInt = 0 → go k n a L r I Lg R G) ∧ (x.toInt ≠ 0 → go k n nx L r I Lg R G)
        | .ne => (x.toInt ≠ 0 → go k n a L r I Lg R G) ∧ (x.toInt = 0 → go k n nx L r I Lg R G)
        | .lt => (x.toInt < 0 → go k n a L r I Lg R G) ∧ (0 ≤ x.toInt → go k n nx L r I Lg R G)
        | .ge => (0 ≤ x.toInt → go k n a L r I Lg R G) ∧ (x.toInt < 0 → go k n nx L r I Lg R G)
        | .gt => (0 < x.toInt → go k n a L r I Lg R G) ∧ (x.toInt ≤ 0 → go k n nx L r I Lg R G)
        | .le => (x.toInt ≤ 0 → go k n a L r I Lg R G) ∧ (0 < x.toInt → go k n nx L r I Lg R G))
      | _, _ => False)
    | .if_icmp c _ => (match st, ann with
      | .inl y :: .inl x :: r, a :: _ => (match c with
        | .eq => (x.toInt = y.toInt → go k n a L r I Lg R G) ∧ (x.toInt ≠ y.toInt → go k n nx L r I Lg R G)
        | .ne => (x.toInt ≠ y.toInt → go k n a L r I Lg R G) ∧ (x.toInt = y.toInt → go k n nx L r I Lg R G)
        | .lt => (x.toInt < y.toInt → go k n a L r I Lg R G) ∧ (y.toInt ≤ x.toInt → go k n nx L r I Lg R G)
        | .ge => (y.toInt ≤ x.toInt → go k n a L r I Lg R G) ∧ (x.toInt < y.toInt → go k n nx L r I Lg R G)
        | .gt => (y.toInt < x.toInt → go k n a L r I Lg R G) ∧ (x.toInt ≤ y.toInt → go k n nx L r I Lg R G)
        | .le => (x.toInt ≤ y.toInt → go k n a L r I Lg R G) ∧ (y.toInt < x.toInt → go k n nx L r I Lg R G))
      | _, _ => False)
    | .goto _ => (match ann with
      | a :: _ => go k n a L st I Lg R G
      | _ => False)
    | .aconst_null => go k n nx L (vN :: st) I Lg R G
    | .ifnull _ => (match st, ann with
      | .inr (.inr none) :: r, a :: _ => go k n a L r I Lg R G
      | .inr (.inr (some _)) :: r, _ => go k n nx L r I Lg R G
      | _, _ => False)
    | .ifnonnull _ => (match st, ann with
      | .inr (.inr none) :: r, _ => go k n nx L r I Lg R G
      | .inr (.inr (some _)) :: r, a :: _ => go k n a L r I Lg R G
      | _, _ => False)
    | .if_acmp c _ => (match st, ann with
      | .inr (.inr (some (c2, i2))) :: .inr (.inr (some (c1, i1))) :: r, a :: _ => cond (Nat.blt c1 am_NC && Nat.blt c2 am_NC) (match c with
        | .eq => (c1 = c2 ∧ i1 = i2 → go k n a L r I Lg R G) ∧ (¬ (c1 = c2 ∧ i1 = i2) → go k n nx L r I Lg R G)
        | .ne => (¬ (c1 = c2 ∧ i1 = i2) → go k n a L r I Lg R G) ∧ (c1 = c2 ∧ i1 = i2 → go k n nx L r I Lg R G)) False
      | _, _ => False)
    | .dup => (match st with
      | .inl x :: r => go k n nx L (.inl x :: .inl x :: r) I Lg R G
      | .inr (.inr x) :: r => go k n nx L (.inr (.inr x) :: .inr (.inr x) :: r) I Lg R G
      | _ => False)
    | .dup2 => (match st with
      | .inl x :: .inr (.inr y) :: r => go k n nx L (.inl x :: .inr (.inr y) :: .inl x :: .inr (.inr y) :: r) I Lg R G
      | _ => False)
    | .pop => (match st with
      | .inl _ :: r => go k n nx L r I Lg R G
      | .inr (.inr _) :: r => go k n nx L r I Lg R G
      | _ => False)
    | .getfield _ => (match st, ann with
      | .inr (.inr (some (c, i))) :: r, c' :: f :: _ => cond (Nat.beq c c') (match am_slot c' f with
        | (0, v, _) => go k n nx L (vI (I v i 0) :: r) I Lg R G
        | (1, v, _) => go k n nx L (vI (I v i 0) :: r) I Lg R G
        | (2, v, _) => go k n nx L (vL (Lg v i 0) :: r) I Lg R G
        | (3, t, b, m) => cond (G.1 c i f) (am_sidxK b m i (fun q => go k n nx L (vR t q :: r) I Lg R G)) False
        | (4, v, t, _) => (R v i 0 = none → go k n nx L (vN :: r) I Lg R G) ∧ ∀ b, R v i 0 = some b → go k n nx L (vR t b :: r) I Lg R G
        | _ => False) False
      | _, _ => False)
    | .putfield _ => (match st, ann with
      | v0 :: .inr (.inr (some (c, i))) :: r, c' :: f :: _ => cond (Nat.beq c c') (match am_slot c' f, v0 with
        | (0, v, _), .inl x => am_nmV nm x (fun x => am_nmI nm (up3 I v i 0 x) (fun I2 => go k n nx L r I2 Lg R G))
        | (1, v, _), .inl x => (x = zI 0 ∨ x = zI 1) ∧ am_nmV nm x (fun x => am_nmI nm (up3 I v i 0 x) (fun I2 => go k n nx L r I2 Lg R G))
        | (2, v, _), .inr (.inl x) => go k n nx L r I (up3 Lg v i 0 x) R G
        | (3, t, b, m), .inr (.inr (some (t2, b2))) => (t2 = t ∧ b2 = am_sidx b m i) ∧ go k n nx L r I Lg R (up3 G.1 c i f true, G.2)
        | (4, v, t, _), .inr (.inr (some (t2, b2))) => t2 = t ∧ go k n nx L r I Lg (up3 R v i 0 (some b2)) G
        | (4, v, _, _), .inr (.inr none) => go k n nx L r I Lg (up3 R v i 0 none) G
        | _, _ => False) False
      | _, _ => False)
    | .iaload => (match st with
      | .inl j :: .inr (.inr (some (c, i))) :: r => (match am_ck c with
        | (1, N, v, _) => (0 ≤ j.toInt ∧ j.toInt < N) ∧ go k n nx L (vI (I v i j.toInt.toNat) :: r) I Lg R G
        | _ => am_J Γ M Q d k n pc L st I Lg R G)
      | _ => False)
    | .baload => (match st with
      | .inl j :: .inr (.inr (some (c, i))) :: r => (match am_ck c with
        | (2, N, v, _) => (0 ≤ j.toInt ∧ j.toInt < N) ∧ go k n nx L (vI (I v i j.toInt.toNat) :: r) I Lg R G
        | _ => False)
      | _ => False)
    | .laload => (match st with
      | .inl j :: .inr (.inr (some (c, i))) :: r => (match am_ck c with
        | (3, N, v, _) => (0 ≤ j.toInt ∧ j.toInt < N) ∧ go k n nx L (vL (Lg v i j.toInt.toNat) :: r) I Lg R G
        | _ => False)
      | _ => False)
    | .iastore => (match st with
      | .inl x :: .inl j :: .inr (.inr (some (c, i))) :: r => (match am_ck c with
        | (1, N, v, _) => (0 ≤ j.toInt ∧ j.toInt < N) ∧ am_nmV nm x (fun x => am_nmI nm (up3 I v i j.toInt.toNat x) (fun I2 => go k n nx L r I2 Lg R G))
        | _ => False)
      | _ => False)
    | .bastore => (match st with
      | .inl x :: .inl j :: .inr (.inr (some (c, i))) :: r => (match am_ck c with
        | (2, N, v, _) => (0 ≤ j.toInt ∧ j.toInt < N) ∧ (x = zI 0 ∨ x = zI 1) ∧ am_nmV nm x (fun x => am_nmI nm (up3 I v i j.toInt.toNat x) (fun I2 => go k n nx L r I2 Lg R G))
        | _ => False)
      | _ => False)
    | .lastore => (match st with
      | .inr (.inl x) :: .inl j :: .inr (.inr (some (c, i))) :: r => (match am_ck c with
        | (3, N, v, _) => (0 ≤ j.toInt ∧ j.toInt < N) ∧ go k n nx L r I (up3 Lg v i j.toInt.toNat x) R G
        | _ => False)
      | _ => False)
    | .aaload => (match st with
      | .inl j :: .inr (.inr (some (c, i))) :: r => (match am_ck c with
        | (4, N, t, b, _) => (0 ≤ j.toInt ∧ j.toInt < N) ∧ cond (G.1 c i j.toInt.toNat) (am_aidxK b j.toInt.toNat (fun q => go k n nx L (vR t q :: r) I Lg R G)) False
        | (5, N, v, t, _) => (0 ≤ j.toInt ∧ j.toInt < N) ∧ (R v i j.toInt.toNat = none → go k n nx L (vN :: r) I Lg R G) ∧ ∀ b, R v i j.toInt.toNat = some b → go k n nx L (vR t b :: r) I Lg R G
        | _ => False)
      | _ => False)
    | .aastore => (match st with
      | .inr (.inr (some (t2, b2))) :: .inl j :: .inr (.inr (some (c, i))) :: r => (match am_ck c with
        | (4, N, t, b, y) => cond (Nat.blt y 7) ((0 ≤ j.toInt ∧ j.toInt < N) ∧ (t2 = t ∧ b2 = am_aidx b j.toInt.toNat) ∧ go k n nx L r I Lg R (up3 G.1 c i j.toInt.toNat true, G.2)) False
        | (5, N, v, t, _) => (0 ≤ j.toInt ∧ j.toInt < N) ∧ t2 = t ∧ go k n nx L r I Lg (up3 R v i j.toInt.toNat (some b2)) G
        | _ => False)
      | _ => False)
    | .arraylength => (match st with
      | .inr (.inr (some (c, _))) :: r => (match am_ck c with
        | (a9 + 1, N, _) => cond (Nat.blt a9 5) (go k n nx L (vI (zI N) :: r) I Lg R G) (am_J Γ M Q d k n pc L st I Lg R G)
        | _ => False)
      | _ => False)
    | .tableswitch _ lo hi _ => (match st, ann with
      | .inl x :: r, dfl :: ks => (x.toInt < lo ∨ hi < x.toInt → go k n dfl L r I Lg R G) ∧ am_sw ks x.toInt (fun t => go k n t L r I Lg R G)
      | _, _ => False)
    | .invokevirtual _ => (match d, ann with
      | d' + 1, np :: c' :: k2 :: n2 :: _ => cond (Nat.ble k2 k && Nat.ble n2 n) (am_pop np st [] (fun As rest => cond (Nat.ble (am_cats rest) 8) (match As with
        | .inr (.inr (some (c, _))) :: _ => cond (Nat.beq c c') (am_Sp Γ d' k2 n2 M2 As I Lg R G (fun r I' Lg' R' G' => match r with
          | some v => go (k - k2) (n - n2) nx L (v :: rest) I' Lg' R' G'
          | none => go (k - k2) (n - n2) nx L rest I' Lg' R' G')) False
        | _ => False) False)) False
      | _, _ => am_J Γ M Q d k n pc L st I Lg R G)
    | .invokestatic _ => (match d, ann with
      | d' + 1, 0 :: np :: k2 :: n2 :: _ => cond (Nat.ble k2 k && Nat.ble n2 n) (am_pop np st [] (fun As rest => cond (Nat.ble (am_cats rest) 8) (am_Sp Γ d' k2 n2 M2 As I Lg R G (fun r I' Lg' R' G' => match r with
          | some v => go (k - k2) (n - n2) nx L (v :: rest) I' Lg' R' G'
          | none => go (k - k2) (n - n2) nx L rest I' Lg' R' G')) False)) False
      | _ + 1, 1 :: _ => (match st with
        | .inl y :: .inl x :: r => cond (Nat.ble (am_cats r) 8) (go k n nx L (vI (am_max x y) :: r) I Lg R G) False
        | _ => False)
      | _ + 1, 2 :: _ => (match st with
        | .inl y :: .inl x :: r => cond (Nat.ble (am_cats r) 8) (go k n nx L (vI (am_min x y) :: r) I Lg R G) False
        | _ => False)
      | _ + 1, 3 :: _ => (match st with
        | .inl x :: r => cond (Nat.ble (am_cats r) 8) (go k n nx L (vI (am_abs x) :: r) I Lg R G) False
        | _ => False)
      | _, _ => am_J Γ M Q d k n pc L st I Lg R G)
    | .invokespecial _ => (match d, ann with
      | d' + 1, 0 :: np :: k2 :: n2 :: _ => cond (Nat.ble k2 k && Nat.ble n2 n) (am_pop np st [] (fun As rest => cond (Nat.ble (am_cats rest) 8) (match As with
        | .inr (.inr (some _)) :: _ => am_Sp Γ d' k2 n2 M2 As I Lg R G (fun r I' Lg' R' G' => match r with
          | some v => go (k - k2) (n - n2) nx L (v :: rest) I' Lg' R' G'
          | none => go (k - k2) (n - n2) nx L rest I' Lg' R' G')
        | _ => False) False)) False
      | _ + 1, 1 :: _ => (match st with
        | .inr (.inr (some _)) :: r => cond (Nat.ble (am_cats r) 8) (go k n nx L r I Lg R G) False
        | _ => False)
      | _, _ => am_J Γ M Q d k n pc L st I Lg R G)
    | .new _ => (match k, ann with
      | k' + 1, c :: N :: _ => cond (Nat.ble N n && !(G.1 1000 c 0)) (am_zero c (G.2 c) I Lg R G → go k' (n - N) nx L (vR c (G.2 c) :: st) I Lg R (am_newG G c)) False
      | _, _ => am_J Γ M Q d k n pc L st I Lg R G)
    | .newarray _ => (match k, st, ann with
      | k' + 1, .inl x :: r, c :: N :: _ => cond (Nat.ble N n && !(G.1 1000 c 0)) (x = zI N ∧ (am_zero c (G.2 c) I Lg R G → go k' (n - N) nx L (vR c (G.2 c) :: r) I Lg R (am_newG G c))) False
      | _, _, _ => False)
    | .return_ => (match st with
      | [] => Q none I Lg R G
      | _ => False)
    | .ireturn => (match st, ann with
      | [.inl x], 0 :: _ => Q (some (vI x)) I Lg R G
      | [.inl x], 1 :: _ => (x = zI 0 ∨ x = zI 1) ∧ Q (some (vI x)) I Lg R G
      | _, _ => False)
    | .lreturn => (match st with
      | [.inr (.inl x)] => Q (some (vL x)) I Lg R G
      | _ => False)
    | .areturn => (match st with
      | [.inr (.inr x)] => Q (some (.inr (.inr x))) I Lg R G
      | _ => False)
    | _ => am_J Γ M Q d k n pc L st I Lg R G
def am_noM : MD := ("", ⟨"", "", ""⟩, ⟨#[]⟩, 0, none, 0)
def am_ce0 : CE := (.nop, 0, false, [], am_noM)
def am_adv (Γ : AMG) (M : MD) (rows : List (List CE)) (Q : QQ) (nm : Bool) (d : Nat) : Nat → GO
  | 0 => am_J Γ M Q d
  | f + 1 => fun k n pc L st I Lg R G => am_hop Γ M Q nm d pc (am_lk am_ce0 rows pc) (fun k2 n2 pc2 L2 st2 I2 Lg2 R2 G2 => cond (am_lk am_ce0 rows pc2).2.2.1 (am_J Γ M Q d k2 n2 pc2 L2 st2 I2 Lg2 R2 G2) (am_adv Γ M rows Q nm d f k2 n2 pc2 L2 st2 I2 Lg2 R2 G2)) k n L st I Lg R G
