abbrev XV : Type := Nat ⊕ (Nat ⊕ (Nat ⊕ ((Nat × Int) ⊕ ((Nat × Int) ⊕ ((Nat × Nat) ⊕ (Nat × Nat))))))
abbrev XL : Type := List (Option XV)
abbrev XC : Type := Option ((Nat × List XV) ⊕ (Nat × (Nat × (Nat × List (Nat × XV)))))
noncomputable def XT : Nat → Type
  | 0 => XC
  | d + 1 => XT d × XT d
abbrev XH : Type := Nat × (Nat × XT 11)
abbrev XE : Type := List (Int × Int)
abbrev XR : Type := (Nat × (XL × (List XV × XH))) ⊕ ((Option XV × XH) ⊕ (Nat × (List XV × (Nat × (XL × (List XV × XH))))))
abbrev XK : Type := XE → XL → List XV → XH → Option XR
noncomputable def xget : (d : Nat) → XT d → Nat → XC
  | 0, c, _ => c
  | d + 1, t, k => match Nat.mod k 2 with
    | 0 => xget d t.1 (Nat.div k 2)
    | _ + 1 => xget d t.2 (Nat.div k 2)
noncomputable def xset : (d : Nat) → XT d → Nat → XC → XT d
  | 0, _, _, c => c
  | d + 1, t, k, c => match Nat.mod k 2 with
    | 0 => (xset d t.1 (Nat.div k 2) c, t.2)
    | _ + 1 => (t.1, xset d t.2 (Nat.div k 2) c)
noncomputable def xemp : (d : Nat) → XT d
  | 0 => none
  | d + 1 => (xemp d, xemp d)
noncomputable def xlget : XL → Nat → Option XV
  | [], _ => none
  | x :: _, 0 => x
  | _ :: r, i + 1 => xlget r i
noncomputable def xclr : Option XV → Option XV
  | some (.inl a) => some (.inl a)
  | some (.inr (.inr (.inl a))) => some (.inr (.inr (.inl a)))
  | some (.inr (.inr (.inr (.inl a)))) => some (.inr (.inr (.inr (.inl a))))
  | some (.inr (.inr (.inr (.inr (.inr (.inl a)))))) => some (.inr (.inr (.inr (.inr (.inr (.inl a))))))
  | _ => none
noncomputable def xlset : XL → Nat → XV → XL
  | [], _, _ => []
  | _ :: r, 0, v => some v :: r
  | x :: r, 1, v => xclr x :: xlset r 0 v
  | x :: r, i + 2, v => x :: xlset r (i + 1) v
noncomputable def xlset2 : XL → Nat → XV → XL
  | _ :: _ :: r, 0, v => some v :: none :: r
  | x :: r, 1, v => xclr x :: xlset2 r 0 v
  | x :: r, i + 2, v => x :: xlset2 r (i + 1) v
  | _, _, _ => []
noncomputable def xfget : List XV → Nat → Option XV
  | [], _ => none
  | x :: _, 0 => some x
  | _ :: r, i + 1 => xfget r i
noncomputable def xfset : List XV → Nat → XV → List XV
  | [], _, _ => []
  | _ :: r, 0, v => v :: r
  | x :: r, i + 1, v => x :: xfset r i v
noncomputable def xpad : Nat → XL
  | 0 => []
  | n + 1 => none :: xpad n
noncomputable def xpush : Option XV → List XV → List XV
  | none, st => st
  | some v, st => v :: st
noncomputable def xkI : XV → Bool
  | .inl _ => true
  | .inr (.inr (.inr (.inl _))) => true
  | .inr (.inr (.inr (.inr (.inr (.inl _))))) => true
  | _ => false
noncomputable def xkL : XV → Bool
  | .inr (.inl _) => true
  | .inr (.inr (.inr (.inr (.inl _)))) => true
  | .inr (.inr (.inr (.inr (.inr (.inr _))))) => true
  | _ => false
noncomputable def xkR : XV → Bool
  | .inr (.inr (.inl _)) => true
  | _ => false
noncomputable def xentry : List XV → Nat → XL
  | [], n => xpad n
  | v :: r, n => cond (xkL v) (some v :: none :: xentry r (Nat.sub n 2)) (some v :: xentry r (Nat.sub n 1))
noncomputable def xsg (a : Nat) : Nat := Nat.mod (Nat.add a 2147483648) 4294967296
noncomputable def xsL (a : Nat) : Nat := Nat.mod (Nat.add a 9223372036854775808) 18446744073709551616
noncomputable def x_iadd (a b : Nat) : Nat := Nat.mod (Nat.add a b) 4294967296
noncomputable def x_isub (a b : Nat) : Nat := Nat.mod (Nat.add a (Nat.sub 4294967296 b)) 4294967296
noncomputable def x_imul (a b : Nat) : Nat := Nat.mod (Nat.mul a b) 4294967296
noncomputable def x_ishl (a b : Nat) : Nat := Nat.mod (Nat.shiftLeft a (Nat.mod b 32)) 4294967296
noncomputable def x_iushr (a b : Nat) : Nat := Nat.shiftRight a (Nat.mod b 32)
noncomputable def x_ishr (a b : Nat) : Nat := Nat.mod (Nat.sub (Nat.add 4294967296 (Nat.shiftRight (xsg a) (Nat.mod b 32))) (Nat.shiftRight 2147483648 (Nat.mod b 32))) 4294967296
noncomputable def x_ladd (a b : Nat) : Nat := Nat.mod (Nat.add a b) 18446744073709551616
noncomputable def x_lsub (a b : Nat) : Nat := Nat.mod (Nat.add a (Nat.sub 18446744073709551616 b)) 18446744073709551616
noncomputable def x_lmul (a b : Nat) : Nat := Nat.mod (Nat.mul a b) 18446744073709551616
noncomputable def x_lshl (a b : Nat) : Nat := Nat.mod (Nat.shiftLeft a (Nat.mod b 64)) 18446744073709551616
noncomputable def x_lushr (a b : Nat) : Nat := Nat.shiftRight a (Nat.mod b 64)
noncomputable def x_lshr (a b : Nat) : Nat := Nat.mod (Nat.sub (Nat.add 18446744073709551616 (Nat.shiftRight (xsL a) (Nat.mod b 64))) (Nat.shiftRight 9223372036854775808 (Nat.mod b 64))) 18446744073709551616
noncomputable def xEget : XE → Nat → Option (Int × Int)
  | [], _ => none
  | q :: _, 0 => some q
  | _ :: r, i + 1 => xEget r i
noncomputable def xsgn (n : Nat) : Int := cond (Nat.blt n 2147483648) (Int.ofNat n) (Int.ofNat n - 4294967296)
noncomputable def xsgnL (n : Nat) : Int := cond (Nat.blt n 9223372036854775808) (Int.ofNat n) (Int.ofNat n - 18446744073709551616)
noncomputable def xnat (z : Int) : Nat := Int.toNat (z % 4294967296)
noncomputable def xivI (E : XE) : XV → Option (Int × Int)
  | .inl n => some (xsgn n, xsgn n)
  | .inr (.inr (.inr (.inl q))) => match xEget E q.1 with
    | some b => some (b.1 + q.2, b.2 + q.2)
    | none => none
  | .inr (.inr (.inr (.inr (.inr (.inl q))))) => cond (Nat.beq q.2 0) (cond (Nat.blt q.1 2147483648) (some (0, Int.ofNat q.1)) none) none
  | _ => none
noncomputable def xivL (E : XE) : XV → Option (Int × Int)
  | .inr (.inl n) => some (xsgnL n, xsgnL n)
  | .inr (.inr (.inr (.inr (.inl q)))) => match xEget E q.1 with
    | some b => some (b.1 + q.2, b.2 + q.2)
    | none => none
  | .inr (.inr (.inr (.inr (.inr (.inr q))))) => cond (Nat.beq q.2 0) (cond (Nat.blt q.1 9223372036854775808) (some (0, Int.ofNat q.1)) none) none
  | _ => none
noncomputable def xcon (E : XE) : XV → Option Nat
  | .inl n => some n
  | .inr (.inr (.inr (.inl q))) => match xEget E q.1 with
    | some b => cond (decide (b.1 = b.2)) (some (xnat (b.1 + q.2))) none
    | none => none
  | _ => none
noncomputable def xfull (w h : Nat) : Nat := Nat.sub (Nat.pow 2 (Nat.min w (Nat.add (Nat.log2 h) 1))) 1
noncomputable def xspk (lo hi : Nat) : Nat := cond (Nat.beq lo hi) 0 (Nat.add (Nat.log2 (Nat.xor lo hi)) 1)
noncomputable def xspan (lo hi : Nat) : Nat × Nat := (Nat.sub (Nat.pow 2 (xspk lo hi)) 1, Nat.shiftLeft (Nat.shiftRight lo (xspk lo hi)) (xspk lo hi))
/-- bits that aren't known, bits as known -/
noncomputable def xbI (E : XE) : XV → Option (Nat × Nat)
  | .inl n => some (0, n)
  | .inr (.inr (.inr (.inl q))) => match xEget E q.1 with
    | some b => cond (decide (0 ≤ b.1 + q.2)) (cond (decide (b.2 + q.2 < 2147483648)) (some (xspan (Int.toNat (b.1 + q.2)) (Int.toNat (b.2 + q.2)))) (some (4294967295, 0))) (some (4294967295, 0))
    | none => none
  | .inr (.inr (.inr (.inr (.inr (.inl q))))) => some q
  | _ => none
noncomputable def xbL (E : XE) : XV → Option (Nat × Nat)
  | .inr (.inl n) => some (0, n)
  | .inr (.inr (.inr (.inr (.inl q)))) => match xEget E q.1 with
    | some b => cond (decide (0 ≤ b.1 + q.2)) (some (xfull 64 (Int.toNat (b.2 + q.2)), 0)) (some (18446744073709551615, 0))
    | none => none
  | .inr (.inr (.inr (.inr (.inr (.inr q))))) => some q
  | _ => none
noncomputable def xmI (m b : Nat) : XV := cond (Nat.beq m 0) (.inl (Nat.mod b 4294967296)) (.inr (.inr (.inr (.inr (.inr (.inl (m, b)))))))
noncomputable def xmL (m b : Nat) : XV := cond (Nat.beq m 0) (.inr (.inl (Nat.mod b 18446744073709551616))) (.inr (.inr (.inr (.inr (.inr (.inr (m, b)))))))
noncomputable def xandm (a b : Nat × Nat) : Nat := Nat.lor (Nat.land a.1 (Nat.lor b.1 b.2)) (Nat.land b.1 (Nat.lor a.1 a.2))
/-- what stands apart: both known after all -/
noncomputable def xg0 (f : Nat → Nat → Nat) (E : XE) (v w : XV) : Option XV := match xcon E v, xcon E w with
  | some a, some b => some (.inl (f a b))
  | _, _ => none
/-- an argument and a number added, without a wrap or with one -/
noncomputable def xgadd (E : XE) (q : Nat × Int) (z : Int) : Option XV := match xEget E q.1 with
  | some b => cond (decide (-2147483648 ≤ b.1 + (q.2 + z))) (cond (decide (b.2 + (q.2 + z) < 2147483648)) (some (.inr (.inr (.inr (.inl (q.1, q.2 + z)))))) (cond (decide (2147483648 ≤ b.1 + (q.2 + z))) (cond (decide (b.2 + (q.2 + z) < 6442450944)) (some (.inr (.inr (.inr (.inl (q.1, q.2 + z - 4294967296)))))) none) none))
      (cond (decide (-6442450944 ≤ b.1 + (q.2 + z))) (cond (decide (b.2 + (q.2 + z) < -2147483648)) (some (.inr (.inr (.inr (.inl (q.1, q.2 + z + 4294967296)))))) none) none)
  | none => none
noncomputable def xg_add (E : XE) (v w : XV) : Option XV := match xg0 x_iadd E v w with
  | some u => some u
  | none => match v, w with
    | .inr (.inr (.inr (.inl q))), .inl n => xgadd E q (xsgn n)
    | .inl n, .inr (.inr (.inr (.inl q))) => xgadd E q (xsgn n)
    | _, _ => none
noncomputable def xg_sub (E : XE) (v w : XV) : Option XV := match xg0 x_isub E v w with
  | some u => some u
  | none => match v, w with
    | .inr (.inr (.inr (.inl q))), .inl n => xgadd E q (-(xsgn n))
    | _, _ => none
/-- an argument below a power of 2 and a multiple of it -/
noncomputable def xgor1 (E : XE) (q : Nat × Int) (n : Nat) : Option XV := match xEget E q.1 with
  | some b => cond (decide (0 ≤ b.1 + q.2)) (cond (decide (b.2 + q.2 + Int.ofNat n < 2147483648)) (cond (Nat.beq (Nat.mod n (Nat.pow 2 (Nat.add (Nat.log2 (Int.toNat (b.2 + q.2))) 1))) 0) (some (.inr (.inr (.inr (.inl (q.1, q.2 + Int.ofNat n)))))) none) none) none
  | none => none
noncomputable def xgor0 (E : XE) (v w : XV) : Option XV := match v, w with
  | .inr (.inr (.inr (.inl q))), .inl n => xgor1 E q n
  | .inl n, .inr (.inr (.inr (.inl q))) => xgor1 E q n
  | _, _ => none
noncomputable def xg_or (E : XE) (v w : XV) : Option XV := match xgor0 E v w with
  | some u => some u
  | none => match xbI E v, xbI E w with
    | some a, some b => some (xmI (Nat.lor a.1 b.1) (Nat.lor a.2 b.2))
    | _, _ => none
noncomputable def xg_and (E : XE) (v w : XV) : Option XV := match xbI E v, xbI E w with
  | some a, some b => some (xmI (xandm a b) (Nat.land a.2 b.2))
  | _, _ => none
noncomputable def xg_shl (E : XE) (v w : XV) : Option XV := match xbI E v, xcon E w with
  | some a, some n => some (xmI (Nat.mod (Nat.shiftLeft a.1 (Nat.mod n 32)) 4294967296) (Nat.mod (Nat.shiftLeft a.2 (Nat.mod n 32)) 4294967296))
  | _, _ => none
noncomputable def xgL_or (E : XE) (v w : XV) : Option XV := match xbL E v, xbL E w with
  | some a, some b => some (xmL (Nat.lor a.1 b.1) (Nat.lor a.2 b.2))
  | _, _ => none
noncomputable def xgL_and (E : XE) (v w : XV) : Option XV := match xbL E v, xbL E w with
  | some a, some b => some (xmL (xandm a b) (Nat.land a.2 b.2))
  | _, _ => none
noncomputable def xgL_shl (E : XE) (v w : XV) : Option XV := match xbL E v, xcon E w with
  | some a, some n => some (xmL (Nat.mod (Nat.shiftLeft a.1 (Nat.mod n 64)) 18446744073709551616) (Nat.mod (Nat.shiftLeft a.2 (Nat.mod n 64)) 18446744073709551616))
  | _, _ => none
/-- the sign known to be 0 -/
noncomputable def xgL_shr (E : XE) (v w : XV) : Option XV := match xbL E v, xcon E w with
  | some a, some n => cond (Nat.blt a.1 9223372036854775808) (cond (Nat.blt a.2 9223372036854775808) (some (xmL (Nat.shiftRight a.1 (Nat.mod n 64)) (Nat.shiftRight a.2 (Nat.mod n 64)))) none) none
  | _, _ => none
noncomputable def xgn (_ : XE) (_ _ : XV) : Option XV := none
noncomputable def d_lt (a b c d : Int) : Option Bool := cond (decide (b < c)) (some true) (cond (decide (d ≤ a)) (some false) none)
noncomputable def d_neg : Option Bool → Option Bool
  | some b => some (!b)
  | none => none
noncomputable def d_eq (a b c d : Int) : Option Bool := cond (decide (b < c)) (some false) (cond (decide (d < a)) (some false) (cond (decide (a = b)) (cond (decide (c = d)) (cond (decide (a = c)) (some true) none) none) none))
noncomputable def d_ne (a b c d : Int) : Option Bool := d_neg (d_eq a b c d)
noncomputable def d_ge (a b c d : Int) : Option Bool := d_neg (d_lt a b c d)
noncomputable def d_gt (a b c d : Int) : Option Bool := d_lt c d a b
noncomputable def d_le (a b c d : Int) : Option Bool := d_neg (d_lt c d a b)
noncomputable def xveq : XV → XV → Bool
  | .inl a, .inl b => Nat.beq a b
  | .inr (.inl a), .inr (.inl b) => Nat.beq a b
  | .inr (.inr (.inl a)), .inr (.inr (.inl b)) => Nat.beq a b
  | _, _ => false
noncomputable def xcats : List XV → Nat
  | [] => 0
  | v :: r => cond (xkL v) (Nat.add 2 (xcats r)) (Nat.add 1 (xcats r))
noncomputable def xat (h : XH) (a : Nat) : XC := cond (Nat.ble 3 a) (cond (Nat.blt a h.1) (xget 11 h.2.2 a) none) none
noncomputable def xput (h : XH) (a : Nat) (c : XC) : XH := (h.1, (h.2.1, xset 11 h.2.2 a c))
noncomputable def xadd (h : XH) (sz : Nat) (c : XC) : XH := (Nat.add h.1 1, (Nat.add h.2.1 sz, xset 11 h.2.2 h.1 c))
noncomputable def xnrm (E : XE) (v : XV) : XV := match v with
  | .inr (.inr (.inr (.inl q))) => match xcon E (.inr (.inr (.inr (.inl q)))) with
    | some n => .inl n
    | none => .inr (.inr (.inr (.inl q)))
  | v => v
noncomputable def X_load (kd : XV → Bool) (i : Nat) (k : XK) : XK := fun e ls st h => match xlget ls i with
  | some v => cond (kd v) (k e ls (xnrm e v :: st) h) none
  | none => none
noncomputable def X_store (kd : XV → Bool) (i : Nat) (k : XK) : XK := fun e ls st h => match st with
  | v :: st' => cond (kd v) (k e (xlset ls i v) st' h) none
  | [] => none
noncomputable def X_lstore (i : Nat) (k : XK) : XK := fun e ls st h => match st with
  | v :: st' => cond (xkL v) (k e (xlset2 ls i v) st' h) none
  | [] => none
noncomputable def X_push (v : XV) (k : XK) : XK := fun e ls st h => k e ls (v :: st) h
noncomputable def X_iinc (i n : Nat) (k : XK) : XK := fun e ls st h => match xlget ls i with
  | some (.inl a) => k e (xlset ls i (.inl (Nat.mod (Nat.add a n) 4294967296))) st h
  | _ => none
noncomputable def X_jump (t : Nat) : XK := fun _ ls st h => some (.inl (t, (ls, (st, h))))
noncomputable def X_ibin (f : Nat → Nat → Nat) (g : XE → XV → XV → Option XV) (k : XK) : XK := fun e ls st h => match st with
  | .inl b :: .inl a :: st' => k e ls (.inl (f a b) :: st') h
  | w :: v :: st' => cond (xkI w) (cond (xkI v) (match g e v w with
    | some u => k e ls (u :: st') h
    | none => none) none) none
  | _ => none
noncomputable def X_lbin (f : Nat → Nat → Nat) (g : XE → XV → XV → Option XV) (k : XK) : XK := fun e ls st h => match st with
  | .inr (.inl b) :: .inr (.inl a) :: st' => k e ls (.inr (.inl (f a b)) :: st') h
  | w :: v :: st' => cond (xkL w) (cond (xkL v) (match g e v w with
    | some u => k e ls (u :: st') h
    | none => none) none) none
  | _ => none
noncomputable def X_lsh (f : Nat → Nat → Nat) (g : XE → XV → XV → Option XV) (k : XK) : XK := fun e ls st h => match st with
  | .inl b :: .inr (.inl a) :: st' => k e ls (.inr (.inl (f a b)) :: st') h
  | w :: v :: st' => cond (xkI w) (cond (xkL v) (match g e v w with
    | some u => k e ls (u :: st') h
    | none => none) none) none
  | _ => none
noncomputable def X_irem (k : XK) : XK := fun e ls st h => match st with
  | .inl b :: .inl a :: st' => cond (Nat.blt a 2147483648) (cond (Nat.blt b 2147483648) (cond (Nat.ble 1 b) (k e ls (.inl (Nat.mod a b) :: st') h) none) none) none
  | _ => none
noncomputable def X_lrem (k : XK) : XK := fun e ls st h => match st with
  | .inr (.inl b) :: .inr (.inl a) :: st' => cond (Nat.blt a 9223372036854775808) (cond (Nat.blt b 9223372036854775808) (cond (Nat.ble 1 b) (k e ls (.inr (.inl (Nat.mod a b)) :: st') h) none) none) none
  | _ => none
noncomputable def X_idiv (k : XK) : XK := fun e ls st h => match st with
  | .inl b :: .inl a :: st' => cond (Nat.blt a 2147483648) (cond (Nat.blt b 2147483648) (cond (Nat.ble 1 b) (k e ls (.inl (Nat.div a b) :: st') h) none) none) none
  | _ => none
noncomputable def X_ldiv (k : XK) : XK := fun e ls st h => match st with
  | .inr (.inl b) :: .inr (.inl a) :: st' => cond (Nat.blt a 9223372036854775808) (cond (Nat.blt b 9223372036854775808) (cond (Nat.ble 1 b) (k e ls (.inr (.inl (Nat.div a b)) :: st') h) none) none) none
  | _ => none
/-- lcmp and the if behind it -/
noncomputable def X_lcif (p : Nat → Nat → Bool) (d : Int → Int → Int → Int → Option Bool) (t : Nat) (k : XK) : XK := fun e ls st h => match st with
  | .inr (.inl b) :: .inr (.inl a) :: st' => cond (p a b) (some (.inl (t, (ls, (st', h))))) (k e ls st' h)
  | w :: v :: st' => match xivL e v, xivL e w with
    | some x, some y => match d x.1 x.2 y.1 y.2 with
      | some b => cond b (some (.inl (t, (ls, (st', h))))) (k e ls st' h)
      | none => none
    | _, _ => none
  | _ => none
noncomputable def X_i2l (k : XK) : XK := fun e ls st h => match st with
  | .inl a :: st' => cond (Nat.blt a 2147483648) (k e ls (.inr (.inl a) :: st') h) (k e ls (.inr (.inl (Nat.add a 18446744069414584320)) :: st') h)
  | .inr (.inr (.inr (.inl q))) :: st' => k e ls (.inr (.inr (.inr (.inr (.inl q)))) :: st') h
  | .inr (.inr (.inr (.inr (.inr (.inl q))))) :: st' => cond (Nat.blt q.1 2147483648) (cond (Nat.blt q.2 2147483648) (k e ls (.inr (.inr (.inr (.inr (.inr (.inr q))))) :: st') h) none) none
  | _ => none
noncomputable def X_l2i (k : XK) : XK := fun e ls st h => match st with
  | .inr (.inl a) :: st' => k e ls (.inl (Nat.mod a 4294967296) :: st') h
  | .inr (.inr (.inr (.inr (.inr (.inr q))))) :: st' => k e ls (xmI (Nat.mod q.1 4294967296) (Nat.mod q.2 4294967296) :: st') h
  | _ => none
noncomputable def X_dup (k : XK) : XK := fun e ls st h => match st with
  | v :: st' => cond (xkL v) none (k e ls (v :: v :: st') h)
  | _ => none
noncomputable def X_dupx1 (k : XK) : XK := fun e ls st h => match st with
  | v :: w :: st' => cond (xkL v) none (cond (xkL w) none (k e ls (v :: w :: v :: st') h))
  | _ => none
noncomputable def X_dup2 (k : XK) : XK := fun e ls st h => match st with
  | v :: w :: st' => cond (xkL v) none (cond (xkL w) none (k e ls (v :: w :: v :: w :: st') h))
  | _ => none
noncomputable def X_pop (k : XK) : XK := fun e ls st h => match st with
  | v :: st' => cond (xkL v) none (k e ls st' h)
  | _ => none
/-- Object.<init> -/
noncomputable def X_oinit (k : XK) : XK := fun e ls st h => match st with
  | .inr (.inr (.inl a)) :: st' => cond (Nat.ble 1 a) (cond (Nat.ble (xcats st') 8) (k e ls st' h) none) none
  | _ => none
noncomputable def X_if (p : Nat → Bool) (d : Int → Int → Int → Int → Option Bool) (t : Nat) (k : XK) : XK := fun e ls st h => match st with
  | .inl a :: st' => cond (p a) (some (.inl (t, (ls, (st', h))))) (k e ls st' h)
  | v :: st' => match xivI e v with
    | some x => match d x.1 x.2 0 0 with
      | some b => cond b (some (.inl (t, (ls, (st', h))))) (k e ls st' h)
      | none => none
    | none => none
  | _ => none
noncomputable def X_if2 (p : Nat → Nat → Bool) (d : Int → Int → Int → Int → Option Bool) (t : Nat) (k : XK) : XK := fun e ls st h => match st with
  | .inl b :: .inl a :: st' => cond (p a b) (some (.inl (t, (ls, (st', h))))) (k e ls st' h)
  | w :: v :: st' => match xivI e v, xivI e w with
    | some x, some y => match d x.1 x.2 y.1 y.2 with
      | some b => cond b (some (.inl (t, (ls, (st', h))))) (k e ls st' h)
      | none => none
    | _, _ => none
  | _ => none
noncomputable def X_ifr (p : Nat → Bool) (t : Nat) (k : XK) : XK := fun e ls st h => match st with
  | .inr (.inr (.inl a)) :: st' => cond (p a) (some (.inl (t, (ls, (st', h))))) (k e ls st' h)
  | _ => none
noncomputable def xapt (a b : Nat) : Bool := cond (Nat.beq a b) true (cond (Nat.beq a 0) true (cond (Nat.beq b 0) true (cond (Nat.beq a 2) false (cond (Nat.beq b 2) false (cond (Nat.ble 4 a) true (Nat.ble 4 b))))))
noncomputable def X_ifr2 (p : Nat → Nat → Bool) (t : Nat) (k : XK) : XK := fun e ls st h => match st with
  | .inr (.inr (.inl b)) :: .inr (.inr (.inl a)) :: st' => cond (xapt a b) (cond (p a b) (some (.inl (t, (ls, (st', h))))) (k e ls st' h)) none
  | _ => none
noncomputable def p_eq (a : Nat) : Bool := Nat.beq a 0
noncomputable def p_ne (a : Nat) : Bool := Nat.ble 1 a
noncomputable def p_lt (a : Nat) : Bool := Nat.ble 2147483648 a
noncomputable def p_ge (a : Nat) : Bool := Nat.blt a 2147483648
noncomputable def p_gt (a : Nat) : Bool := Nat.blt 2147483648 (xsg a)
noncomputable def p_le (a : Nat) : Bool := Nat.ble (xsg a) 2147483648
noncomputable def p2_eq (a b : Nat) : Bool := Nat.beq a b
noncomputable def p2_ne (a b : Nat) : Bool := cond (Nat.beq a b) false true
noncomputable def p2_lt (a b : Nat) : Bool := Nat.blt (xsg a) (xsg b)
noncomputable def p2_ge (a b : Nat) : Bool := Nat.ble (xsg b) (xsg a)
noncomputable def p2_gt (a b : Nat) : Bool := Nat.blt (xsg b) (xsg a)
noncomputable def p2_le (a b : Nat) : Bool := Nat.ble (xsg a) (xsg b)
noncomputable def xnth : List Nat → Nat → Nat → Nat
  | [], _, d => d
  | t :: _, 0, _ => t
  | _ :: r, i + 1, d => xnth r i d
noncomputable def X_tsw (lo : Nat) (ts : List Nat) (d : Nat) : XK := fun e ls st h => match st with
  | .inl a :: st' => some (.inl (cond (Nat.ble lo a) (xnth ts (Nat.sub a lo) d) d, (ls, (st', h))))
  | v :: st' => cond (xkI v) (match xcon e v with
    | some a => some (.inl (cond (Nat.ble lo a) (xnth ts (Nat.sub a lo) d) d, (ls, (st', h))))
    | none => match xivI e v with
      | some x => cond (decide (x.2 < Int.ofNat lo)) (some (.inl (d, (ls, (st', h))))) (cond (decide (Int.ofNat (Nat.add lo ts.length) ≤ x.1)) (some (.inl (d, (ls, (st', h))))) none)
      | none => none) none
  | _ => none
noncomputable def X_getf (ci i : Nat) (k : XK) : XK := fun e ls st h => match st with
  | .inr (.inr (.inl a)) :: st' => match xat h a with
    | some (.inl o) => cond (Nat.beq o.1 ci) (match xfget o.2 i with
      | some v => k e ls (v :: st') h
      | none => none) none
    | _ => none
  | _ => none
noncomputable def xk01 : XV → Bool
  | .inl n => Nat.ble n 1
  | _ => false
noncomputable def X_putf (kd : XV → Bool) (ci i : Nat) (k : XK) : XK := fun e ls st h => match st with
  | v :: .inr (.inr (.inl a)) :: st' => cond (kd v) (cond (Nat.ble 4 a) (match xat h a with
    | some (.inl o) => cond (Nat.beq o.1 ci) (cond (Nat.blt i o.2.length) (k e ls st' (xput h a (some (.inl (o.1, xfset o.2 i v))))) none) none
    | _ => none) none) none
  | _ => none
noncomputable def X_new (ci : Nat) (fs : List XV) (sz : Nat) (k : XK) : XK := fun e ls st h => cond (Nat.blt h.1 2048) (k e ls (.inr (.inr (.inl h.1)) :: st) (xadd h sz (some (.inl (ci, fs))))) none
noncomputable def X_newa (tc : Nat) (k : XK) : XK := fun e ls st h => match st with
  | .inl n :: st' => cond (Nat.blt h.1 2048) (cond (Nat.ble n 4000000) (k e ls (.inr (.inr (.inl h.1)) :: st') (xadd h n (some (.inr (tc, (n, (0, []))))))) none) none
  | _ => none
noncomputable def X_alen (k : XK) : XK := fun e ls st h => match st with
  | .inr (.inr (.inl a)) :: st' => match xat h a with
    | some (.inr r) => k e ls (.inl r.2.1 :: st') h
    | some (.inl _) => none
    | none => cond (Nat.beq a 1) (cond xHasE (k e ls (.inl 0 :: st') h) none) none
  | _ => none
noncomputable def xwd (P i : Nat) : Nat := Nat.mod (Nat.shiftRight P (Nat.mul 32 i)) 4294967296
noncomputable def xwdL (P i : Nat) : Nat := Nat.mod (Nat.shiftRight P (Nat.mul 64 i)) 18446744073709551616
noncomputable def xpt (P i v : Nat) : Nat := Nat.sub (Nat.add P (Nat.shiftLeft v (Nat.mul 32 i))) (Nat.shiftLeft (xwd P i) (Nat.mul 32 i))
noncomputable def xptL (P i v : Nat) : Nat := Nat.sub (Nat.add P (Nat.shiftLeft v (Nat.mul 64 i))) (Nat.shiftLeft (xwdL P i) (Nat.mul 64 i))
noncomputable def xelt (tc P i : Nat) : XV := cond (Nat.beq tc 1) (.inr (.inl (xwdL P i))) (cond (Nat.ble tc 9) (.inl (xwd P i)) (.inr (.inr (.inl (xwd P i)))))
noncomputable def xelem (tc P : Nat) : List (Nat × XV) → Nat → XV
  | [], i => xelt tc P i
  | q :: r, i => cond (Nat.beq q.1 i) q.2 (xelem tc P r i)
noncomputable def xuni (tc P : Nat) (ov : List (Nat × XV)) (v : XV) : Nat → Nat → Bool
  | _, 0 => true
  | l, n + 1 => cond (xveq (xelem tc P ov l) v) (xuni tc P ov v (Nat.add l 1) n) false
noncomputable def X_ald (kt : Nat → Bool) (k : XK) : XK := fun e ls st h => match st with
  | .inl i :: .inr (.inr (.inl a)) :: st' => match xat h a with
    | some (.inr r) => cond (kt r.1) (cond (Nat.blt i r.2.1) (k e ls (xelem r.1 r.2.2.1 r.2.2.2 i :: st') h) none) none
    | _ => none
  | v :: .inr (.inr (.inl a)) :: st' => match xivI e v, xat h a with
    | some x, some (.inr r) => cond (kt r.1) (cond (decide (0 ≤ x.1)) (cond (decide (x.1 ≤ x.2)) (cond (Nat.blt (Int.toNat x.2) r.2.1) (cond (xuni r.1 r.2.2.1 r.2.2.2 (xelem r.1 r.2.2.1 r.2.2.2 (Int.toNat x.1)) (Int.toNat x.1) (Nat.sub (Nat.add (Int.toNat x.2) 1) (Int.toNat x.1))) (k e ls (xelem r.1 r.2.2.1 r.2.2.2 (Int.toNat x.1) :: st') h) none) none) none) none) none
    | _, _ => none
  | _ => none
noncomputable def xt0 (tc : Nat) : Bool := Nat.beq tc 0
noncomputable def xt1 (tc : Nat) : Bool := Nat.beq tc 1
noncomputable def xt2 (tc : Nat) : Bool := Nat.beq tc 2
noncomputable def xt3 (tc : Nat) : Bool := Nat.ble 10 tc
noncomputable def xt4 (tc : Nat) : Bool := Nat.beq tc 3
noncomputable def xdrop : List (Nat × XV) → Nat → List (Nat × XV)
  | [], _ => []
  | q :: r, i => cond (Nat.beq q.1 i) (xdrop r i) (q :: xdrop r i)
/-- a store: a number that is known goes among the packed ones, what stands apart beside them -/
noncomputable def xstore (tc P : Nat) (ov : List (Nat × XV)) (i : Nat) (v : XV) : Nat × List (Nat × XV) := match v with
  | .inl n => cond (Nat.blt i 2048) (xpt P i n, xdrop ov i) (P, (i, .inl n) :: xdrop ov i)
  | .inr (.inl n) => cond (Nat.blt i 2048) (xptL P i n, xdrop ov i) (P, (i, .inr (.inl n)) :: xdrop ov i)
  | .inr (.inr (.inl n)) => (xpt P i n, xdrop ov i)
  | v => (P, (i, v) :: ov)
noncomputable def xkR2 : XV → Bool
  | .inr (.inr (.inl n)) => Nat.blt n 4294967296
  | _ => false
noncomputable def X_ast (kt : Nat → Bool) (kd : XV → Bool) (k : XK) : XK := fun e ls st h => match st with
  | v :: j :: .inr (.inr (.inl a)) :: st' => cond (kd v) (cond (Nat.ble 4 a) (match xcon e j with
    | some i => match xat h a with
      | some (.inr r) => cond (kt r.1) (cond (Nat.blt i r.2.1) (k e ls st' (xput h a (some (.inr (r.1, (r.2.1, xstore r.1 r.2.2.1 r.2.2.2 i v)))))) none) none
      | _ => none
    | none => none) none) none
  | _ => none
/-- an object, a row or null into a row of such -/
noncomputable def X_aast (ok : Nat → XC → Bool) (k : XK) : XK := fun e ls st h => match st with
  | .inr (.inr (.inl v)) :: j :: .inr (.inr (.inl a)) :: st' => cond (Nat.ble 4 a) (match xcon e j, xat h a with
    | some i, some (.inr r) => cond (cond (Nat.beq v 0) (ok r.1 none) (match xat h v with
      | some o => ok r.1 (some o)
      | none => false)) (cond (Nat.ble 10 r.1) (cond (Nat.blt v 2048) (cond (Nat.blt i r.2.1) (k e ls st' (xput h a (some (.inr (r.1, (r.2.1, xstore r.1 r.2.2.1 r.2.2.2 i (.inr (.inr (.inl v))))))))) none) none) none) none
    | _, _ => none) none
  | _ => none
noncomputable def xcp (w A B i j k : Nat) : Nat := Nat.add (Nat.sub B (Nat.shiftLeft (Nat.mod (Nat.shiftRight B (Nat.mul w j)) (Nat.pow 2 (Nat.mul w k))) (Nat.mul w j))) (Nat.shiftLeft (Nat.mod (Nat.shiftRight A (Nat.mul w i)) (Nat.pow 2 (Nat.mul w k))) (Nat.mul w j))
noncomputable def xall (ok : Nat → XC → Bool) (h : XH) (tc P : Nat) : Nat → Nat → Bool
  | _, 0 => true
  | i, n + 1 => cond (cond (Nat.beq (xwd P i) 0) true (match xat h (xwd P i) with
    | some (.inl o) => ok tc (some (.inl o))
    | _ => false)) (xall ok h tc P (Nat.add i 1) n) false
/-- System.arraycopy -/
noncomputable def X_acopy (ok : Nat → XC → Bool) (k : XK) : XK := fun e ls st h => match st with
  | .inl n :: .inl j :: .inr (.inr (.inl b)) :: .inl i :: .inr (.inr (.inl a)) :: st' => match xat h a, xat h b with
    | some (.inr (ta, (na, (P, [])))), some (.inr (tc, (nb, (P', [])))) => cond (Nat.ble 4 b) (cond (Nat.beq ta tc) (cond (Nat.ble (xcats st') 8) (cond (Nat.ble (Nat.add i n) na) (cond (Nat.ble (Nat.add j n) nb) (cond (cond (Nat.ble ta 1) true (cond (Nat.ble 10 ta) (xall ok h ta P i n) false)) (k e ls st' (xput h b (some (.inr (tc, (nb, (xcp (cond (Nat.beq tc 1) 64 32) P P' i j n, []))))))) none) none) none) none) none) none
    | _, _ => none
  | _ => none
noncomputable def xmk : Nat → Nat → Nat → XT 11 → XT 11
  | 0, _, _, t => t
  | n + 1, key, len, t => xmk n (Nat.add key 1) len (xset 11 t key (some (.inr (0, (len, (0, []))))))
noncomputable def xkeys : Nat → Nat → Nat → Nat
  | 0, _, acc => acc
  | n + 1, key, acc => xkeys n (Nat.sub key 1) (Nat.add (Nat.shiftLeft acc 32) (Nat.sub key 1))
/-- new int[n][k] -/
noncomputable def X_multi (tc : Nat) (k : XK) : XK := fun e ls st h => match st with
  | .inl b :: .inl a :: st' => cond (Nat.ble (Nat.add h.1 (Nat.add 1 a)) 2048) (cond (Nat.ble b 4000000) (k e ls (.inr (.inr (.inl h.1)) :: st') (Nat.add h.1 (Nat.add 1 a), (Nat.add h.2.1 (Nat.add a (Nat.mul a b)), xmk a (Nat.add h.1 1) b (xset 11 h.2.2 h.1 (some (.inr (tc, (a, (xkeys a (Nat.add h.1 (Nat.add 1 a)) 0, []))))))))) none) none
  | _ => none
noncomputable def X_min (k : XK) : XK := fun e ls st h => match st with
  | .inl b :: .inl a :: st' => cond (Nat.ble (xcats st') 8) (cond (Nat.blt (xsg b) (xsg a)) (k e ls (.inl b :: st') h) (k e ls (.inl a :: st') h)) none
  | _ => none
noncomputable def X_max (k : XK) : XK := fun e ls st h => match st with
  | .inl b :: .inl a :: st' => cond (Nat.ble (xcats st') 8) (cond (Nat.blt (xsg a) (xsg b)) (k e ls (.inl b :: st') h) (k e ls (.inl a :: st') h)) none
  | _ => none
noncomputable def X_lmin (k : XK) : XK := fun e ls st h => match st with
  | .inr (.inl b) :: .inr (.inl a) :: st' => cond (Nat.ble (xcats st') 8) (cond (Nat.blt (xsL b) (xsL a)) (k e ls (.inr (.inl b) :: st') h) (k e ls (.inr (.inl a) :: st') h)) none
  | _ => none
/-- getClass() of a row of objects -/
noncomputable def X_getC (tc : Nat) (k : XK) : XK := fun e ls st h => match st with
  | .inr (.inr (.inl a)) :: st' => match xat h a with
    | some (.inr r) => cond (Nat.beq r.1 tc) (cond (Nat.ble (xcats st') 8) (k e ls (.inr (.inr (.inl 2)) :: st') h) none) none
    | _ => none
  | _ => none
noncomputable def X_vret : XK := fun _ _ st h => match st with
  | [] => some (.inr (.inl (none, h)))
  | _ => none
noncomputable def X_ret (kd : XV → Bool) : XK := fun _ _ st h => match st with
  | [v] => cond (kd v) (some (.inr (.inl (some v, h)))) none
  | _ => none
noncomputable def xtake : Nat → List XV → List XV → Option (List XV × List XV)
  | 0, st, acc => some (acc, st)
  | n + 1, v :: st, acc => xtake n st (v :: acc)
  | _ + 1, [], _ => none
/-- a call: static ones, and those of an object of a class ci; constructors -/
noncomputable def X_callS (mid n pc : Nat) : XK := fun _ ls st h => match xtake n st [] with
  | some q => cond (Nat.ble (xcats q.2) 8) (some (.inr (.inr (mid, (q.1, (pc, (ls, (q.2, h)))))))) none
  | none => none
noncomputable def X_callI (mid n pc : Nat) : XK := fun _ ls st h => match xtake n st [] with
  | some (.inr (.inr (.inl b)) :: av, st') => cond (Nat.ble 1 b) (cond (Nat.ble (xcats st') 8) (some (.inr (.inr (mid, (.inr (.inr (.inl b)) :: av, (pc, (ls, (st', h)))))))) none) none
  | _ => none
noncomputable def X_callV (ci mid n pc : Nat) : XK := fun _ ls st h => match xtake n st [] with
  | some (.inr (.inr (.inl b)) :: av, st') => match xat h b with
    | some (.inl o) => cond (Nat.beq o.1 ci) (cond (Nat.ble (xcats st') 8) (some (.inr (.inr (mid, (.inr (.inr (.inl b)) :: av, (pc, (ls, (st', h)))))))) none) none
    | _ => none
  | _ => none
noncomputable def xloop (call : Nat → List XV → XE → XH → Option (Option XV × XH)) (n : Nat) : (Nat → Option XK) → XE → (Nat × (XL × (List XV × XH))) → Option (Option XV × XH) :=
  Nat.rec (motive := fun _ => (Nat → Option XK) → XE → (Nat × (XL × (List XV × XH))) → Option (Option XV × XH)) (fun _ _ _ => none)
    (fun _ ih tb e c => match tb c.1 with
      | none => none
      | some k => match k e c.2.1 c.2.2.1 c.2.2.2 with
        | none => none
        | some (.inl c') => ih tb e c'
        | some (.inr (.inl r)) => some r
        | some (.inr (.inr (mid, (av, (pc, (ls, (st, h))))))) => match call mid av e h with
          | none => none
          | some (v, h') => ih tb e (pc, (ls, (xpush v st, h')))) n
noncomputable def xcall (P : Nat → Option (Nat × (Nat → Option XK))) (N : Nat) (d : Nat) : Nat → List XV → XE → XH → Option (Option XV × XH) :=
  Nat.rec (motive := fun _ => Nat → List XV → XE → XH → Option (Option XV × XH)) (fun _ _ _ _ => none)
    (fun _ ih mid av e h => match P mid with
      | none => none
      | some (nL, tb) => cond (Nat.ble (xcats av) nL) (xloop ih N tb e (0, (xentry av nL, ([], h)))) none) d
noncomputable def X_ineg (k : XK) : XK := fun e ls st h => match st with
  | .inl a :: st' => k e ls (.inl (Nat.mod (Nat.sub 4294967296 a) 4294967296) :: st') h
  | _ => none
noncomputable def pL_eq (a b : Nat) : Bool := Nat.beq a b
noncomputable def pL_ne (a b : Nat) : Bool := cond (Nat.beq a b) false true
noncomputable def pL_lt (a b : Nat) : Bool := Nat.blt (xsL a) (xsL b)
noncomputable def pL_ge (a b : Nat) : Bool := Nat.ble (xsL b) (xsL a)
noncomputable def pL_gt (a b : Nat) : Bool := Nat.blt (xsL b) (xsL a)
noncomputable def pL_le (a b : Nat) : Bool := Nat.ble (xsL a) (xsL b)

noncomputable def X_stop : XK := fun _ _ _ _ => none
noncomputable def X_cast (ci : Nat) (k : XK) : XK := fun e ls st h => match st with
  | .inr (.inr (.inl a)) :: st' => cond (Nat.beq a 0) (k e ls (.inr (.inr (.inl 0)) :: st') h) (match xat h a with
    | some (.inl o) => cond (Nat.beq o.1 ci) (k e ls (.inr (.inr (.inl a)) :: st') h) none
    | _ => none)
  | _ => none
