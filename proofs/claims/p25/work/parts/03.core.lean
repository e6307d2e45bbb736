/-! THE SMALL MACHINE: values (a whole number; a long; a cell by its place; a row of a grid), a heap (kinds of cells, whole numbers, longs), one step of an instruction with what comes behind it as a function. -/
abbrev jxV : Type := Int ⊕ Int ⊕ Nat ⊕ (Nat × Int)
abbrev jxK : Type := Nat × Nat × List Nat
abbrev jxS : Type := List jxK × (Nat → Nat → Int) × (Nat → Nat → Int)
abbrev jxL : Type := List (Option jxV)
abbrev jxR : Type := List jxV × jxS
abbrev jxE : Type := Nat × (Nat → Int)
abbrev jxG : Type := Nat → jxL → List jxV → jxS → Option jxR
abbrev jxD : Type := Nat → List jxV → jxS → Option jxR
def jxw (x : Int) : Int := Int.bmod x 4294967296
def jxwl (x : Int) : Int := Int.bmod x 18446744073709551616
def jxand (a b : Int) : Int := (Int32.ofInt a &&& Int32.ofInt b).toInt
def jxor (a b : Int) : Int := (Int32.ofInt a ||| Int32.ofInt b).toInt
def jxxor (a b : Int) : Int := (Int32.ofInt a ^^^ Int32.ofInt b).toInt
def jxshl (a b : Int) : Int := (Int32.ofInt a <<< (Int32.ofInt b &&& 31)).toInt
def jxshr (a b : Int) : Int := (Int32.ofInt a >>> (Int32.ofInt b &&& 31)).toInt
def jxushr (a b : Int) : Int := (((Int32.ofInt a).toUInt32 >>> ((Int32.ofInt b).toUInt32 &&& Int32.toUInt32 31)).toInt32).toInt
def jxandl (a b : Int) : Int := (Int64.ofInt a &&& Int64.ofInt b).toInt
def jxorl (a b : Int) : Int := (Int64.ofInt a ||| Int64.ofInt b).toInt
def jxshll (a b : Int) : Int := (Int64.ofInt a <<< ((Int32.ofInt b).toInt64 &&& 63)).toInt
def jxshrl (a b : Int) : Int := (Int64.ofInt a >>> ((Int32.ofInt b).toInt64 &&& 63)).toInt
def jxi2b (a : Int) : Int := ((Int32.ofInt a).toInt8.toInt32).toInt
def jxi2c (a : Int) : Int := (((Int32.ofInt a).toUInt32 % 65536).toInt32).toInt
def jxlcmp (a b : Int) : Int := if a < b then -1 else if a = b then 0 else 1
/-- a place written -/
def jxu (f : Nat → Nat → Int) (k j : Nat) (v : Int) : Nat → Nat → Int := fun a b => if a = k then (if b = j then v else f a b) else f a b
def jxlong (v : jxV) : Bool := match v with
  | .inr (.inl _) => true
  | _ => false
def jxcat : List jxV → Nat
  | [] => 0
  | v :: r => (bif jxlong v then 2 else 1) + jxcat r
/-- a local written; a long one place ahead is lost -/
def jxset : jxL → Nat → jxV → jxL
  | [], _, _ => []
  | _ :: L, 0, v => some v :: L
  | x :: L, k + 1, v => (match k, x with
    | 0, some (.inr (.inl _)) => none
    | _, y => y) :: jxset L k v
def jxsetn : jxL → Nat → jxL
  | [], _ => []
  | _ :: L, 0 => none :: L
  | x :: L, k + 1 => x :: jxsetn L k
def jxsetl (L : jxL) (k : Nat) (v : jxV) : jxL := jxsetn (jxset L k v) (k + 1)
/-- only the locals at these places are kept -/
def jxkeepF (ks : List Nat) : Nat → jxL → jxL
  | _, [] => []
  | n, x :: L => (bif ks.contains n then x else none) :: jxkeepF ks (n + 1) L
def jxkeep (ks : List Nat) (L : jxL) : jxL := jxkeepF ks 0 L
def jxtg (pc : Nat) (off : Int) (k : Nat → Option jxR) : Option jxR := match (pc : Int) + off with
  | .ofNat t => k t
  | .negSucc _ => none
def jxbr (c : Jvm.ClassFile.Cond) (a b : Int) (x y : Option jxR) : Option jxR := match c with
  | .eq => if a = b then x else y
  | .ne => if a = b then y else x
  | .lt => if a < b then x else y
  | .ge => if a < b then y else x
  | .gt => if b < a then x else y
  | .le => if b < a then y else x
def jxsw (a : Int) (k : Int → Option jxR) : Int → List Int → Option jxR
  | _, [] => none
  | lo, o :: os => if a = lo then k o else jxsw a k (lo + 1) os
def jxp1 (st : List jxV) (k : Int → List jxV → Option jxR) : Option jxR := match st with
  | .inl a :: r => k a r
  | _ => none
def jxp2 (st : List jxV) (k : Int → Int → List jxV → Option jxR) : Option jxR := match st with
  | .inl b :: .inl a :: r => k a b r
  | _ => none
def jxp1l (st : List jxV) (k : Int → List jxV → Option jxR) : Option jxR := match st with
  | .inr (.inl a) :: r => k a r
  | _ => none
def jxp2l (st : List jxV) (k : Int → Int → List jxV → Option jxR) : Option jxR := match st with
  | .inr (.inl b) :: .inr (.inl a) :: r => k a b r
  | _ => none
def jxpsl (st : List jxV) (k : Int → Int → List jxV → Option jxR) : Option jxR := match st with
  | .inl b :: .inr (.inl a) :: r => k a b r
  | _ => none
def jxlki (L : jxL) (k : Nat) (f : jxV → Option jxR) : Option jxR := match L[k]? with
  | some (some (.inl a)) => f (.inl a)
  | _ => none
def jxlkl (L : jxL) (k : Nat) (f : jxV → Option jxR) : Option jxR := match L[k]? with
  | some (some (.inr (.inl a))) => f (.inr (.inl a))
  | _ => none
def jxn4 : Nat ⊕ (Nat × Int) → Bool
  | .inl n => !(Nat.beq n 4000)
  | .inr _ => true
def jxlka (L : jxL) (k : Nat) (f : jxV → Option jxR) : Option jxR := match L[k]? with
  | some (some (.inr (.inr a))) => bif jxn4 a then f (.inr (.inr a)) else none
  | _ => none
def jxfind {α : Type} : List (Nat × α) → Nat → Option α
  | [], _ => none
  | (j, a) :: l, k => bif Nat.beq k j then some a else jxfind l k
def jxfind2 {α : Type} (T : List (List (Nat × α))) (own k : Nat) : Option α := match T[own]? with
  | some l => jxfind l k
  | none => none
/-- fixed rows: what stands in the heap ahead of the law: the script, three static rows, the bytes of the texts -/
def jxfix (E : jxE) (r : Nat) : Option (Nat × Nat × (Nat → Int)) := bif Nat.ble 2000 r then (bif Nat.ble 3000 r then (bif Nat.beq r 3000 then some (1, E.1, E.2) else match jxstat[r - 3001]? with
    | some l => some (1, l.length, fun j => l.getD j 0)
    | none => none) else match jxtext[r - 2000]? with
    | some l => some (4, l.length, fun j => l.getD j 0)
    | none => none) else none
def jxget (S : jxS) (own idx : Nat) (st : List jxV) (k : List jxV → Option jxR) : Option jxR := match st with
  | .inr (.inr (.inl r)) :: rest => match jxfind2 jxfl own idx with
    | some (ci, slot, _) => bif Nat.beq ci 1000 then (bif Nat.ble 1000 r && Nat.ble r 1015 then (bif Nat.beq slot 0 then k (.inr (.inr (.inl (r + 1000))) :: rest) else k (.inl 0 :: rest)) else none) else
      match S.1[r]? with
      | some (0, cj, rs) => bif Nat.beq ci cj then (match rs[slot]? with
        | some 0 => k (.inl (S.2.1 r slot) :: rest)
        | some 1 => k (.inr (.inl (S.2.2 r slot)) :: rest)
        | some (n + 3) => k (.inr (.inr (.inl n)) :: rest)
        | _ => none) else none
      | _ => none
    | none => none
  | _ => none
def jxput (S : jxS) (y own idx : Nat) (st : List jxV) (k : List jxV → jxS → Option jxR) : Option jxR := match st with
  | v :: .inr (.inr (.inl r)) :: rest => match jxfind2 jxfl own idx with
    | some (ci, slot, fty) => bif Nat.beq ci 1000 || (Nat.ble 10 fty && !(Nat.beq (jxkind y) 2)) then none else match S.1[r]? with
      | some (0, cj, rs) => bif Nat.beq ci cj then (match v, rs[slot]? with
        | .inl a, some 0 => (match fty % 10 with
          | 0 => k rest (S.1, jxu S.2.1 r slot a, S.2.2)
          | 3 => if a = 0 ∨ a = 1 then k rest (S.1, jxu S.2.1 r slot a, S.2.2) else none
          | _ => none)
        | .inr (.inl a), some 1 => (match fty % 10 with
          | 1 => k rest (S.1, S.2.1, jxu S.2.2 r slot a)
          | _ => none)
        | .inr (.inr (.inl n)), some (_ + 2) => (match fty % 10 with
          | 2 => bif Nat.beq n 4000 then none else k rest (S.1.set r (0, cj, rs.set slot (n + 3)), S.2.1, S.2.2)
          | _ => none)
        | _, _ => none) else none
      | _ => none
    | none => none
  | _ => none
def jxald (E : jxE) (S : jxS) (tg : Nat → Bool) (st : List jxV) (k : Int → List jxV → Option jxR) : Option jxR := match st with
  | .inl i :: .inr (.inr (.inl r)) :: rest => (match S.1[r]? with
    | some (t, n, _) => bif tg t then (if 0 ≤ i ∧ i < n then k (S.2.1 r i.toNat) rest else none) else none
    | none => match jxfix E r with
      | some (t, n, f) => bif tg t then (bif Nat.ble n 100000 then (if 0 ≤ i ∧ i < n then k (f i.toNat) rest else none) else none) else none
      | none => none)
  | .inl i :: .inr (.inr (.inr (g, a))) :: rest => (match S.1[g]? with
    | some (5, n, m :: _) => bif tg 1 then (if 0 ≤ a ∧ a < n then (if 0 ≤ i ∧ i < m then k (S.2.1 g (a.toNat * m + i.toNat)) rest else none) else none) else none
    | _ => none)
  | _ => none
def jxaldl (S : jxS) (st : List jxV) (k : Int → List jxV → Option jxR) : Option jxR := match st with
  | .inl i :: .inr (.inr (.inl r)) :: rest => (match S.1[r]? with
    | some (2, n, _) => if 0 ≤ i ∧ i < n then k (S.2.2 r i.toNat) rest else none
    | _ => none)
  | _ => none
def jxalda (S : jxS) (st : List jxV) (k : List jxV → Option jxR) : Option jxR := match st with
  | .inl i :: .inr (.inr (.inl r)) :: rest => (match S.1[r]? with
    | some (5, n, _) => if 0 ≤ i ∧ i < n then k (.inr (.inr (.inr (r, i))) :: rest) else none
    | _ => none)
  | _ => none
def jxast (S : jxS) (st : List jxV) (k : List jxV → jxS → Option jxR) : Option jxR := match st with
  | .inl v :: .inl i :: .inr (.inr (.inl r)) :: rest => (match S.1[r]? with
    | some (1, n, _) => if 0 ≤ i ∧ i < n then k rest (S.1, jxu S.2.1 r i.toNat v, S.2.2) else none
    | _ => none)
  | .inl v :: .inl i :: .inr (.inr (.inr (g, a))) :: rest => (match S.1[g]? with
    | some (5, n, m :: _) => if 0 ≤ a ∧ a < n then (if 0 ≤ i ∧ i < m then k rest (S.1, jxu S.2.1 g (a.toNat * m + i.toNat) v, S.2.2) else none) else none
    | _ => none)
  | _ => none
def jxbst (S : jxS) (st : List jxV) (k : List jxV → jxS → Option jxR) : Option jxR := match st with
  | .inl v :: .inl i :: .inr (.inr (.inl r)) :: rest => (match S.1[r]? with
    | some (3, n, _) => if 0 ≤ i ∧ i < n then (if v = 0 ∨ v = 1 then k rest (S.1, jxu S.2.1 r i.toNat v, S.2.2) else none) else none
    | some (4, n, _) => if 0 ≤ i ∧ i < n then (if -128 ≤ v ∧ v < 128 then k rest (S.1, jxu S.2.1 r i.toNat v, S.2.2) else none) else none
    | _ => none)
  | _ => none
def jxlst (S : jxS) (st : List jxV) (k : List jxV → jxS → Option jxR) : Option jxR := match st with
  | .inr (.inl v) :: .inl i :: .inr (.inr (.inl r)) :: rest => (match S.1[r]? with
    | some (2, n, _) => if 0 ≤ i ∧ i < n then k rest (S.1, S.2.1, jxu S.2.2 r i.toNat v) else none
    | _ => none)
  | _ => none
def jxalen (E : jxE) (S : jxS) (st : List jxV) (k : Int → List jxV → Option jxR) : Option jxR := match st with
  | .inr (.inr (.inl r)) :: rest => (match S.1[r]? with
    | some (t, n, _) => bif Nat.beq t 0 then none else k n rest
    | none => match jxfix E r with
      | some (_, n, _) => bif Nat.ble n 100000 then k n rest else none
      | none => none)
  | _ => none
def jxatag (t : Jvm.ClassFile.ArrayType) : Nat := match t with
  | .int => 1
  | .long => 2
  | .boolean => 3
  | .byte => 4
  | _ => 9
def jxnewa (S : jxS) (t : Nat) (st : List jxV) (k : List jxV → jxS → Option jxR) : Option jxR := match st with
  | .inl (.ofNat n) :: rest => bif Nat.ble t 4 && (Nat.ble n 50000 && Nat.ble S.1.length 900) then k (.inr (.inr (.inl S.1.length)) :: rest) (S.1 ++ [(t, n, [])], S.2) else none
  | _ => none
def jxnewg (S : jxS) (st : List jxV) (k : List jxV → jxS → Option jxR) : Option jxR := match st with
  | .inl (.ofNat m) :: .inl (.ofNat n) :: rest => bif Nat.ble n 100 && (Nat.ble m 100 && Nat.ble S.1.length 700) then k (.inr (.inr (.inl S.1.length)) :: rest) (S.1 ++ ((5, n, [m]) :: (List.range n).map (fun i => (6, m, [S.1.length, i]))), S.2) else none
  | _ => none
def jxnew (S : jxS) (own idx : Nat) (st : List jxV) (k : List jxV → jxS → Option jxR) : Option jxR := match jxfind2 jxcl own idx with
  | some ci => (match jxblank[ci]? with
    | some rs => bif Nat.beq ci 1001 || Nat.ble 900 S.1.length then none else k (.inr (.inr (.inl S.1.length)) :: st) (S.1 ++ [(0, ci, rs)], S.2)
    | none => none)
  | none => none
/-- the receiver of a call is what the method's class says -/
def jxrcv (S : jxS) (z : Nat) (st : List jxV) : Bool := match st with
  | .inr (.inr (.inl r)) :: _ => bif Nat.beq (jxcls z) 1000 then Nat.ble 1000 r && Nat.ble r 1015 else (match S.1[r]? with
    | some (0, ci, _) => Nat.beq ci (jxcls z)
    | _ => false)
  | _ => false
def jxsame (x y : List jxK) : Bool := decide (x = y)
/-- what comes back of a call that makes no cell -/
def jxbI (sh : List jxK) (c : Option jxR) (k : Int → (Nat → Nat → Int) → (Nat → Nat → Int) → Option jxR) : Option jxR := match c with
  | some ([.inl r], (sh1, a, b)) => bif jxsame sh1 sh then k r a b else none
  | _ => none
def jxbJ (sh : List jxK) (c : Option jxR) (k : Int → (Nat → Nat → Int) → (Nat → Nat → Int) → Option jxR) : Option jxR := match c with
  | some ([.inr (.inl r)], (sh1, a, b)) => bif jxsame sh1 sh then k r a b else none
  | _ => none
def jxbV (sh : List jxK) (c : Option jxR) (k : (Nat → Nat → Int) → (Nat → Nat → Int) → Option jxR) : Option jxR := match c with
  | some ([], (sh1, a, b)) => bif jxsame sh1 sh then k a b else none
  | _ => none
/-- of a constructor: it may make cells -/
def jxbN (c : Option jxR) (k : jxS → Option jxR) : Option jxR := match c with
  | some ([], S) => k S
  | _ => none
def jxinv (C : jxD) (S : jxS) (own idx : Nat) (sp : Nat) (st : List jxV) (k : List jxV → jxS → Option jxR) : Option jxR := match jxfind2 jxlk own idx with
  | some z => bif Nat.beq z 9999 then (bif Nat.beq sp 2 then (match st with
      | .inr (.inr (.inl r)) :: rest => bif Nat.ble 1000 r || !(Nat.ble (jxcat rest) 8) then none else k rest S
      | _ => none) else none) else
    bif Nat.beq (jxkind z) sp && Nat.ble (jxcat (st.drop (jxna z))) 8 && Nat.beq (st.take (jxna z)).length (jxna z) && (Nat.beq sp 0 || jxrcv S z (st.take (jxna z)).reverse) && Nat.ble (jxcat (st.take (jxna z))) (jxmaxl z) then (bif Nat.beq sp 2 then jxbN (C z (st.take (jxna z)).reverse S) (fun S1 => k (st.drop (jxna z)) S1)
      else (match jxret z with
      | 0 => jxbV S.1 (C z (st.take (jxna z)).reverse S) (fun a b => k (st.drop (jxna z)) (S.1, a, b))
      | 5 => jxbJ S.1 (C z (st.take (jxna z)).reverse S) (fun r a b => k (.inr (.inl r) :: st.drop (jxna z)) (S.1, a, b))
      | _ => jxbI S.1 (C z (st.take (jxna z)).reverse S) (fun r a b => k (.inl r :: st.drop (jxna z)) (S.1, a, b)))) else none
  | none => none
def jxreti (y : Nat) (S : jxS) (st : List jxV) : Option jxR := match st with
  | [.inl a] => (match jxret y with
    | 1 => some ([.inl a], S)
    | 2 => if a = 0 ∨ a = 1 then some ([.inl a], S) else none
    | 3 => if 0 ≤ a ∧ a < 65536 then some ([.inl a], S) else none
    | 4 => if -128 ≤ a ∧ a < 128 then some ([.inl a], S) else none
    | _ => none)
  | _ => none
/-- one instruction of method y (its class: own), with go for what comes behind and C for the calls -/
def jxins (E : jxE) (C : jxD) (y own : Nat) (i : Instr) (go : jxG) (pc : Nat) (L : jxL) (st : List jxV) (S : jxS) : Option jxR :=
  match i with
  | .aload_n k => jxlka L k (fun v => go (pc + 1) L (v :: st) S)
  | .aload k => jxlka L k (fun v => go (pc + 2) L (v :: st) S)
  | .iload_n k => jxlki L k (fun v => go (pc + 1) L (v :: st) S)
  | .iload k => jxlki L k (fun v => go (pc + 2) L (v :: st) S)
  | .lload_n k => jxlkl L k (fun v => go (pc + 1) L (v :: st) S)
  | .lload k => jxlkl L k (fun v => go (pc + 2) L (v :: st) S)
  | .istore_n k => jxp1 st (fun a r => bif Nat.ble (k + 1) L.length then go (pc + 1) (jxset L k (.inl a)) r S else none)
  | .istore k => jxp1 st (fun a r => bif Nat.ble (k + 1) L.length then go (pc + 2) (jxset L k (.inl a)) r S else none)
  | .lstore_n k => jxp1l st (fun a r => bif Nat.ble (k + 2) L.length then go (pc + 1) (jxsetl L k (.inr (.inl a))) r S else none)
  | .lstore k => jxp1l st (fun a r => bif Nat.ble (k + 2) L.length then go (pc + 2) (jxsetl L k (.inr (.inl a))) r S else none)
  | .astore_n k => (match st with
    | .inr (.inr a) :: r => bif jxn4 a && Nat.ble (k + 1) L.length then go (pc + 1) (jxset L k (.inr (.inr a))) r S else none
    | _ => none)
  | .iconst n => go (pc + 1) L (.inl n :: st) S
  | .bipush n => go (pc + 2) L (.inl n :: st) S
  | .sipush n => go (pc + 3) L (.inl n :: st) S
  | .lconst n => go (pc + 1) L (.inr (.inl (n : Nat)) :: st) S
  | .ldc idx => (match jxfind2 jxldc own idx with
    | some (.inl v) => go (pc + 2) L (.inl v :: st) S
    | some (.inr (.inr (.inl v))) => go (pc + 2) L (.inr (.inr (.inl v)) :: st) S
    | _ => none)
  | .ldc_w idx => (match jxfind2 jxldc own idx with
    | some (.inl v) => go (pc + 3) L (.inl v :: st) S
    | _ => none)
  | .ldc2_w idx => (match jxfind2 jxldc own idx with
    | some (.inr (.inl v)) => go (pc + 3) L (.inr (.inl v) :: st) S
    | _ => none)
  | .iadd => jxp2 st (fun a b r => go (pc + 1) L (.inl (jxw (a + b)) :: r) S)
  | .isub => jxp2 st (fun a b r => go (pc + 1) L (.inl (jxw (a - b)) :: r) S)
  | .imul => jxp2 st (fun a b r => go (pc + 1) L (.inl (jxw (a * b)) :: r) S)
  | .idiv => jxp2 st (fun a b r => if b = 0 then none else go (pc + 1) L (.inl (jxw (a.tdiv b)) :: r) S)
  | .irem => jxp2 st (fun a b r => if b = 0 then none else go (pc + 1) L (.inl (jxw (a.tmod b)) :: r) S)
  | .ineg => jxp1 st (fun a r => go (pc + 1) L (.inl (jxw (-a)) :: r) S)
  | .iand => jxp2 st (fun a b r => go (pc + 1) L (.inl (jxand a b) :: r) S)
  | .ior => jxp2 st (fun a b r => go (pc + 1) L (.inl (jxor a b) :: r) S)
  | .ixor => jxp2 st (fun a b r => go (pc + 1) L (.inl (jxxor a b) :: r) S)
  | .ishl => jxp2 st (fun a b r => go (pc + 1) L (.inl (jxshl a b) :: r) S)
  | .ishr => jxp2 st (fun a b r => go (pc + 1) L (.inl (jxshr a b) :: r) S)
  | .iushr => jxp2 st (fun a b r => go (pc + 1) L (.inl (jxushr a b) :: r) S)
  | .i2l => jxp1 st (fun a r => go (pc + 1) L (.inr (.inl a) :: r) S)
  | .i2b => jxp1 st (fun a r => go (pc + 1) L (.inl (jxi2b a) :: r) S)
  | .i2c => jxp1 st (fun a r => go (pc + 1) L (.inl (jxi2c a) :: r) S)
  | .l2i => jxp1l st (fun a r => go (pc + 1) L (.inl (jxw a) :: r) S)
  | .ladd => jxp2l st (fun a b r => go (pc + 1) L (.inr (.inl (jxwl (a + b))) :: r) S)
  | .lsub => jxp2l st (fun a b r => go (pc + 1) L (.inr (.inl (jxwl (a - b))) :: r) S)
  | .lmul => jxp2l st (fun a b r => go (pc + 1) L (.inr (.inl (jxwl (a * b))) :: r) S)
  | .land => jxp2l st (fun a b r => go (pc + 1) L (.inr (.inl (jxandl a b)) :: r) S)
  | .lor => jxp2l st (fun a b r => go (pc + 1) L (.inr (.inl (jxorl a b)) :: r) S)
  | .lshl => jxpsl st (fun a b r => go (pc + 1) L (.inr (.inl (jxshll a b)) :: r) S)
  | .lshr => jxpsl st (fun a b r => go (pc + 1) L (.inr (.inl (jxshrl a b)) :: r) S)
  | .lcmp => jxp2l st (fun a b r => go (pc + 1) L (.inl (jxlcmp a b) :: r) S)
  | .iinc k n => (match L[k]? with
    | some (some (.inl a)) => go (pc + 3) (jxset L k (.inl (jxw (a + n)))) st S
    | _ => none)
  | .ifCond c off => jxp1 st (fun a r => jxtg pc off (fun t => jxbr c a 0 (go t L r S) (go (pc + 3) L r S)))
  | .if_icmp c off => jxp2 st (fun a b r => jxtg pc off (fun t => jxbr c a b (go t L r S) (go (pc + 3) L r S)))
  | .goto off => jxtg pc off (fun t => go t L st S)
  | .tableswitch d lo hi offs => jxp1 st (fun a r => if a < lo ∨ hi < a then jxtg pc d (fun t => go t L r S) else jxsw a (fun o => jxtg pc o (fun t => go t L r S)) lo offs.toList)
  | .dup => (match st with
    | v :: r => bif jxlong v then none else go (pc + 1) L (v :: v :: r) S
    | _ => none)
  | .pop => (match st with
    | v :: r => bif jxlong v then none else go (pc + 1) L r S
    | _ => none)
  | .dup_x1 => (match st with
    | v :: u :: r => bif jxlong v || jxlong u then none else go (pc + 1) L (v :: u :: v :: r) S
    | _ => none)
  | .dup2 => (match st with
    | v :: u :: r => bif jxlong v || jxlong u then none else go (pc + 1) L (v :: u :: v :: u :: r) S
    | _ => none)
  | .getfield idx => jxget S own idx st (fun st' => go (pc + 3) L st' S)
  | .putfield idx => jxput S y own idx st (fun st' S' => go (pc + 3) L st' S')
  | .getstatic idx => (match jxfind2 jxsf own idx with
    | some v => go (pc + 3) L (v :: st) S
    | none => none)
  | .iaload => jxald E S (fun t => Nat.beq t 1) st (fun v r => go (pc + 1) L (.inl v :: r) S)
  | .baload => jxald E S (fun t => Nat.beq t 3 || Nat.beq t 4) st (fun v r => go (pc + 1) L (.inl v :: r) S)
  | .laload => jxaldl S st (fun v r => go (pc + 1) L (.inr (.inl v) :: r) S)
  | .aaload => jxalda S st (fun st' => go (pc + 1) L st' S)
  | .iastore => jxast S st (fun st' S' => go (pc + 1) L st' S')
  | .bastore => jxbst S st (fun st' S' => go (pc + 1) L st' S')
  | .lastore => jxlst S st (fun st' S' => go (pc + 1) L st' S')
  | .arraylength => jxalen E S st (fun v r => go (pc + 1) L (.inl v :: r) S)
  | .newarray t => jxnewa S (jxatag t) st (fun st' S' => go (pc + 2) L st' S')
  | .multianewarray idx dims => bif Nat.beq dims 2 && (match jxfind2 jxcl own idx with
    | some 1001 => true
    | _ => false) then jxnewg S st (fun st' S' => go (pc + 4) L st' S') else none
  | .new idx => jxnew S own idx st (fun st' S' => go (pc + 3) L st' S')
  | .invokestatic idx => jxinv C S own idx 0 st (fun st' S' => go (pc + 3) L st' S')
  | .invokevirtual idx => jxinv C S own idx 1 st (fun st' S' => go (pc + 3) L st' S')
  | .invokespecial idx => jxinv C S own idx 2 st (fun st' S' => go (pc + 3) L st' S')
  | .ireturn => jxreti y S st
  | .lreturn => (match st with
    | [.inr (.inl a)] => bif Nat.beq (jxret y) 5 then some ([.inr (.inl a)], S) else none
    | _ => none)
  | .return_ => (match st with
    | [] => bif Nat.beq (jxret y) 0 then some ([], S) else none
    | _ => none)
  | _ => none
def jxgo (y : Nat) (rec : jxG) : jxG := fun pc L st S => rec pc (match jxfind2 jxmask y pc with
  | none => L
  | some ks => jxkeep ks L) st S
def jxstep (E : jxE) (C : jxD) (y : Nat) (go : jxG) : jxG := fun pc L st S => match jxcode y pc with
  | none => none
  | some (i, _) => jxins E C y (jxown y) i go pc L st S
def jxrun (E : jxE) (C : jxD) (y : Nat) : Nat → jxG
  | 0 => fun _ _ _ _ => none
  | f + 1 => jxstep E C y (jxgo y (jxrun E C y f))
/-- the locals at a method's entry -/
def jxarg : List jxV → jxL
  | [] => []
  | v :: r => some v :: (bif jxlong v then none :: jxarg r else jxarg r)
def jxent (y : Nat) (as : List jxV) : jxL := jxarg as ++ List.replicate (jxmaxl y - (jxarg as).length) none
/-- by counting: d calls deep, f steps each -/
def jxcf (E : jxE) (f : Nat) : Nat → jxD
  | 0 => fun _ _ _ => none
  | d + 1 => fun y as S => jxrun E (jxcf E f d) y f 0 (jxent y as) [] S
/-- what a run comes to, if it comes to an end -/
noncomputable def jxlim (run : Nat → jxG) : jxG := fun pc L st S => @dite (Option jxR) (∃ f r, run f pc L st S = some r) (Classical.propDecidable _) (fun h => some (Classical.choose (Classical.choose_spec h))) (fun _ => none)
noncomputable def jxC (E : jxE) : Nat → jxD
  | 0 => fun _ _ _ => none
  | d + 1 => fun y as S => jxlim (jxrun E (jxC E d) y) 0 (jxent y as) [] S
noncomputable def jxX (E : jxE) (d y : Nat) : jxG := jxlim (jxrun E (jxC E d) y)
