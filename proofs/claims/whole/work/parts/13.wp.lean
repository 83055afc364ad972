/-! what must hold ahead of a stretch of code, computed -/
abbrev JI : Type := Nat × Instr × Nat × Nat × Nat × Nat × Nat × Nat × Int
abbrev JCut : Type := List (Nat × List Nat × (Nat → Nat → List JV → JM → Prop))
def jat : List JI → Nat → Option JI
  | [], _ => none
  | i :: l, pc => if i.1 = pc then some i else jat l pc
def jcut : JCut → Nat → Option (List Nat × (Nat → Nat → List JV → JM → Prop))
  | [], _ => none
  | i :: l, pc => if i.1 = pc then some i.2 else jcut l pc
def jpick (lv : JL) : List Nat → Option (List JV)
  | [] => some []
  | i :: l => match jlg lv i, jpick lv l with
    | some v, some vs => some (v :: vs)
    | _, _ => none
def jargs : Nat → List JV → List JV → Option (List JV × List JV)
  | 0, st, acc => some (acc, st)
  | n + 1, v :: st, acc => jargs n st (v :: acc)
  | _ + 1, [], _ => none
def jsw (pc : Nat) (v : Int) (K : Nat → Prop) : List Int → Int → Prop
  | [], _ => True
  | off :: l, k => (v = k → K ((pc : Int) + off).toNat) ∧ jsw pc v K l (k + 1)
def jends (cells slots mc ms : Nat) (P : Prop) : Prop := match cells, slots with
  | 0, 0 => P
  | c, s => c ≤ mc ∧ s ≤ ms ∧ P
def jwp (G : JG) (code : List JI) (cut : JCut) (mc ms : Nat) (Q : Int → JM → Prop) : Nat → Bool → Nat → Nat → Nat → JL → List JV → JM → Prop
  | 0, _, _, _, _, _, _, _ => False
  | f + 1, fr, cells, slots, pc, lv, st, M =>
    match (match fr with | true => none | false => jcut cut pc) with
    | some (sl, P) => (match st, jpick lv sl with
      | [], some vs => P cells slots vs M
      | _, _ => False)
    | none =>
      match jat code pc with
      | none => False
      | some (_, i, len, a, b, c, _, e, v) =>
        let K := fun (pc : Nat) (lv : JL) (st : List JV) (M : JM) => jwp G code cut mc ms Q f false cells slots pc lv st M
        match i with
        | .iconst n => K (pc + 1) lv ((0, n) :: st) M
        | .bipush n => K (pc + 2) lv ((0, n) :: st) M
        | .sipush n => K (pc + 3) lv ((0, n) :: st) M
        | .ldc _ => K (pc + 2) lv ((0, v) :: st) M
        | .ldc2_w _ => K (pc + 3) lv ((2, v) :: st) M
        | .lconst n => K (pc + 1) lv ((2, ((n : Nat) : Int)) :: st) M
        | .aconst_null => K (pc + 1) lv ((1, 0) :: st) M
        | .iload k => (match jlg lv k with | some (0, w) => K (pc + 2) lv ((0, w) :: st) M | _ => False)
        | .iload_n k => (match jlg lv k with | some (0, w) => K (pc + 1) lv ((0, w) :: st) M | _ => False)
        | .lload k => (match jlg lv k with | some (2, w) => K (pc + 2) lv ((2, w) :: st) M | _ => False)
        | .lload_n k => (match jlg lv k with | some (2, w) => K (pc + 1) lv ((2, w) :: st) M | _ => False)
        | .aload k => (match jlg lv k with | some (1, w) => K (pc + 2) lv ((1, w) :: st) M | _ => False)
        | .aload_n k => (match jlg lv k with | some (1, w) => K (pc + 1) lv ((1, w) :: st) M | _ => False)
        | .istore k => (match st with | (0, w) :: st => K (pc + 2) (jls lv k (0, w)) st M | _ => False)
        | .istore_n k => (match st with | (0, w) :: st => K (pc + 1) (jls lv k (0, w)) st M | _ => False)
        | .astore k => (match st with | (1, w) :: st => K (pc + 2) (jls lv k (1, w)) st M | _ => False)
        | .astore_n k => (match st with | (1, w) :: st => K (pc + 1) (jls lv k (1, w)) st M | _ => False)
        | .iinc k n => (match jlg lv k with | some (0, w) => jR (w + n) ∧ K (pc + 3) (jls lv k (0, w + n)) st M | _ => False)
        | .iadd => (match st with | (0, y) :: (0, x) :: st => jR (x + y) ∧ K (pc + 1) lv ((0, x + y) :: st) M | _ => False)
        | .isub => (match st with | (0, y) :: (0, x) :: st => jR (x - y) ∧ K (pc + 1) lv ((0, x - y) :: st) M | _ => False)
        | .imul => (match st with | (0, y) :: (0, x) :: st => jR (x * y) ∧ K (pc + 1) lv ((0, x * y) :: st) M | _ => False)
        | .idiv => (match st with | (0, y) :: (0, x) :: st => (0 ≤ x ∧ 0 < y) ∧ K (pc + 1) lv ((0, x / y) :: st) M | _ => False)
        | .irem => (match st with | (0, y) :: (0, x) :: st => (0 ≤ x ∧ 0 < y) ∧ K (pc + 1) lv ((0, x % y) :: st) M | _ => False)
        | .iand => (match st with | (0, y) :: (0, x) :: st => K (pc + 1) lv ((0, jand x y) :: st) M | _ => False)
        | .ishl => (match st with | (0, y) :: (0, x) :: st => K (pc + 1) lv ((0, jshl x y) :: st) M | _ => False)
        | .ishr => (match st with | (0, y) :: (0, x) :: st => K (pc + 1) lv ((0, jshr x y) :: st) M | _ => False)
        | .land => (match st with | (2, y) :: (2, x) :: st => K (pc + 1) lv ((2, jland x y) :: st) M | _ => False)
        | .lor => (match st with | (2, y) :: (2, x) :: st => K (pc + 1) lv ((2, jlor x y) :: st) M | _ => False)
        | .lshl => (match st with | (0, y) :: (2, x) :: st => K (pc + 1) lv ((2, jlshl x y) :: st) M | _ => False)
        | .lshr => (match st with | (0, y) :: (2, x) :: st => K (pc + 1) lv ((2, jlshr x y) :: st) M | _ => False)
        | .lushr => (match st with | (0, y) :: (2, x) :: st => K (pc + 1) lv ((2, jlushr x y) :: st) M | _ => False)
        | .i2l => (match st with | (0, x) :: st => K (pc + 1) lv ((2, x) :: st) M | _ => False)
        | .l2i => (match st with | (2, x) :: st => K (pc + 1) lv ((0, jl2i x) :: st) M | _ => False)
        | .lcmp => (match st with | (2, y) :: (2, x) :: st => K (pc + 1) lv ((0, jlcmp x y) :: st) M | _ => False)
        | .dup => (match st with
          | (0, x) :: st => K (pc + 1) lv ((0, x) :: (0, x) :: st) M
          | (1, x) :: st => K (pc + 1) lv ((1, x) :: (1, x) :: st) M
          | _ => False)
        | .dup2 => (match st with
          | (0, y) :: (1, x) :: st => K (pc + 1) lv ((0, y) :: (1, x) :: (0, y) :: (1, x) :: st) M
          | _ => False)
        | .goto _ => K a lv st M
        | .if_icmp cd _ => (match st with | (0, y) :: (0, x) :: st => (jcmp cd x y → K a lv st M) ∧ (¬ jcmp cd x y → K (pc + 3) lv st M) | _ => False)
        | .ifCond cd _ => (match st with | (0, x) :: st => (jcmp cd x 0 → K a lv st M) ∧ (¬ jcmp cd x 0 → K (pc + 3) lv st M) | _ => False)
        | .ifnull _ => (match st with | (1, x) :: st => (x = 0 → K a lv st M) ∧ (¬ x = 0 → K (pc + 3) lv st M) | _ => False)
        | .ifnonnull _ => (match st with | (1, x) :: st => (x = 0 → K (pc + 3) lv st M) ∧ (¬ x = 0 → K a lv st M) | _ => False)
        | .getfield _ => (match st with | (1, x) :: st => M 0 x 0 = v ∧ K (pc + 3) lv ((jt b, M a x 0) :: st) M | _ => False)
        | .putfield _ => (match b, st with
          | 0, (0, y) :: (1, x) :: st => M 0 x 0 = v ∧ K (pc + 3) lv st (jset M a x 0 y)
          | 5, (0, y) :: (1, x) :: st => M 0 x 0 = v ∧ (y = 0 ∨ y = 1) ∧ K (pc + 3) lv st (jset M a x 0 y)
          | 1, (1, y) :: (1, x) :: st => M 0 x 0 = v ∧ K (pc + 3) lv st (jset M a x 0 y)
          | _, _ => False)
        | .iaload => (match a, st with
          | 0, (0, y) :: (1, x) :: st => (M 0 x 0 = 1 ∧ 0 ≤ y ∧ y < M 1 x 0) ∧ K (pc + 1) lv ((0, M 2 x y) :: st) M
          | 1, (0, y) :: (1, x) :: st => (x = (G.2.2.2.2.1 : Int) ∧ 0 ≤ y ∧ y < (G.2.2.2.2.2.1 : Int)) ∧ K (pc + 1) lv ((0, (G.2.2.2.2.2.2 y.toNat).toInt) :: st) M
          | _, _ => False)
        | .baload => (match st with | (0, y) :: (1, x) :: st => (M 0 x 0 = 2 ∧ 0 ≤ y ∧ y < M 1 x 0) ∧ K (pc + 1) lv ((0, M 2 x y) :: st) M | _ => False)
        | .aaload => (match st with | (0, y) :: (1, x) :: st => ((M 0 x 0 = 3 ∨ M 0 x 0 = 4) ∧ 0 ≤ y ∧ y < M 1 x 0) ∧ K (pc + 1) lv ((1, M 3 x y) :: st) M | _ => False)
        | .iastore => (match st with | (0, z) :: (0, y) :: (1, x) :: st => (M 0 x 0 = 1 ∧ 0 ≤ y ∧ y < M 1 x 0) ∧ K (pc + 1) lv st (jset M 2 x y z) | _ => False)
        | .bastore => (match st with | (0, z) :: (0, y) :: (1, x) :: st => (M 0 x 0 = 2 ∧ 0 ≤ y ∧ y < M 1 x 0 ∧ (z = 0 ∨ z = 1)) ∧ K (pc + 1) lv st (jset M 2 x y z) | _ => False)
        | .aastore => (match st with | (1, z) :: (0, y) :: (1, x) :: st => (((M 0 x 0 = 3 ∧ M 0 z 0 = 19) ∨ (M 0 x 0 = 4 ∧ M 0 z 0 = 11)) ∧ 0 ≤ y ∧ y < M 1 x 0) ∧ K (pc + 1) lv st (jset M 3 x y z) | _ => False)
        | .arraylength => (match a, st with
          | 0, (1, x) :: st => (M 0 x 0 = 1 ∨ M 0 x 0 = 2 ∨ M 0 x 0 = 3 ∨ M 0 x 0 = 4) ∧ K (pc + 1) lv ((0, M 1 x 0) :: st) M
          | 1, (1, x) :: st => x = (G.2.2.2.2.1 : Int) ∧ K (pc + 1) lv ((0, (G.2.2.2.2.2.1 : Int)) :: st) M
          | _, _ => False)
        | .new _ => (cells + 1 ≤ mc ∧ slots + b ≤ ms) ∧ jwp G code cut mc ms Q f false (cells + 1) (slots + b) (pc + 3) lv ((1, M 4 0 0) :: st) (jnew M v 0)
        | .newarray _ => (match st with | (0, n) :: st => (0 ≤ n ∧ n ≤ 100000000 ∧ cells + 1 ≤ mc ∧ slots + n.toNat ≤ ms) ∧ jwp G code cut mc ms Q f false (cells + 1) (slots + n.toNat) (pc + 2) lv ((1, M 4 0 0) :: st) (jnew M v n) | _ => False)
        | .anewarray _ => (match st with | (0, n) :: st => (0 ≤ n ∧ n ≤ 100000000 ∧ cells + 1 ≤ mc ∧ slots + n.toNat ≤ ms) ∧ jwp G code cut mc ms Q f false (cells + 1) (slots + n.toNat) (pc + 3) lv ((1, M 4 0 0) :: st) (jnew M v n) | _ => False)
        | .tableswitch _ lo hi offs => (match st with | (0, x) :: st => ((x < lo ∨ hi < x) → K a lv st M) ∧ jsw pc x (fun t => K t lv st M) offs.toList lo | _ => False)
        | .ireturn => (match b, st with
          | 0, [(0, x)] => jends cells slots mc ms (Q x M)
          | 5, [(0, x)] => jends cells slots mc ms ((x = 0 ∨ x = 1) ∧ Q x M)
          | _, _ => False)
        | .areturn => (match st with | [(1, x)] => jends cells slots mc ms (Q x M) | _ => False)
        | .return_ => (match st with | [] => jends cells slots mc ms (Q 0 M) | _ => False)
        | .invokespecial _ => (match a with
          | 1000 => (match st with | (1, x) :: st => (match Nat.ble (jwd st) 8 with | true => ¬ x ≤ 0 ∧ K (pc + 3) lv st M | false => False) | _ => False)
          | y => (match jargs b st [] with
            | some ((1, x) :: as, st) => (match Nat.ble (jwd st) 8 with
              | true => ¬ x ≤ 0 ∧ ∃ mc' ms' : Nat, cells + mc' ≤ mc ∧ slots + ms' ≤ ms ∧ Runs G y mc' ms' ((1, x) :: as) M (fun r M' => jokM M' → jwp G code cut mc ms Q f false (cells + mc') (slots + ms') (pc + 3) lv (jpush c r st) M')
              | false => False)
            | _ => False))
        | .invokevirtual _ => (match jargs b st [] with
            | some ((1, x) :: as, st) => (match Nat.ble (jwd st) 8, e with
              | true, 0 => M 0 x 0 = v ∧ Runs G a 0 0 ((1, x) :: as) M (fun r M' => jokM M' → K (pc + 3) lv (jpush c r st) M')
              | true, _ => M 0 x 0 = v ∧ ∃ mc' ms' : Nat, cells + mc' ≤ mc ∧ slots + ms' ≤ ms ∧ Runs G a mc' ms' ((1, x) :: as) M (fun r M' => jokM M' → jwp G code cut mc ms Q f false (cells + mc') (slots + ms') (pc + 3) lv (jpush c r st) M')
              | false, _ => False)
            | _ => False)
        | .invokestatic _ => (match a with
          | 1001 => (match st with | (0, y) :: (0, x) :: st => (match Nat.ble (jwd st) 8 with | true => K (pc + 3) lv ((0, max x y) :: st) M | false => False) | _ => False)
          | 1002 => (match st with | (0, y) :: (0, x) :: st => (match Nat.ble (jwd st) 8 with | true => K (pc + 3) lv ((0, min x y) :: st) M | false => False) | _ => False)
          | 1003 => (match st with | (0, n) :: (0, dp) :: (1, y) :: (0, sp) :: (1, x) :: st => (match Nat.ble (jwd st) 8 with | true => (M 0 x 0 = 1 ∧ M 0 y 0 = 1 ∧ 0 ≤ sp ∧ 0 ≤ dp ∧ 0 ≤ n ∧ sp + n ≤ M 1 x 0 ∧ dp + n ≤ M 1 y 0) ∧ K (pc + 3) lv st (jcpy M x sp y dp n) | false => False) | _ => False)
          | y => (match jargs b st [] with
            | some (as, st) => (match Nat.ble (jwd st) 8 with
              | true => Runs G y 0 0 as M (fun r M' => jokM M' → K (pc + 3) lv (jpush c r st) M')
              | false => False)
            | _ => False))
        | _ => False
/-- the table's rows against the bytes and the tables -/
def jlk (d : Nat) (w : Cond) : Bool := decide (lw_tbl[d]? = some w) && jkeepw w
theorem jlk_mem {d : Nat} {w : Cond} (h : jlk d w = true) : w ∈ jtbl := by
  unfold jlk at h
  simp only [Bool.and_eq_true, decide_eq_true_eq] at h
  exact jmem h.1 h.2
def jfchk (x i fid tag ci d : Nat) (v : Int) : Bool := match vwCl[ci]? with
  | some (_, T, _) => decide ((jkinds ci)[fid % 100]? = some (tag, fid)) && decide (v = 10 + (ci : Int)) && (jlk d (.fieldLink (jname x).cls i (T (fid % 100)).1 (T (fid % 100)).2.1 (T (fid % 100)).2.2.1) || jlk d (.fieldLinkNest (jname x).cls i (T (fid % 100)).1 (T (fid % 100)).2.1 (T (fid % 100)).2.2.1 "UnitAtlas"))
  | none => false
def jpchk (x i fid tag ci d : Nat) (v : Int) : Bool := match vwCl[ci]? with
  | some (_, T, _) => if (T (fid % 100)).2.2.2 = true then decide ((jkinds ci)[fid % 100]? = some (tag, fid)) && decide (v = 10 + (ci : Int)) && jlk d (.fieldLink (jname x).cls i (T (fid % 100)).1 (T (fid % 100)).2.1 (T (fid % 100)).2.2.1) && decide ((T (fid % 100)).1 = (jname x).cls) && decide ((jname x).name = "<init>") else jfchk x i fid tag ci d v
  | none => false
def jcchk (x i y n c d : Nat) : Bool := jlist.elem y && decide ((parseMethodDescriptor (jname y).desc).map (fun d => d.parameters.length) = some n) && Nat.ble (jfr y + 1) (jfr x) && Nat.ble (8 + (jmaxl y + 11) + jlo y) (jlo x) && decide (jtag y = c) && (jlk d (.methodLink (jname x).cls i (jname y)) || jlk d (.methodLinkNest (jname x).cls i (jname y) "UnitAtlas"))
def jto (pc : Nat) (off : Int) (t : Nat) : Bool := decide ((pc : Int) + off = t)
def jck (x : Nat) (q : JI) : Bool := match q with
  | (pc, i, len, a, b, c, d, e, v) => decide (decode (jcode x) pc = .ok (i, len)) && (match i with
    | .iconst n => decide (-1 ≤ n) && decide (n ≤ 5) && len == 1
    | .bipush n => decide (-128 ≤ n) && decide (n ≤ 127) && len == 2
    | .sipush n => decide (-32768 ≤ n) && decide (n ≤ 32767) && len == 3
    | .ldc i => decide (-2147483648 ≤ v) && decide (v ≤ 2147483647) && jlk d (.constant (jname x).cls i (Int32.ofInt v)) && len == 2
    | .ldc2_w i => decide (-9223372036854775808 ≤ v) && decide (v ≤ 9223372036854775807) && jlk d (.constantLong (jname x).cls i (Int64.ofInt v)) && len == 3
    | .istore k => Nat.blt k (jmaxl x) && len == 2
    | .istore_n k => Nat.blt k (jmaxl x) && len == 1
    | .astore k => Nat.blt k (jmaxl x) && len == 2
    | .astore_n k => Nat.blt k (jmaxl x) && len == 1
    | .iinc k _ => Nat.blt k (jmaxl x) && len == 3
    | .goto off => jto pc off a && len == 3
    | .if_icmp _ off => jto pc off a && len == 3
    | .ifCond _ off => jto pc off a && len == 3
    | .ifnull off => jto pc off a && len == 3
    | .ifnonnull off => jto pc off a && len == 3
    | .getfield i => jfchk x i a b c d v && len == 3
    | .putfield i => jpchk x i a b c d v && len == 3
    | .new i => (match vwCl[c]? with
      | some (C, _, N) => jlk d (.classLink (jname x).cls i C) && jlk e (.instantiable C N) && jlk a (.initialized C) && decide (N = b) && decide (v = 10 + (c : Int))
      | none => false) && len == 3
    | .newarray at_ => ((decide (v = 1) && decide (newarray.typeOf at_ = .int) && jlk d (.arrayClass .int)) || (decide (v = 2) && decide (newarray.typeOf at_ = .boolean) && jlk d (.arrayClass .boolean))) && len == 2
    | .anewarray i => ((decide (v = 3) && jlk d (.classLink (jname x).cls i "UnitAtlas$Text") && jlk e (.arrayOver (.object "UnitAtlas$Text"))) || (decide (v = 4) && jlk d (.classLink (jname x).cls i "UnitAtlas$Kept") && jlk e (.arrayOver (.object "UnitAtlas$Kept")))) && len == 3
    | .tableswitch dflt lo hi offs => jto pc dflt a && decide (hi - lo + 1 = (offs.toList.length : Int)) && offs.toList.all (fun o => decide (0 ≤ (pc : Int) + o))
    | .ireturn => ((b == 0 && decide (jret x = some .int)) || (b == 5 && decide (jret x = some .boolean))) && jtag x == 0 && len == 1
    | .areturn => (match jret x with | some (.object _) => true | _ => false) && jtag x == 1 && len == 1
    | .return_ => decide (jret x = none) && jtag x == 3 && len == 1
    | .invokespecial i => if a = 1000 then jlk d (.methodLink (jname x).cls i Lib.objectInit) && Nat.ble 1 (jfr x) && Nat.ble 20 (jlo x) && len == 3 else jcchk x i a (b - 1) c d && decide ((jmq a).2.2.2 = 2000) && decide (jret a = none) && decide (1 ≤ b) && len == 3
    | .invokevirtual i => jcchk x i a (b - 1) c d && decide ((jmq a).2.2.2 ≠ 0) && decide ((jmq a).2.2.2 ≠ 2000) && decide (1 ≤ b) && len == 3 && (match vwCl[(v - 10).toNat]? with
      | some (C, _, _) => decide (C = (jname a).cls) && decide (10 ≤ v)
      | none => false)
    | .invokestatic i => if a = 1001 then jlk d (.methodLink (jname x).cls i Lib.Math.max.name) && Nat.ble 1 (jfr x) && Nat.ble 21 (jlo x) && len == 3 else if a = 1002 then jlk d (.methodLink (jname x).cls i Lib.Math.min.name) && Nat.ble 1 (jfr x) && Nat.ble 21 (jlo x) && len == 3 else if a = 1003 then jlk d (.methodLink (jname x).cls i arraycopyName) && Nat.ble 1 (jfr x) && Nat.ble 26 (jlo x) && len == 3 else jcchk x i a b c d && decide ((jmq a).2.2.2 = 0) && len == 3
    | .iaload => (a == 0 || x == jlaw) && len == 1
    | .arraylength => (a == 0 || x == jlaw) && len == 1
    | .iload _ => len == 2
    | .lload _ => len == 2
    | .aload _ => len == 2
    | _ => len == 1)
