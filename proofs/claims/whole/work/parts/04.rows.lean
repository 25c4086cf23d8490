section ZR
variable {r : Type} {tv : r → List Value} {Y : QM} {d pc : Nat} {lv : List (Nat × Value)} {st : List Value} {h : AHp} {o : Option (r × AHp)}
theorem z_iadd {x y : Int32} (hd : decode (qC Y) pc = .ok (.iadd, 1)) (k : WO tv Y d (pc + 1) lv (.int (x + y) :: st) h o) : WO tv Y d pc lv (.int y :: .int x :: st) h o := by
  intro x0 h0 ho p l e R s m args below meth c D ad ca A cells slots Q H locs ls C hl hE
  exact lv_iadd C.1.1 C.1.2.1 hd (k x0 h0 ho C hl hE)
theorem z_isub {x y : Int32} (hd : decode (qC Y) pc = .ok (.isub, 1)) (k : WO tv Y d (pc + 1) lv (.int (x - y) :: st) h o) : WO tv Y d pc lv (.int y :: .int x :: st) h o := by
  intro x0 h0 ho p l e R s m args below meth c D ad ca A cells slots Q H locs ls C hl hE
  exact lv_isub C.1.1 C.1.2.1 hd (k x0 h0 ho C hl hE)
theorem z_imul {x y : Int32} (hd : decode (qC Y) pc = .ok (.imul, 1)) (k : WO tv Y d (pc + 1) lv (.int (x * y) :: st) h o) : WO tv Y d pc lv (.int y :: .int x :: st) h o := by
  intro x0 h0 ho p l e R s m args below meth c D ad ca A cells slots Q H locs ls C hl hE
  exact lv_imul C.1.1 C.1.2.1 hd (k x0 h0 ho C hl hE)
theorem z_iand {x y : Int32} (hd : decode (qC Y) pc = .ok (.iand, 1)) (k : WO tv Y d (pc + 1) lv (.int (x &&& y) :: st) h o) : WO tv Y d pc lv (.int y :: .int x :: st) h o := by
  intro x0 h0 ho p l e R s m args below meth c D ad ca A cells slots Q H locs ls C hl hE
  exact lv_iand C.1.1 C.1.2.1 hd (k x0 h0 ho C hl hE)
theorem z_ior {x y : Int32} (hd : decode (qC Y) pc = .ok (.ior, 1)) (k : WO tv Y d (pc + 1) lv (.int (x ||| y) :: st) h o) : WO tv Y d pc lv (.int y :: .int x :: st) h o := by
  intro x0 h0 ho p l e R s m args below meth c D ad ca A cells slots Q H locs ls C hl hE
  exact lv_ior C.1.1 C.1.2.1 hd (k x0 h0 ho C hl hE)
theorem z_ixor {x y : Int32} (hd : decode (qC Y) pc = .ok (.ixor, 1)) (k : WO tv Y d (pc + 1) lv (.int (x ^^^ y) :: st) h o) : WO tv Y d pc lv (.int y :: .int x :: st) h o := by
  intro x0 h0 ho p l e R s m args below meth c D ad ca A cells slots Q H locs ls C hl hE
  exact lv_ixor C.1.1 C.1.2.1 hd (k x0 h0 ho C hl hE)
theorem z_ishl {x y : Int32} (hd : decode (qC Y) pc = .ok (.ishl, 1)) (k : WO tv Y d (pc + 1) lv (.int (x <<< (y &&& 31)) :: st) h o) : WO tv Y d pc lv (.int y :: .int x :: st) h o := by
  intro x0 h0 ho p l e R s m args below meth c D ad ca A cells slots Q H locs ls C hl hE
  exact lv_ishl C.1.1 C.1.2.1 hd (k x0 h0 ho C hl hE)
theorem z_ishr {x y : Int32} (hd : decode (qC Y) pc = .ok (.ishr, 1)) (k : WO tv Y d (pc + 1) lv (.int (x >>> (y &&& 31)) :: st) h o) : WO tv Y d pc lv (.int y :: .int x :: st) h o := by
  intro x0 h0 ho p l e R s m args below meth c D ad ca A cells slots Q H locs ls C hl hE
  exact lv_ishr C.1.1 C.1.2.1 hd (k x0 h0 ho C hl hE)
theorem z_idiv {x y : Int32} (hd : decode (qC Y) pc = .ok (.idiv, 1)) (hne : ¬ y = 0) (k : WO tv Y d (pc + 1) lv (.int (x / y) :: st) h o) : WO tv Y d pc lv (.int y :: .int x :: st) h o := by
  intro x0 h0 ho p l e R s m args below meth c D ad ca A cells slots Q H locs ls C hl hE
  exact lv_idiv C.1.1 C.1.2.1 hd hne (k x0 h0 ho C hl hE)
theorem z_irem {x y : Int32} (hd : decode (qC Y) pc = .ok (.irem, 1)) (hne : ¬ y = 0) (k : WO tv Y d (pc + 1) lv (.int (x - x / y * y) :: st) h o) : WO tv Y d pc lv (.int y :: .int x :: st) h o := by
  intro x0 h0 ho p l e R s m args below meth c D ad ca A cells slots Q H locs ls C hl hE
  exact lv_irem C.1.1 C.1.2.1 hd hne (k x0 h0 ho C hl hE)
theorem z_ineg {x : Int32} (hd : decode (qC Y) pc = .ok (.ineg, 1)) (k : WO tv Y d (pc + 1) lv (.int (-x) :: st) h o) : WO tv Y d pc lv (.int x :: st) h o := by
  intro x0 h0 ho p l e R s m args below meth c D ad ca A cells slots Q H locs ls C hl hE
  exact lv_ineg C.1.1 C.1.2.1 hd (k x0 h0 ho C hl hE)
theorem z_ladd {x y : Int64} (hd : decode (qC Y) pc = .ok (.ladd, 1)) (k : WO tv Y d (pc + 1) lv (.long (x + y) :: st) h o) : WO tv Y d pc lv (.long y :: .long x :: st) h o := by
  intro x0 h0 ho p l e R s m args below meth c D ad ca A cells slots Q H locs ls C hl hE
  exact lv_ladd C.1.1 C.1.2.1 hd (k x0 h0 ho C hl hE)
theorem z_lsub {x y : Int64} (hd : decode (qC Y) pc = .ok (.lsub, 1)) (k : WO tv Y d (pc + 1) lv (.long (x - y) :: st) h o) : WO tv Y d pc lv (.long y :: .long x :: st) h o := by
  intro x0 h0 ho p l e R s m args below meth c D ad ca A cells slots Q H locs ls C hl hE
  exact lv_lsub C.1.1 C.1.2.1 hd (k x0 h0 ho C hl hE)
theorem z_lmul {x y : Int64} (hd : decode (qC Y) pc = .ok (.lmul, 1)) (k : WO tv Y d (pc + 1) lv (.long (x * y) :: st) h o) : WO tv Y d pc lv (.long y :: .long x :: st) h o := by
  intro x0 h0 ho p l e R s m args below meth c D ad ca A cells slots Q H locs ls C hl hE
  exact lv_lmul C.1.1 C.1.2.1 hd (k x0 h0 ho C hl hE)
theorem z_land {x y : Int64} (hd : decode (qC Y) pc = .ok (.land, 1)) (k : WO tv Y d (pc + 1) lv (.long (x &&& y) :: st) h o) : WO tv Y d pc lv (.long y :: .long x :: st) h o := by
  intro x0 h0 ho p l e R s m args below meth c D ad ca A cells slots Q H locs ls C hl hE
  exact lv_land C.1.1 C.1.2.1 hd (k x0 h0 ho C hl hE)
theorem z_lor {x y : Int64} (hd : decode (qC Y) pc = .ok (.lor, 1)) (k : WO tv Y d (pc + 1) lv (.long (x ||| y) :: st) h o) : WO tv Y d pc lv (.long y :: .long x :: st) h o := by
  intro x0 h0 ho p l e R s m args below meth c D ad ca A cells slots Q H locs ls C hl hE
  exact lv_lor C.1.1 C.1.2.1 hd (k x0 h0 ho C hl hE)
theorem z_lxor {x y : Int64} (hd : decode (qC Y) pc = .ok (.lxor, 1)) (k : WO tv Y d (pc + 1) lv (.long (x ^^^ y) :: st) h o) : WO tv Y d pc lv (.long y :: .long x :: st) h o := by
  intro x0 h0 ho p l e R s m args below meth c D ad ca A cells slots Q H locs ls C hl hE
  exact lv_lxor C.1.1 C.1.2.1 hd (k x0 h0 ho C hl hE)
theorem z_lshl {x : Int64} {y : Int32} (hd : decode (qC Y) pc = .ok (.lshl, 1)) (k : WO tv Y d (pc + 1) lv (.long (x <<< (y.toInt64 &&& 63)) :: st) h o) : WO tv Y d pc lv (.int y :: .long x :: st) h o := by
  intro x0 h0 ho p l e R s m args below meth c D ad ca A cells slots Q H locs ls C hl hE
  exact lv_lshl C.1.1 C.1.2.1 hd rfl (k x0 h0 ho C hl hE)
theorem z_lshr {x : Int64} {y : Int32} (hd : decode (qC Y) pc = .ok (.lshr, 1)) (k : WO tv Y d (pc + 1) lv (.long (x >>> (y.toInt64 &&& 63)) :: st) h o) : WO tv Y d pc lv (.int y :: .long x :: st) h o := by
  intro x0 h0 ho p l e R s m args below meth c D ad ca A cells slots Q H locs ls C hl hE
  exact lv_lshr C.1.1 C.1.2.1 hd rfl (k x0 h0 ho C hl hE)
theorem z_i2l {x : Int32} (hd : decode (qC Y) pc = .ok (.i2l, 1)) (k : WO tv Y d (pc + 1) lv (.long x.toInt64 :: st) h o) : WO tv Y d pc lv (.int x :: st) h o := by
  intro x0 h0 ho p l e R s m args below meth c D ad ca A cells slots Q H locs ls C hl hE
  exact lv_i2l C.1.1 C.1.2.1 hd rfl (k x0 h0 ho C hl hE)
theorem z_l2i {x : Int64} (hd : decode (qC Y) pc = .ok (.l2i, 1)) (k : WO tv Y d (pc + 1) lv (.int x.toInt32 :: st) h o) : WO tv Y d pc lv (.long x :: st) h o := by
  intro x0 h0 ho p l e R s m args below meth c D ad ca A cells slots Q H locs ls C hl hE
  exact lv_l2i C.1.1 C.1.2.1 hd rfl (k x0 h0 ho C hl hE)
theorem z_i2b {x : Int32} (hd : decode (qC Y) pc = .ok (.i2b, 1)) (k : WO tv Y d (pc + 1) lv (.int x.toInt8.toInt32 :: st) h o) : WO tv Y d pc lv (.int x :: st) h o := by
  intro x0 h0 ho p l e R s m args below meth c D ad ca A cells slots Q H locs ls C hl hE
  exact lv_i2b C.1.1 C.1.2.1 hd rfl (k x0 h0 ho C hl hE)
theorem z_i2c {x : Int32} (hd : decode (qC Y) pc = .ok (.i2c, 1)) (k : WO tv Y d (pc + 1) lv (.int (x.toUInt32 % 65536).toInt32 :: st) h o) : WO tv Y d pc lv (.int x :: st) h o := by
  intro x0 h0 ho p l e R s m args below meth c D ad ca A cells slots Q H locs ls C hl hE
  exact lv_i2c C.1.1 C.1.2.1 hd rfl (k x0 h0 ho C hl hE)
theorem z_iushr {x y : Int32} (hd : decode (qC Y) pc = .ok (.iushr, 1)) (k : WO tv Y d (pc + 1) lv (.int ((x.toUInt32 >>> (y.toUInt32 &&& (31 : Int32).toUInt32)).toInt32) :: st) h o) : WO tv Y d pc lv (.int y :: .int x :: st) h o := by
  intro x0 h0 ho p l e R s m args below meth c D ad ca A cells slots Q H locs ls C hl hE
  exact lv_iushr C.1.1 C.1.2.1 hd rfl (k x0 h0 ho C hl hE)
theorem z_iconst {n : Int} {v : Int32} (hd : decode (qC Y) pc = .ok (.iconst n, 1)) (hv : Int32.ofInt n = v) (k : WO tv Y d (pc + 1) lv (.int v :: st) h o) : WO tv Y d pc lv (st) h o := by
  intro x0 h0 ho p l e R s m args below meth c D ad ca A cells slots Q H locs ls C hl hE
  exact lv_iconst C.1.1 C.1.2.1 hd hv (k x0 h0 ho C hl hE)
theorem z_bipush {n : Int} {v : Int32} (hd : decode (qC Y) pc = .ok (.bipush n, 2)) (hv : (Int8.ofInt n).toInt32 = v) (k : WO tv Y d (pc + 2) lv (.int v :: st) h o) : WO tv Y d pc lv (st) h o := by
  intro x0 h0 ho p l e R s m args below meth c D ad ca A cells slots Q H locs ls C hl hE
  exact lv_bipush C.1.1 C.1.2.1 hd hv (k x0 h0 ho C hl hE)
theorem z_sipush {n : Int} {v : Int32} (hd : decode (qC Y) pc = .ok (.sipush n, 3)) (hv : (Int16.ofInt n).toInt32 = v) (k : WO tv Y d (pc + 3) lv (.int v :: st) h o) : WO tv Y d pc lv (st) h o := by
  intro x0 h0 ho p l e R s m args below meth c D ad ca A cells slots Q H locs ls C hl hE
  exact lv_sipush C.1.1 C.1.2.1 hd hv (k x0 h0 ho C hl hE)
theorem z_lconst {n : Fin 2} {v : Int64} (hd : decode (qC Y) pc = .ok (.lconst n, 1)) (hv : Int64.ofNat (n : Nat) = v) (k : WO tv Y d (pc + 1) lv (.long v :: st) h o) : WO tv Y d pc lv (st) h o := by
  intro x0 h0 ho p l e R s m args below meth c D ad ca A cells slots Q H locs ls C hl hE
  exact lv_lconst C.1.1 C.1.2.1 hd hv (k x0 h0 ho C hl hE)
theorem z_ldc {index : Nat} {v : Int32} (hd : decode (qC Y) pc = .ok (.ldc index, 2)) (hw : Cond.constant (qOwn Y) index v ∈ gtbl) (k : WO tv Y d (pc + 2) lv (.int v :: st) h o) : WO tv Y d pc lv st h o := by
  intro x0 h0 ho p l e R s m args below meth c D ad ca A cells slots Q H locs ls C hl hE
  exact lv_ldc C.1.1 C.1.2.1 C.1.2.2.2.2.1 (C.1.2.2.2.2.2.1 _ hw) hd (k x0 h0 ho C hl hE)
theorem z_ldcw {index : Nat} {v : Int32} (hd : decode (qC Y) pc = .ok (.ldc_w index, 3)) (hw : Cond.constant (qOwn Y) index v ∈ gtbl) (k : WO tv Y d (pc + 3) lv (.int v :: st) h o) : WO tv Y d pc lv st h o := by
  intro x0 h0 ho p l e R s m args below meth c D ad ca A cells slots Q H locs ls C hl hE
  exact lv_ldcw C.1.1 C.1.2.1 C.1.2.2.2.2.1 (C.1.2.2.2.2.2.1 _ hw) hd (k x0 h0 ho C hl hE)
theorem z_ldc2 {index : Nat} {v : Int64} (hd : decode (qC Y) pc = .ok (.ldc2_w index, 3)) (hw : Cond.constantLong (qOwn Y) index v ∈ gtbl) (k : WO tv Y d (pc + 3) lv (.long v :: st) h o) : WO tv Y d pc lv st h o := by
  intro x0 h0 ho p l e R s m args below meth c D ad ca A cells slots Q H locs ls C hl hE
  exact lv_ldc2 C.1.1 C.1.2.1 C.1.2.2.2.2.1 (C.1.2.2.2.2.2.1 _ hw) hd (k x0 h0 ho C hl hE)
theorem z_lcmp {x y : Int64} (hd : decode (qC Y) pc = .ok (.lcmp, 1)) (k : WO tv Y d (pc + 1) lv (.int (lg_cmp x y) :: st) h o) : WO tv Y d pc lv (.long y :: .long x :: st) h o := by
  intro x0 h0 ho p l e R s m args below meth c D ad ca A cells slots Q H locs ls C hl hE
  exact W.lcmp C.1.1 C.1.2.1 hd (k x0 h0 ho C hl hE)
theorem z_dup {va : Value} (hd : decode (qC Y) pc = .ok (.dup, 1)) (hv : va.category = 1) (k : WO tv Y d (pc + 1) lv (va :: va :: st) h o) : WO tv Y d pc lv (va :: st) h o := by
  intro x0 h0 ho p l e R s m args below meth c D ad ca A cells slots Q H locs ls C hl hE
  exact lv_dup C.1.1 C.1.2.1 hd (by rw [cv_cat]; exact hv) (k x0 h0 ho C hl hE)
theorem z_dup2 {va vb : Value} (hd : decode (qC Y) pc = .ok (.dup2, 1)) (hv : va.category = 1) (hvb : vb.category = 1) (k : WO tv Y d (pc + 1) lv (va :: vb :: va :: vb :: st) h o) : WO tv Y d pc lv (va :: vb :: st) h o := by
  intro x0 h0 ho p l e R s m args below meth c D ad ca A cells slots Q H locs ls C hl hE
  exact lv_dup2_11 C.1.1 C.1.2.1 hd (by rw [cv_cat]; exact hv) (by rw [cv_cat]; exact hvb) (k x0 h0 ho C hl hE)
theorem z_pop {va : Value} (hd : decode (qC Y) pc = .ok (.pop, 1)) (hv : va.category = 1) (k : WO tv Y d (pc + 1) lv st h o) : WO tv Y d pc lv (va :: st) h o := by
  intro x0 h0 ho p l e R s m args below meth c D ad ca A cells slots Q H locs ls C hl hE
  exact lv_pop C.1.1 C.1.2.1 hd (by rw [cv_cat]; exact hv) (k x0 h0 ho C hl hE)
theorem z_iload_n {k4 : Fin 4} {x : Int32} (hd : decode (qC Y) pc = .ok (.iload_n k4, 1)) (q : Nat) (hq : lv[q]? = some ((k4 : Nat), .int x)) (k : WO tv Y d (pc + 1) lv (.int x :: st) h o) : WO tv Y d pc lv st h o := by
  intro x0 h0 ho p l e R s m args below meth c D ad ca A cells slots Q H locs ls C hl hE
  exact lv_iload_n C.1.1 C.1.2.1 hd rfl (lv_at hl q (cvL_at hq)) (k x0 h0 ho C hl hE)
theorem z_iload {i : Nat} {x : Int32} (hd : decode (qC Y) pc = .ok (.iload i, 2)) (q : Nat) (hq : lv[q]? = some (i, .int x)) (k : WO tv Y d (pc + 2) lv (.int x :: st) h o) : WO tv Y d pc lv st h o := by
  intro x0 h0 ho p l e R s m args below meth c D ad ca A cells slots Q H locs ls C hl hE
  exact lv_iload C.1.1 C.1.2.1 hd (lv_at hl q (cvL_at hq)) (k x0 h0 ho C hl hE)
theorem z_lload_n {k4 : Fin 4} {x : Int64} (hd : decode (qC Y) pc = .ok (.lload_n k4, 1)) (q : Nat) (hq : lv[q]? = some ((k4 : Nat), .long x)) (k : WO tv Y d (pc + 1) lv (.long x :: st) h o) : WO tv Y d pc lv st h o := by
  intro x0 h0 ho p l e R s m args below meth c D ad ca A cells slots Q H locs ls C hl hE
  exact lv_lload_n C.1.1 C.1.2.1 hd rfl (lv_at hl q (cvL_at hq)) (k x0 h0 ho C hl hE)
theorem z_lload {i : Nat} {x : Int64} (hd : decode (qC Y) pc = .ok (.lload i, 2)) (q : Nat) (hq : lv[q]? = some (i, .long x)) (k : WO tv Y d (pc + 2) lv (.long x :: st) h o) : WO tv Y d pc lv st h o := by
  intro x0 h0 ho p l e R s m args below meth c D ad ca A cells slots Q H locs ls C hl hE
  exact lv_lload C.1.1 C.1.2.1 hd (lv_at hl q (cvL_at hq)) (k x0 h0 ho C hl hE)
theorem z_aload_n {k4 : Fin 4} {x : Nat} (hd : decode (qC Y) pc = .ok (.aload_n k4, 1)) (q : Nat) (hq : lv[q]? = some ((k4 : Nat), .ref x)) (k : WO tv Y d (pc + 1) lv (.ref x :: st) h o) : WO tv Y d pc lv st h o := by
  intro x0 h0 ho p l e R s m args below meth c D ad ca A cells slots Q H locs ls C hl hE
  exact lv_aload_n C.1.1 C.1.2.1 hd rfl (lv_at hl q (cvL_at hq)) (k x0 h0 ho C hl hE)
theorem z_aload {i : Nat} {x : Nat} (hd : decode (qC Y) pc = .ok (.aload i, 2)) (q : Nat) (hq : lv[q]? = some (i, .ref x)) (k : WO tv Y d (pc + 2) lv (.ref x :: st) h o) : WO tv Y d pc lv st h o := by
  intro x0 h0 ho p l e R s m args below meth c D ad ca A cells slots Q H locs ls C hl hE
  exact lv_aload C.1.1 C.1.2.1 hd (lv_at hl q (cvL_at hq)) (k x0 h0 ho C hl hE)
def ls1 (i : Nat) (v : Value) (lv : List (Nat × Value)) : List (Nat × Value) := (i, v) :: lv.filter (fun q => !(q.1 == i) && !(q.1 + 1 == i && q.2.category == 2))
def ls2 (i : Nat) (v : Value) (lv : List (Nat × Value)) : List (Nat × Value) := (i, v) :: lv.filter (fun q => !(q.1 == i) && (!(q.1 == i + 1) && !(q.1 + 1 == i && q.2.category == 2)))
theorem z_istore_n {k4 : Fin 4} {x : Int32} {lv2 : List (Nat × Value)} (hd : decode (qC Y) pc = .ok (.istore_n k4, 1)) (hn : (k4 : Nat) < qN Y) (hs : ls1 (k4 : Nat) (.int x) lv = lv2) (k : WO tv Y d (pc + 1) lv2 st h o) : WO tv Y d pc lv (.int x :: st) h o := by
  intro x0 h0 ho p l e R s m args below meth c D ad ca A cells slots Q H locs ls C hl hE
  refine lv_istore_n (lv' := cvL ad lv2) C.1.1 C.1.2.1 hd rfl hl hn ?_ (fun ls2 hl2 => k x0 h0 ho C hl2 hE)
  rw [← hs]
  have e := cvL_filter ad (fun a b => !(a == (k4 : Nat)) && !(a + 1 == (k4 : Nat) && b == 2)) lv
  exact congrArg (List.cons _) e
theorem z_istore {i : Nat} {x : Int32} {lv2 : List (Nat × Value)} (hd : decode (qC Y) pc = .ok (.istore i, 2)) (hn : i < qN Y) (hs : ls1 i (.int x) lv = lv2) (k : WO tv Y d (pc + 2) lv2 st h o) : WO tv Y d pc lv (.int x :: st) h o := by
  intro x0 h0 ho p l e R s m args below meth c D ad ca A cells slots Q H locs ls C hl hE
  refine lv_istore (lv' := cvL ad lv2) C.1.1 C.1.2.1 hd hl hn ?_ (fun ls2 hl2 => k x0 h0 ho C hl2 hE)
  rw [← hs]
  have e := cvL_filter ad (fun a b => !(a == i) && !(a + 1 == i && b == 2)) lv
  exact congrArg (List.cons _) e
theorem z_lstore_n {k4 : Fin 4} {x : Int64} {lv2 : List (Nat × Value)} (hd : decode (qC Y) pc = .ok (.lstore_n k4, 1)) (hn : (k4 : Nat) + 1 < qN Y) (hs : ls2 (k4 : Nat) (.long x) lv = lv2) (k : WO tv Y d (pc + 1) lv2 st h o) : WO tv Y d pc lv (.long x :: st) h o := by
  intro x0 h0 ho p l e R s m args below meth c D ad ca A cells slots Q H locs ls C hl hE
  refine lv_lstore_n (lv' := cvL ad lv2) C.1.1 C.1.2.1 hd rfl hl hn ?_ (fun ls2 hl2 => k x0 h0 ho C hl2 hE)
  rw [← hs]
  have e := cvL_filter ad (fun a b => !(a == (k4 : Nat)) && (!(a == (k4 : Nat) + 1) && !(a + 1 == (k4 : Nat) && b == 2))) lv
  exact congrArg (List.cons _) e
theorem z_lstore {i : Nat} {x : Int64} {lv2 : List (Nat × Value)} (hd : decode (qC Y) pc = .ok (.lstore i, 2)) (hn : i + 1 < qN Y) (hs : ls2 i (.long x) lv = lv2) (k : WO tv Y d (pc + 2) lv2 st h o) : WO tv Y d pc lv (.long x :: st) h o := by
  intro x0 h0 ho p l e R s m args below meth c D ad ca A cells slots Q H locs ls C hl hE
  refine lv_lstore (lv' := cvL ad lv2) C.1.1 C.1.2.1 hd hl hn ?_ (fun ls2 hl2 => k x0 h0 ho C hl2 hE)
  rw [← hs]
  have e := cvL_filter ad (fun a b => !(a == i) && (!(a == i + 1) && !(a + 1 == i && b == 2))) lv
  exact congrArg (List.cons _) e
theorem z_astore_n {k4 : Fin 4} {x : Nat} {lv2 : List (Nat × Value)} (hd : decode (qC Y) pc = .ok (.astore_n k4, 1)) (hn : (k4 : Nat) < qN Y) (hs : ls1 (k4 : Nat) (.ref x) lv = lv2) (k : WO tv Y d (pc + 1) lv2 st h o) : WO tv Y d pc lv (.ref x :: st) h o := by
  intro x0 h0 ho p l e R s m args below meth c D ad ca A cells slots Q H locs ls C hl hE
  refine lv_astore_n (lv' := cvL ad lv2) C.1.1 C.1.2.1 hd rfl hl hn ?_ (fun ls2 hl2 => k x0 h0 ho C hl2 hE)
  rw [← hs]
  have e := cvL_filter ad (fun a b => !(a == (k4 : Nat)) && !(a + 1 == (k4 : Nat) && b == 2)) lv
  exact congrArg (List.cons _) e
theorem z_astore {i : Nat} {x : Nat} {lv2 : List (Nat × Value)} (hd : decode (qC Y) pc = .ok (.astore i, 2)) (hn : i < qN Y) (hs : ls1 i (.ref x) lv = lv2) (k : WO tv Y d (pc + 2) lv2 st h o) : WO tv Y d pc lv (.ref x :: st) h o := by
  intro x0 h0 ho p l e R s m args below meth c D ad ca A cells slots Q H locs ls C hl hE
  refine lv_astore (lv' := cvL ad lv2) C.1.1 C.1.2.1 hd hl hn ?_ (fun ls2 hl2 => k x0 h0 ho C hl2 hE)
  rw [← hs]
  have e := cvL_filter ad (fun a b => !(a == i) && !(a + 1 == i && b == 2)) lv
  exact congrArg (List.cons _) e
theorem z_iinc {i : Nat} {n : Int} {x v : Int32} {lv2 : List (Nat × Value)} (hd : decode (qC Y) pc = .ok (.iinc i n, 3)) (q : Nat) (hq : lv[q]? = some (i, .int x)) (hv : x + Int32.ofInt n = v) (hn : i < qN Y) (hs : ls1 i (.int v) lv = lv2) (k : WO tv Y d (pc + 3) lv2 st h o) : WO tv Y d pc lv st h o := by
  intro x0 h0 ho p l e R s m args below meth c D ad ca A cells slots Q H locs ls C hl hE
  refine lv_iinc (lv' := cvL ad lv2) (k := q) C.1.1 C.1.2.1 hd hl (cvL_at hq) hv hn ?_ (fun ls2 hl2 => k x0 h0 ho C hl2 hE)
  rw [← hs]
  have e := cvL_filter ad (fun a b => !(a == i) && !(a + 1 == i && b == 2)) lv
  exact congrArg (List.cons _) e
theorem z_if_eq {x : Int32} {off : Int} {tgt : Nat} {o1 o2 : Option (r × AHp)} (hd : decode (qC Y) pc = .ok (.ifCond .eq off, 3)) (ht : (pc : Int) + off = (tgt : Int)) (kt : WO tv Y d tgt lv st h o1) (kf : WO tv Y d (pc + 3) lv st h o2) : WO tv Y d pc lv (.int x :: st) h (if x = 0 then o1 else o2) := by
  intro x0 h0 ho p l e R s m args below meth c D ad ca A cells slots Q H locs ls C hl hE
  exact lv_if_eq C.1.1 C.1.2.1 hd ht (fun q => kt x0 h0 (by rw [if_pos q] at ho; exact ho) C hl hE) (fun q => kf x0 h0 (by rw [if_neg q] at ho; exact ho) C hl hE)
theorem z_ic_eq {x y : Int32} {off : Int} {tgt : Nat} {o1 o2 : Option (r × AHp)} (hd : decode (qC Y) pc = .ok (.if_icmp .eq off, 3)) (ht : (pc : Int) + off = (tgt : Int)) (kt : WO tv Y d tgt lv st h o1) (kf : WO tv Y d (pc + 3) lv st h o2) : WO tv Y d pc lv (.int y :: .int x :: st) h (if x = y then o1 else o2) := by
  intro x0 h0 ho p l e R s m args below meth c D ad ca A cells slots Q H locs ls C hl hE
  exact lv_icmp_eq C.1.1 C.1.2.1 hd ht (fun q => kt x0 h0 (by rw [if_pos q] at ho; exact ho) C hl hE) (fun q => kf x0 h0 (by rw [if_neg q] at ho; exact ho) C hl hE)
theorem z_if_ne {x : Int32} {off : Int} {tgt : Nat} {o1 o2 : Option (r × AHp)} (hd : decode (qC Y) pc = .ok (.ifCond .ne off, 3)) (ht : (pc : Int) + off = (tgt : Int)) (kt : WO tv Y d tgt lv st h o1) (kf : WO tv Y d (pc + 3) lv st h o2) : WO tv Y d pc lv (.int x :: st) h (if x = 0 then o2 else o1) := by
  intro x0 h0 ho p l e R s m args below meth c D ad ca A cells slots Q H locs ls C hl hE
  exact lv_if_ne C.1.1 C.1.2.1 hd ht (fun q => kt x0 h0 (by rw [if_neg q] at ho; exact ho) C hl hE) (fun q => kf x0 h0 (by rw [if_pos q] at ho; exact ho) C hl hE)
theorem z_ic_ne {x y : Int32} {off : Int} {tgt : Nat} {o1 o2 : Option (r × AHp)} (hd : decode (qC Y) pc = .ok (.if_icmp .ne off, 3)) (ht : (pc : Int) + off = (tgt : Int)) (kt : WO tv Y d tgt lv st h o1) (kf : WO tv Y d (pc + 3) lv st h o2) : WO tv Y d pc lv (.int y :: .int x :: st) h (if x = y then o2 else o1) := by
  intro x0 h0 ho p l e R s m args below meth c D ad ca A cells slots Q H locs ls C hl hE
  exact lv_icmp_ne C.1.1 C.1.2.1 hd ht (fun q => kt x0 h0 (by rw [if_neg q] at ho; exact ho) C hl hE) (fun q => kf x0 h0 (by rw [if_pos q] at ho; exact ho) C hl hE)
theorem z_if_lt {x : Int32} {off : Int} {tgt : Nat} {o1 o2 : Option (r × AHp)} (hd : decode (qC Y) pc = .ok (.ifCond .lt off, 3)) (ht : (pc : Int) + off = (tgt : Int)) (kt : WO tv Y d tgt lv st h o1) (kf : WO tv Y d (pc + 3) lv st h o2) : WO tv Y d pc lv (.int x :: st) h (if x < 0 then o1 else o2) := by
  intro x0 h0 ho p l e R s m args below meth c D ad ca A cells slots Q H locs ls C hl hE
  exact lv_if_lt C.1.1 C.1.2.1 hd ht (fun q => kt x0 h0 (by rw [if_pos q] at ho; exact ho) C hl hE) (fun q => kf x0 h0 (by rw [if_neg q] at ho; exact ho) C hl hE)
theorem z_ic_lt {x y : Int32} {off : Int} {tgt : Nat} {o1 o2 : Option (r × AHp)} (hd : decode (qC Y) pc = .ok (.if_icmp .lt off, 3)) (ht : (pc : Int) + off = (tgt : Int)) (kt : WO tv Y d tgt lv st h o1) (kf : WO tv Y d (pc + 3) lv st h o2) : WO tv Y d pc lv (.int y :: .int x :: st) h (if x < y then o1 else o2) := by
  intro x0 h0 ho p l e R s m args below meth c D ad ca A cells slots Q H locs ls C hl hE
  exact lv_icmp_lt C.1.1 C.1.2.1 hd ht (fun q => kt x0 h0 (by rw [if_pos q] at ho; exact ho) C hl hE) (fun q => kf x0 h0 (by rw [if_neg q] at ho; exact ho) C hl hE)
theorem z_if_ge {x : Int32} {off : Int} {tgt : Nat} {o1 o2 : Option (r × AHp)} (hd : decode (qC Y) pc = .ok (.ifCond .ge off, 3)) (ht : (pc : Int) + off = (tgt : Int)) (kt : WO tv Y d tgt lv st h o1) (kf : WO tv Y d (pc + 3) lv st h o2) : WO tv Y d pc lv (.int x :: st) h (if 0 ≤ x then o1 else o2) := by
  intro x0 h0 ho p l e R s m args below meth c D ad ca A cells slots Q H locs ls C hl hE
  exact lv_if_ge C.1.1 C.1.2.1 hd ht (fun q => kt x0 h0 (by rw [if_pos q] at ho; exact ho) C hl hE) (fun q => kf x0 h0 (by rw [if_neg q] at ho; exact ho) C hl hE)
theorem z_ic_ge {x y : Int32} {off : Int} {tgt : Nat} {o1 o2 : Option (r × AHp)} (hd : decode (qC Y) pc = .ok (.if_icmp .ge off, 3)) (ht : (pc : Int) + off = (tgt : Int)) (kt : WO tv Y d tgt lv st h o1) (kf : WO tv Y d (pc + 3) lv st h o2) : WO tv Y d pc lv (.int y :: .int x :: st) h (if y ≤ x then o1 else o2) := by
  intro x0 h0 ho p l e R s m args below meth c D ad ca A cells slots Q H locs ls C hl hE
  exact lv_icmp_ge C.1.1 C.1.2.1 hd ht (fun q => kt x0 h0 (by rw [if_pos q] at ho; exact ho) C hl hE) (fun q => kf x0 h0 (by rw [if_neg q] at ho; exact ho) C hl hE)
theorem z_if_gt {x : Int32} {off : Int} {tgt : Nat} {o1 o2 : Option (r × AHp)} (hd : decode (qC Y) pc = .ok (.ifCond .gt off, 3)) (ht : (pc : Int) + off = (tgt : Int)) (kt : WO tv Y d tgt lv st h o1) (kf : WO tv Y d (pc + 3) lv st h o2) : WO tv Y d pc lv (.int x :: st) h (if 0 < x then o1 else o2) := by
  intro x0 h0 ho p l e R s m args below meth c D ad ca A cells slots Q H locs ls C hl hE
  exact lv_if_gt C.1.1 C.1.2.1 hd ht (fun q => kt x0 h0 (by rw [if_pos q] at ho; exact ho) C hl hE) (fun q => kf x0 h0 (by rw [if_neg q] at ho; exact ho) C hl hE)
theorem z_ic_gt {x y : Int32} {off : Int} {tgt : Nat} {o1 o2 : Option (r × AHp)} (hd : decode (qC Y) pc = .ok (.if_icmp .gt off, 3)) (ht : (pc : Int) + off = (tgt : Int)) (kt : WO tv Y d tgt lv st h o1) (kf : WO tv Y d (pc + 3) lv st h o2) : WO tv Y d pc lv (.int y :: .int x :: st) h (if y < x then o1 else o2) := by
  intro x0 h0 ho p l e R s m args below meth c D ad ca A cells slots Q H locs ls C hl hE
  exact lv_icmp_gt C.1.1 C.1.2.1 hd ht (fun q => kt x0 h0 (by rw [if_pos q] at ho; exact ho) C hl hE) (fun q => kf x0 h0 (by rw [if_neg q] at ho; exact ho) C hl hE)
theorem z_if_le {x : Int32} {off : Int} {tgt : Nat} {o1 o2 : Option (r × AHp)} (hd : decode (qC Y) pc = .ok (.ifCond .le off, 3)) (ht : (pc : Int) + off = (tgt : Int)) (kt : WO tv Y d tgt lv st h o1) (kf : WO tv Y d (pc + 3) lv st h o2) : WO tv Y d pc lv (.int x :: st) h (if x ≤ 0 then o1 else o2) := by
  intro x0 h0 ho p l e R s m args below meth c D ad ca A cells slots Q H locs ls C hl hE
  exact lv_if_le C.1.1 C.1.2.1 hd ht (fun q => kt x0 h0 (by rw [if_pos q] at ho; exact ho) C hl hE) (fun q => kf x0 h0 (by rw [if_neg q] at ho; exact ho) C hl hE)
theorem z_ic_le {x y : Int32} {off : Int} {tgt : Nat} {o1 o2 : Option (r × AHp)} (hd : decode (qC Y) pc = .ok (.if_icmp .le off, 3)) (ht : (pc : Int) + off = (tgt : Int)) (kt : WO tv Y d tgt lv st h o1) (kf : WO tv Y d (pc + 3) lv st h o2) : WO tv Y d pc lv (.int y :: .int x :: st) h (if x ≤ y then o1 else o2) := by
  intro x0 h0 ho p l e R s m args below meth c D ad ca A cells slots Q H locs ls C hl hE
  exact lv_icmp_le C.1.1 C.1.2.1 hd ht (fun q => kt x0 h0 (by rw [if_pos q] at ho; exact ho) C hl hE) (fun q => kf x0 h0 (by rw [if_neg q] at ho; exact ho) C hl hE)
theorem z_goto {off : Int} {tgt : Nat} (hd : decode (qC Y) pc = .ok (.goto off, 3)) (ht : (pc : Int) + off = (tgt : Int)) (k : WO tv Y d tgt lv st h o) : WO tv Y d pc lv st h o := by
  intro x0 h0 ho p l e R s m args below meth c D ad ca A cells slots Q H locs ls C hl hE
  exact lv_goto C.1.1 C.1.2.1 hd ht (k x0 h0 ho C hl hE)
theorem z_tin {dflt lo hi : Int} {offs : Array Int} {len tgt : Nat} {x : Int32} {off : Int} (hd : decode (qC Y) pc = .ok (.tableswitch dflt lo hi offs, len)) (h1 : ¬ x.toInt < lo) (h2 : ¬ hi < x.toInt) (ho1 : offs[(x.toInt - lo).toNat]? = some off) (ht : (pc : Int) + off = (tgt : Int)) (k : WO tv Y d tgt lv st h o) : WO tv Y d pc lv (.int x :: st) h o := by
  intro x0 h0 ho p l e R s m args below meth c D ad ca A cells slots Q H locs ls C hl hE
  exact lv_tableIn C.1.1 C.1.2.1 hd h1 h2 ho1 ht (k x0 h0 ho C hl hE)
theorem z_tout {dflt lo hi : Int} {offs : Array Int} {len tgt : Nat} {x : Int32} (hd : decode (qC Y) pc = .ok (.tableswitch dflt lo hi offs, len)) (h1 : x.toInt < lo ∨ hi < x.toInt) (ht : (pc : Int) + dflt = (tgt : Int)) (k : WO tv Y d tgt lv st h o) : WO tv Y d pc lv (.int x :: st) h o := by
  intro x0 h0 ho p l e R s m args below meth c D ad ca A cells slots Q H locs ls C hl hE
  exact lv_tableOut C.1.1 C.1.2.1 hd h1 ht (k x0 h0 ho C hl hE)
theorem z_look {dflt : Int} {ps : Array (Int × Int)} {len tgt : Nat} {x : Int32} {off : Int} (hd : decode (qC Y) pc = .ok (.lookupswitch dflt ps, len)) (hp : (ps.toList.zip (ps.toList.drop 1)).all (fun (a, next) => a.1 < next.1) = true) (ho1 : Op.lookupswitch.offset ps.toList dflt x.toInt = off) (ht : (pc : Int) + off = (tgt : Int)) (k : WO tv Y d tgt lv st h o) : WO tv Y d pc lv (.int x :: st) h o := by
  intro x0 h0 ho p l e R s m args below meth c D ad ca A cells slots Q H locs ls C hl hE
  exact lv_lookup C.1.1 C.1.2.1 hd hp ho1 ht (k x0 h0 ho C hl hE)
theorem z_gd {q : Prop} {dq : Decidable q} (k : q → WO tv Y d pc lv st h o) : WO tv Y d pc lv st h (@gd (r × AHp) q dq o) := by
  intro x0 h0 ho
  unfold gd at ho
  by_cases hq : q
  · rw [if_pos hq] at ho; exact k hq x0 h0 ho
  · rw [if_neg hq] at ho; cases ho
theorem z_ite {q : Prop} {dq : Decidable q} {o1 o2 : Option (r × AHp)} (k1 : q → WO tv Y d pc lv st h o1) (k2 : ¬ q → WO tv Y d pc lv st h o2) : WO tv Y d pc lv st h (@ite _ q dq o1 o2) := by
  intro x0 h0 ho
  by_cases hq : q
  · rw [if_pos hq] at ho; exact k1 hq x0 h0 ho
  · rw [if_neg hq] at ho; exact k2 hq x0 h0 ho
theorem z_none : WO tv Y d pc lv st h none := fun _ _ ho => by cases ho
theorem z_lh {f : AHp → Option (r × AHp)} (k : ∀ h1, WO tv Y d pc lv st h1 (f h1)) : WO tv Y d pc lv st h (lt h f) := k h
theorem z_sub (ks : List Nat) {lv2 : List (Nat × Value)} (hs : lv_pick lv ks = lv2) (k : WO tv Y d pc lv2 st h o) : WO tv Y d pc lv st h o := by
  intro x0 h0 ho p l e R s m args below meth c D ad ca A cells slots Q H locs ls C hl hE
  refine k x0 h0 ho C (lv_sub hl ks ?_) hE
  rw [← hs]
  unfold lv_pick cvL
  rw [List.map_filterMap]
  congr 1
  funext q
  rw [List.getElem?_map]
theorem z_iret {x : Int32} {Y : QM} {d pc : Nat} {lv : List (Nat × Value)} {h : AHp} (hd : decode (qC Y) pc = .ok (.ireturn, 1)) (hr : qR Y = some .int) : WO tvI Y d pc lv [.int x] h (some (x, h)) := by
  intro x0 h0 ho p l e R s m args below meth c D ad ca A cells slots Q H locs ls C hl hE
  cases ho
  exact hE _ _ pc ls C (Or.inl ⟨x, rfl, hd, .int, hr, rfl⟩)
theorem z_zret {x : Int32} {Y : QM} {d pc : Nat} {lv : List (Nat × Value)} {h : AHp} (hd : decode (qC Y) pc = .ok (.ireturn, 1)) (hr : qR Y = some .boolean) (hx : x = 0 ∨ x = 1) : WO tvI Y d pc lv [.int x] h (some (x, h)) := by
  intro x0 h0 ho p l e R s m args below meth c D ad ca A cells slots Q H locs ls C hl hE
  cases ho
  exact hE _ _ pc ls C (Or.inl ⟨x, rfl, hd, .boolean, hr, by rcases hx with rfl | rfl <;> decide⟩)
theorem z_bret {x : Int32} {Y : QM} {d pc : Nat} {lv : List (Nat × Value)} {h : AHp} (hd : decode (qC Y) pc = .ok (.ireturn, 1)) (hr : qR Y = some .byte) (hx : narrow .byte (.int x) = .int x) : WO tvI Y d pc lv [.int x] h (some (x, h)) := by
  intro x0 h0 ho p l e R s m args below meth c D ad ca A cells slots Q H locs ls C hl hE
  cases ho
  exact hE _ _ pc ls C (Or.inl ⟨x, rfl, hd, .byte, hr, hx⟩)
theorem z_lret {x : Int64} {Y : QM} {d pc : Nat} {lv : List (Nat × Value)} {h : AHp} (hd : decode (qC Y) pc = .ok (.lreturn, 1)) (hr : qR Y = some .long) : WO tvL Y d pc lv [.long x] h (some (x, h)) := by
  intro x0 h0 ho p l e R s m args below meth c D ad ca A cells slots Q H locs ls C hl hE
  cases ho
  exact hE _ _ pc ls C (Or.inr (Or.inl ⟨x, rfl, hd, hr⟩))
theorem z_vret {Y : QM} {d pc : Nat} {lv : List (Nat × Value)} {h : AHp} (hd : decode (qC Y) pc = .ok (.return_, 1)) (hr : qR Y = none) : WO tvV Y d pc lv [] h (some ((), h)) := by
  intro x0 h0 ho p l e R s m args below meth c D ad ca A cells slots Q H locs ls C hl hE
  cases ho
  exact hE _ _ pc ls C (Or.inr (Or.inr ⟨rfl, hd, hr⟩))
end ZR
