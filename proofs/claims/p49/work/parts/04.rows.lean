section SKR
variable {l : Launch} {R : Room} {μ : sk_MI} {Ex : sk_EX} {Z : sk_ZZ} {cn sn pc : Nat} {ls : List (Option sk_AV)} {st : List sk_AV} {h : sk_Mem}
theorem sk_widen {k n : Nat} (h1 : cn ≤ k) (h2 : sn ≤ n) (kk : sk_G l R μ Ex Z k n pc ls st h) : sk_G l R μ Ex Z cn sn pc ls st h :=
  fun p e s m args below meth c H locs bb D kc la hH hE hR hS hB hL => W.widen h1 h2 (kk p e s m args below meth c H locs bb D kc la hH hE hR hS hB hL)
theorem sg_iconst {n : Int} {v : Int32} (pc' : Nat) (hd : decode μ.2.1 pc = .ok (.iconst n, 1)) (hp : pc + 1 = pc') (hv : Int32.ofInt n = v) (k : sk_G l R μ Ex Z cn sn pc' ls (.inl v :: st) h) : sk_G l R μ Ex Z cn sn pc ls (st) h := by
  subst hp
  exact fun p e s m args below meth c H locs bb D kc la hH hE hR hS hB hL => lv_iconst hH.1 hH.2.1 hd hv (k p e s m args below meth c H locs bb D kc la hH hE hR hS hB hL)
theorem sg_bipush {n : Int} {v : Int32} (pc' : Nat) (hd : decode μ.2.1 pc = .ok (.bipush n, 2)) (hp : pc + 2 = pc') (hv : (Int8.ofInt n).toInt32 = v) (k : sk_G l R μ Ex Z cn sn pc' ls (.inl v :: st) h) : sk_G l R μ Ex Z cn sn pc ls (st) h := by
  subst hp
  exact fun p e s m args below meth c H locs bb D kc la hH hE hR hS hB hL => lv_bipush hH.1 hH.2.1 hd hv (k p e s m args below meth c H locs bb D kc la hH hE hR hS hB hL)
theorem sg_sipush {n : Int} {v : Int32} (pc' : Nat) (hd : decode μ.2.1 pc = .ok (.sipush n, 3)) (hp : pc + 3 = pc') (hv : (Int16.ofInt n).toInt32 = v) (k : sk_G l R μ Ex Z cn sn pc' ls (.inl v :: st) h) : sk_G l R μ Ex Z cn sn pc ls (st) h := by
  subst hp
  exact fun p e s m args below meth c H locs bb D kc la hH hE hR hS hB hL => lv_sipush hH.1 hH.2.1 hd hv (k p e s m args below meth c H locs bb D kc la hH hE hR hS hB hL)
theorem sg_lconst {n : Fin 2} {v : Int64} (pc' : Nat) (hd : decode μ.2.1 pc = .ok (.lconst n, 1)) (hp : pc + 1 = pc') (hv : Int64.ofNat (n : Nat) = v) (k : sk_G l R μ Ex Z cn sn pc' ls (.inr (.inl v) :: st) h) : sk_G l R μ Ex Z cn sn pc ls (st) h := by
  subst hp
  exact fun p e s m args below meth c H locs bb D kc la hH hE hR hS hB hL => lv_lconst hH.1 hH.2.1 hd hv (k p e s m args below meth c H locs bb D kc la hH hE hR hS hB hL)
theorem sg_iadd {x y : Int32} (pc' : Nat) (hd : decode μ.2.1 pc = .ok (.iadd, 1)) (hp : pc + 1 = pc') (k : sk_G l R μ Ex Z cn sn pc' ls (.inl (x + y) :: st) h) : sk_G l R μ Ex Z cn sn pc ls (.inl y :: .inl x :: st) h := by
  subst hp
  exact fun p e s m args below meth c H locs bb D kc la hH hE hR hS hB hL => lv_iadd hH.1 hH.2.1 hd (k p e s m args below meth c H locs bb D kc la hH hE hR hS hB hL)
theorem sg_isub {x y : Int32} (pc' : Nat) (hd : decode μ.2.1 pc = .ok (.isub, 1)) (hp : pc + 1 = pc') (k : sk_G l R μ Ex Z cn sn pc' ls (.inl (x - y) :: st) h) : sk_G l R μ Ex Z cn sn pc ls (.inl y :: .inl x :: st) h := by
  subst hp
  exact fun p e s m args below meth c H locs bb D kc la hH hE hR hS hB hL => lv_isub hH.1 hH.2.1 hd (k p e s m args below meth c H locs bb D kc la hH hE hR hS hB hL)
theorem sg_imul {x y : Int32} (pc' : Nat) (hd : decode μ.2.1 pc = .ok (.imul, 1)) (hp : pc + 1 = pc') (k : sk_G l R μ Ex Z cn sn pc' ls (.inl (x * y) :: st) h) : sk_G l R μ Ex Z cn sn pc ls (.inl y :: .inl x :: st) h := by
  subst hp
  exact fun p e s m args below meth c H locs bb D kc la hH hE hR hS hB hL => lv_imul hH.1 hH.2.1 hd (k p e s m args below meth c H locs bb D kc la hH hE hR hS hB hL)
theorem sg_iand {x y : Int32} (pc' : Nat) (hd : decode μ.2.1 pc = .ok (.iand, 1)) (hp : pc + 1 = pc') (k : sk_G l R μ Ex Z cn sn pc' ls (.inl (x &&& y) :: st) h) : sk_G l R μ Ex Z cn sn pc ls (.inl y :: .inl x :: st) h := by
  subst hp
  exact fun p e s m args below meth c H locs bb D kc la hH hE hR hS hB hL => lv_iand hH.1 hH.2.1 hd (k p e s m args below meth c H locs bb D kc la hH hE hR hS hB hL)
theorem sg_ior {x y : Int32} (pc' : Nat) (hd : decode μ.2.1 pc = .ok (.ior, 1)) (hp : pc + 1 = pc') (k : sk_G l R μ Ex Z cn sn pc' ls (.inl (x ||| y) :: st) h) : sk_G l R μ Ex Z cn sn pc ls (.inl y :: .inl x :: st) h := by
  subst hp
  exact fun p e s m args below meth c H locs bb D kc la hH hE hR hS hB hL => lv_ior hH.1 hH.2.1 hd (k p e s m args below meth c H locs bb D kc la hH hE hR hS hB hL)
theorem sg_ishl {x y : Int32} (pc' : Nat) (hd : decode μ.2.1 pc = .ok (.ishl, 1)) (hp : pc + 1 = pc') (k : sk_G l R μ Ex Z cn sn pc' ls (.inl (x <<< (y &&& 31)) :: st) h) : sk_G l R μ Ex Z cn sn pc ls (.inl y :: .inl x :: st) h := by
  subst hp
  exact fun p e s m args below meth c H locs bb D kc la hH hE hR hS hB hL => lv_ishl hH.1 hH.2.1 hd (k p e s m args below meth c H locs bb D kc la hH hE hR hS hB hL)
theorem sg_ishr {x y : Int32} (pc' : Nat) (hd : decode μ.2.1 pc = .ok (.ishr, 1)) (hp : pc + 1 = pc') (k : sk_G l R μ Ex Z cn sn pc' ls (.inl (x >>> (y &&& 31)) :: st) h) : sk_G l R μ Ex Z cn sn pc ls (.inl y :: .inl x :: st) h := by
  subst hp
  exact fun p e s m args below meth c H locs bb D kc la hH hE hR hS hB hL => lv_ishr hH.1 hH.2.1 hd (k p e s m args below meth c H locs bb D kc la hH hE hR hS hB hL)
theorem sg_idiv {x y : Int32} (pc' : Nat) (hd : decode μ.2.1 pc = .ok (.idiv, 1)) (hp : pc + 1 = pc') (hne : ¬ y = 0) (k : sk_G l R μ Ex Z cn sn pc' ls (.inl (x / y) :: st) h) : sk_G l R μ Ex Z cn sn pc ls (.inl y :: .inl x :: st) h := by
  subst hp
  exact fun p e s m args below meth c H locs bb D kc la hH hE hR hS hB hL => lv_idiv hH.1 hH.2.1 hd hne (k p e s m args below meth c H locs bb D kc la hH hE hR hS hB hL)
theorem sg_irem {x y : Int32} (pc' : Nat) (hd : decode μ.2.1 pc = .ok (.irem, 1)) (hp : pc + 1 = pc') (hne : ¬ y = 0) (k : sk_G l R μ Ex Z cn sn pc' ls (.inl (x - x / y * y) :: st) h) : sk_G l R μ Ex Z cn sn pc ls (.inl y :: .inl x :: st) h := by
  subst hp
  exact fun p e s m args below meth c H locs bb D kc la hH hE hR hS hB hL => lv_irem hH.1 hH.2.1 hd hne (k p e s m args below meth c H locs bb D kc la hH hE hR hS hB hL)
theorem sg_ineg {x : Int32} (pc' : Nat) (hd : decode μ.2.1 pc = .ok (.ineg, 1)) (hp : pc + 1 = pc') (k : sk_G l R μ Ex Z cn sn pc' ls (.inl (-x) :: st) h) : sk_G l R μ Ex Z cn sn pc ls (.inl x :: st) h := by
  subst hp
  exact fun p e s m args below meth c H locs bb D kc la hH hE hR hS hB hL => lv_ineg hH.1 hH.2.1 hd (k p e s m args below meth c H locs bb D kc la hH hE hR hS hB hL)
theorem sg_ladd {x y : Int64} (pc' : Nat) (hd : decode μ.2.1 pc = .ok (.ladd, 1)) (hp : pc + 1 = pc') (k : sk_G l R μ Ex Z cn sn pc' ls (.inr (.inl (x + y)) :: st) h) : sk_G l R μ Ex Z cn sn pc ls (.inr (.inl y) :: .inr (.inl x) :: st) h := by
  subst hp
  exact fun p e s m args below meth c H locs bb D kc la hH hE hR hS hB hL => lv_ladd hH.1 hH.2.1 hd (k p e s m args below meth c H locs bb D kc la hH hE hR hS hB hL)
theorem sg_lmul {x y : Int64} (pc' : Nat) (hd : decode μ.2.1 pc = .ok (.lmul, 1)) (hp : pc + 1 = pc') (k : sk_G l R μ Ex Z cn sn pc' ls (.inr (.inl (x * y)) :: st) h) : sk_G l R μ Ex Z cn sn pc ls (.inr (.inl y) :: .inr (.inl x) :: st) h := by
  subst hp
  exact fun p e s m args below meth c H locs bb D kc la hH hE hR hS hB hL => lv_lmul hH.1 hH.2.1 hd (k p e s m args below meth c H locs bb D kc la hH hE hR hS hB hL)
theorem sg_lor {x y : Int64} (pc' : Nat) (hd : decode μ.2.1 pc = .ok (.lor, 1)) (hp : pc + 1 = pc') (k : sk_G l R μ Ex Z cn sn pc' ls (.inr (.inl (x ||| y)) :: st) h) : sk_G l R μ Ex Z cn sn pc ls (.inr (.inl y) :: .inr (.inl x) :: st) h := by
  subst hp
  exact fun p e s m args below meth c H locs bb D kc la hH hE hR hS hB hL => lv_lor hH.1 hH.2.1 hd (k p e s m args below meth c H locs bb D kc la hH hE hR hS hB hL)
theorem sg_lshl {x : Int64} {y : Int32} (pc' : Nat) (hd : decode μ.2.1 pc = .ok (.lshl, 1)) (hp : pc + 1 = pc') (k : sk_G l R μ Ex Z cn sn pc' ls (.inr (.inl (x <<< (y.toInt64 &&& 63))) :: st) h) : sk_G l R μ Ex Z cn sn pc ls (.inl y :: .inr (.inl x) :: st) h := by
  subst hp
  exact fun p e s m args below meth c H locs bb D kc la hH hE hR hS hB hL => lv_lshl hH.1 hH.2.1 hd rfl (k p e s m args below meth c H locs bb D kc la hH hE hR hS hB hL)
theorem sg_lushr {x : Int64} {y : Int32} (pc' : Nat) (hd : decode μ.2.1 pc = .ok (.lushr, 1)) (hp : pc + 1 = pc') (k : sk_G l R μ Ex Z cn sn pc' ls (.inr (.inl ((x.toUInt64 >>> (y.toInt64.toUInt64 &&& Int64.toUInt64 63)).toInt64)) :: st) h) : sk_G l R μ Ex Z cn sn pc ls (.inl y :: .inr (.inl x) :: st) h := by
  subst hp
  exact fun p e s m args below meth c H locs bb D kc la hH hE hR hS hB hL => lv_lushr hH.1 hH.2.1 hd rfl (k p e s m args below meth c H locs bb D kc la hH hE hR hS hB hL)
theorem sg_i2l {x : Int32} (pc' : Nat) (hd : decode μ.2.1 pc = .ok (.i2l, 1)) (hp : pc + 1 = pc') (k : sk_G l R μ Ex Z cn sn pc' ls (.inr (.inl x.toInt64) :: st) h) : sk_G l R μ Ex Z cn sn pc ls (.inl x :: st) h := by
  subst hp
  exact fun p e s m args below meth c H locs bb D kc la hH hE hR hS hB hL => lv_i2l hH.1 hH.2.1 hd rfl (k p e s m args below meth c H locs bb D kc la hH hE hR hS hB hL)
theorem sg_l2i {x : Int64} (pc' : Nat) (hd : decode μ.2.1 pc = .ok (.l2i, 1)) (hp : pc + 1 = pc') (k : sk_G l R μ Ex Z cn sn pc' ls (.inl x.toInt32 :: st) h) : sk_G l R μ Ex Z cn sn pc ls (.inr (.inl x) :: st) h := by
  subst hp
  exact fun p e s m args below meth c H locs bb D kc la hH hE hR hS hB hL => lv_l2i hH.1 hH.2.1 hd rfl (k p e s m args below meth c H locs bb D kc la hH hE hR hS hB hL)
theorem sg_i2c {x : Int32} (pc' : Nat) (hd : decode μ.2.1 pc = .ok (.i2c, 1)) (hp : pc + 1 = pc') (k : sk_G l R μ Ex Z cn sn pc' ls (.inl ((x.toUInt32 % 65536).toInt32) :: st) h) : sk_G l R μ Ex Z cn sn pc ls (.inl x :: st) h := by
  subst hp
  exact fun p e s m args below meth c H locs bb D kc la hH hE hR hS hB hL => lv_i2c hH.1 hH.2.1 hd rfl (k p e s m args below meth c H locs bb D kc la hH hE hR hS hB hL)
theorem sg_lcmp {x y : Int64} (pc' : Nat) (hd : decode μ.2.1 pc = .ok (.lcmp, 1)) (hp : pc + 1 = pc') (k : sk_G l R μ Ex Z cn sn pc' ls (.inl (lg_cmp x y) :: st) h) : sk_G l R μ Ex Z cn sn pc ls (.inr (.inl y) :: .inr (.inl x) :: st) h := by
  subst hp
  exact fun p e s m args below meth c H locs bb D kc la hH hE hR hS hB hL => W.lcmp hH.1 hH.2.1 hd (k p e s m args below meth c H locs bb D kc la hH hE hR hS hB hL)
theorem sg_dupI {x : Int32} (pc' : Nat) (hd : decode μ.2.1 pc = .ok (.dup, 1)) (hp : pc + 1 = pc') (k : sk_G l R μ Ex Z cn sn pc' ls (.inl x :: .inl x :: st) h) : sk_G l R μ Ex Z cn sn pc ls (.inl x :: st) h := by
  subst hp
  exact fun p e s m args below meth c H locs bb D kc la hH hE hR hS hB hL => lv_dup hH.1 hH.2.1 hd rfl (k p e s m args below meth c H locs bb D kc la hH hE hR hS hB hL)
theorem sg_dupR {a : Nat × Nat} (pc' : Nat) (hd : decode μ.2.1 pc = .ok (.dup, 1)) (hp : pc + 1 = pc') (k : sk_G l R μ Ex Z cn sn pc' ls (.inr (.inr (some a)) :: .inr (.inr (some a)) :: st) h) : sk_G l R μ Ex Z cn sn pc ls (.inr (.inr (some a)) :: st) h := by
  subst hp
  exact fun p e s m args below meth c H locs bb D kc la hH hE hR hS hB hL => lv_dup hH.1 hH.2.1 hd rfl (k p e s m args below meth c H locs bb D kc la hH hE hR hS hB hL)
theorem sg_popI {x : Int32} (pc' : Nat) (hd : decode μ.2.1 pc = .ok (.pop, 1)) (hp : pc + 1 = pc') (k : sk_G l R μ Ex Z cn sn pc' ls (st) h) : sk_G l R μ Ex Z cn sn pc ls (.inl x :: st) h := by
  subst hp
  exact fun p e s m args below meth c H locs bb D kc la hH hE hR hS hB hL => lv_pop hH.1 hH.2.1 hd rfl (k p e s m args below meth c H locs bb D kc la hH hE hR hS hB hL)
theorem sg_dup2 {x : Int32} {a : Nat × Nat} (pc' : Nat) (hd : decode μ.2.1 pc = .ok (.dup2, 1)) (hp : pc + 1 = pc') (k : sk_G l R μ Ex Z cn sn pc' ls (.inl x :: .inr (.inr (some a)) :: .inl x :: .inr (.inr (some a)) :: st) h) : sk_G l R μ Ex Z cn sn pc ls (.inl x :: .inr (.inr (some a)) :: st) h := by
  subst hp
  exact fun p e s m args below meth c H locs bb D kc la hH hE hR hS hB hL => lv_dup2_11 hH.1 hH.2.1 hd rfl rfl (k p e s m args below meth c H locs bb D kc la hH hE hR hS hB hL)
theorem sg_ldc {i : Nat} {v : Int32} (pc' : Nat) (hd : decode μ.2.1 pc = .ok (.ldc i, 2)) (hp : pc + 2 = pc') (hw : Cond.constant μ.1.cls i v ∈ sk_tg) (k : sk_G l R μ Ex Z cn sn pc' ls (.inl v :: st) h) : sk_G l R μ Ex Z cn sn pc ls (st) h := by
  subst hp
  exact fun p e s m args below meth c H locs bb D kc la hH hE hR hS hB hL => lv_ldc hH.1 hH.2.1 hH.2.2.2.2.1 (hH.2.2.2.2.2.1 _ hw) hd (k p e s m args below meth c H locs bb D kc la hH hE hR hS hB hL)
theorem sg_ldcw {i : Nat} {v : Int32} (pc' : Nat) (hd : decode μ.2.1 pc = .ok (.ldc_w i, 3)) (hp : pc + 3 = pc') (hw : Cond.constant μ.1.cls i v ∈ sk_tg) (k : sk_G l R μ Ex Z cn sn pc' ls (.inl v :: st) h) : sk_G l R μ Ex Z cn sn pc ls (st) h := by
  subst hp
  exact fun p e s m args below meth c H locs bb D kc la hH hE hR hS hB hL => lv_ldcw hH.1 hH.2.1 hH.2.2.2.2.1 (hH.2.2.2.2.2.1 _ hw) hd (k p e s m args below meth c H locs bb D kc la hH hE hR hS hB hL)
theorem sg_ldc2 {i : Nat} {v : Int64} (pc' : Nat) (hd : decode μ.2.1 pc = .ok (.ldc2_w i, 3)) (hp : pc + 3 = pc') (hw : Cond.constantLong μ.1.cls i v ∈ sk_tg) (k : sk_G l R μ Ex Z cn sn pc' ls (.inr (.inl v) :: st) h) : sk_G l R μ Ex Z cn sn pc ls (st) h := by
  subst hp
  exact fun p e s m args below meth c H locs bb D kc la hH hE hR hS hB hL => lv_ldc2 hH.1 hH.2.1 hH.2.2.2.2.1 (hH.2.2.2.2.2.1 _ hw) hd (k p e s m args below meth c H locs bb D kc la hH hE hR hS hB hL)
theorem sg_iload_n {i : Fin 4} {x : Int32} (pc' : Nat) (hd : decode μ.2.1 pc = .ok (.iload_n i, 1)) (hp : pc + 1 = pc') (hv : ls[(i : Nat)]? = some (some (.inl x))) (k : sk_G l R μ Ex Z cn sn pc' ls (.inl x :: st) h) : sk_G l R μ Ex Z cn sn pc ls (st) h := by
  subst hp
  exact fun p e s m args below meth c H locs bb D kc la hH hE hR hS hB hL => lv_iload_n hH.1 hH.2.1 hd rfl (hL.2.2.2 _ _ hv) (k p e s m args below meth c H locs bb D kc la hH hE hR hS hB hL)
theorem sg_iload {i : Nat} {x : Int32} (pc' : Nat) (hd : decode μ.2.1 pc = .ok (.iload i, 2)) (hp : pc + 2 = pc') (hv : ls[i]? = some (some (.inl x))) (k : sk_G l R μ Ex Z cn sn pc' ls (.inl x :: st) h) : sk_G l R μ Ex Z cn sn pc ls (st) h := by
  subst hp
  exact fun p e s m args below meth c H locs bb D kc la hH hE hR hS hB hL => lv_iload hH.1 hH.2.1 hd (hL.2.2.2 _ _ hv) (k p e s m args below meth c H locs bb D kc la hH hE hR hS hB hL)
theorem sg_lload_n {i : Fin 4} {x : Int64} (pc' : Nat) (hd : decode μ.2.1 pc = .ok (.lload_n i, 1)) (hp : pc + 1 = pc') (hv : ls[(i : Nat)]? = some (some (.inr (.inl x)))) (k : sk_G l R μ Ex Z cn sn pc' ls (.inr (.inl x) :: st) h) : sk_G l R μ Ex Z cn sn pc ls (st) h := by
  subst hp
  exact fun p e s m args below meth c H locs bb D kc la hH hE hR hS hB hL => lv_lload_n hH.1 hH.2.1 hd rfl (hL.2.2.2 _ _ hv) (k p e s m args below meth c H locs bb D kc la hH hE hR hS hB hL)
theorem sg_lload {i : Nat} {x : Int64} (pc' : Nat) (hd : decode μ.2.1 pc = .ok (.lload i, 2)) (hp : pc + 2 = pc') (hv : ls[i]? = some (some (.inr (.inl x)))) (k : sk_G l R μ Ex Z cn sn pc' ls (.inr (.inl x) :: st) h) : sk_G l R μ Ex Z cn sn pc ls (st) h := by
  subst hp
  exact fun p e s m args below meth c H locs bb D kc la hH hE hR hS hB hL => lv_lload hH.1 hH.2.1 hd (hL.2.2.2 _ _ hv) (k p e s m args below meth c H locs bb D kc la hH hE hR hS hB hL)
theorem sg_aload_n {i : Fin 4} {a : Nat × Nat} (pc' : Nat) (hd : decode μ.2.1 pc = .ok (.aload_n i, 1)) (hp : pc + 1 = pc') (hv : ls[(i : Nat)]? = some (some (.inr (.inr (some a))))) (k : sk_G l R μ Ex Z cn sn pc' ls (.inr (.inr (some a)) :: st) h) : sk_G l R μ Ex Z cn sn pc ls (st) h := by
  subst hp
  exact fun p e s m args below meth c H locs bb D kc la hH hE hR hS hB hL => lv_aload_n hH.1 hH.2.1 hd rfl (hL.2.2.2 _ _ hv) (k p e s m args below meth c H locs bb D kc la hH hE hR hS hB hL)
theorem sg_aload {i : Nat} {a : Nat × Nat} (pc' : Nat) (hd : decode μ.2.1 pc = .ok (.aload i, 2)) (hp : pc + 2 = pc') (hv : ls[i]? = some (some (.inr (.inr (some a))))) (k : sk_G l R μ Ex Z cn sn pc' ls (.inr (.inr (some a)) :: st) h) : sk_G l R μ Ex Z cn sn pc ls (st) h := by
  subst hp
  exact fun p e s m args below meth c H locs bb D kc la hH hE hR hS hB hL => lv_aload hH.1 hH.2.1 hd (hL.2.2.2 _ _ hv) (k p e s m args below meth c H locs bb D kc la hH hE hR hS hB hL)
theorem sg_goto {off : Int} (pc' : Nat) (hd : decode μ.2.1 pc = .ok (.goto off, 3)) (ht : (pc : Int) + off = (pc' : Int)) (k : sk_G l R μ Ex Z cn sn pc' ls st h) : sk_G l R μ Ex Z cn sn pc ls st h :=
  fun p e s m args below meth c H locs bb D kc la hH hE hR hS hB hL => lv_goto hH.1 hH.2.1 hd ht (k p e s m args below meth c H locs bb D kc la hH hE hR hS hB hL)
theorem sg_if_eq {x : Int32} {off : Int} (pc1 pc2 : Nat) (hd : decode μ.2.1 pc = .ok (.ifCond .eq off, 3)) (ht : (pc : Int) + off = (pc1 : Int)) (hp : pc + 3 = pc2) (kt : x = 0 → sk_G l R μ Ex Z cn sn pc1 ls st h) (kf : ¬ x = 0 → sk_G l R μ Ex Z cn sn pc2 ls st h) : sk_G l R μ Ex Z cn sn pc ls (.inl x :: st) h := by
  subst hp
  exact fun p e s m args below meth c H locs bb D kc la hH hE hR hS hB hL => lv_if_eq hH.1 hH.2.1 hd ht (fun q => kt q p e s m args below meth c H locs bb D kc la hH hE hR hS hB hL) (fun q => kf q p e s m args below meth c H locs bb D kc la hH hE hR hS hB hL)
theorem sg_if_ne {x : Int32} {off : Int} (pc1 pc2 : Nat) (hd : decode μ.2.1 pc = .ok (.ifCond .ne off, 3)) (ht : (pc : Int) + off = (pc1 : Int)) (hp : pc + 3 = pc2) (kt : ¬ x = 0 → sk_G l R μ Ex Z cn sn pc1 ls st h) (kf : x = 0 → sk_G l R μ Ex Z cn sn pc2 ls st h) : sk_G l R μ Ex Z cn sn pc ls (.inl x :: st) h := by
  subst hp
  exact fun p e s m args below meth c H locs bb D kc la hH hE hR hS hB hL => lv_if_ne hH.1 hH.2.1 hd ht (fun q => kt q p e s m args below meth c H locs bb D kc la hH hE hR hS hB hL) (fun q => kf q p e s m args below meth c H locs bb D kc la hH hE hR hS hB hL)
theorem sg_if_lt {x : Int32} {off : Int} (pc1 pc2 : Nat) (hd : decode μ.2.1 pc = .ok (.ifCond .lt off, 3)) (ht : (pc : Int) + off = (pc1 : Int)) (hp : pc + 3 = pc2) (kt : x < 0 → sk_G l R μ Ex Z cn sn pc1 ls st h) (kf : ¬ x < 0 → sk_G l R μ Ex Z cn sn pc2 ls st h) : sk_G l R μ Ex Z cn sn pc ls (.inl x :: st) h := by
  subst hp
  exact fun p e s m args below meth c H locs bb D kc la hH hE hR hS hB hL => lv_if_lt hH.1 hH.2.1 hd ht (fun q => kt q p e s m args below meth c H locs bb D kc la hH hE hR hS hB hL) (fun q => kf q p e s m args below meth c H locs bb D kc la hH hE hR hS hB hL)
theorem sg_if_ge {x : Int32} {off : Int} (pc1 pc2 : Nat) (hd : decode μ.2.1 pc = .ok (.ifCond .ge off, 3)) (ht : (pc : Int) + off = (pc1 : Int)) (hp : pc + 3 = pc2) (kt : 0 ≤ x → sk_G l R μ Ex Z cn sn pc1 ls st h) (kf : ¬ 0 ≤ x → sk_G l R μ Ex Z cn sn pc2 ls st h) : sk_G l R μ Ex Z cn sn pc ls (.inl x :: st) h := by
  subst hp
  exact fun p e s m args below meth c H locs bb D kc la hH hE hR hS hB hL => lv_if_ge hH.1 hH.2.1 hd ht (fun q => kt q p e s m args below meth c H locs bb D kc la hH hE hR hS hB hL) (fun q => kf q p e s m args below meth c H locs bb D kc la hH hE hR hS hB hL)
theorem sg_if_gt {x : Int32} {off : Int} (pc1 pc2 : Nat) (hd : decode μ.2.1 pc = .ok (.ifCond .gt off, 3)) (ht : (pc : Int) + off = (pc1 : Int)) (hp : pc + 3 = pc2) (kt : 0 < x → sk_G l R μ Ex Z cn sn pc1 ls st h) (kf : ¬ 0 < x → sk_G l R μ Ex Z cn sn pc2 ls st h) : sk_G l R μ Ex Z cn sn pc ls (.inl x :: st) h := by
  subst hp
  exact fun p e s m args below meth c H locs bb D kc la hH hE hR hS hB hL => lv_if_gt hH.1 hH.2.1 hd ht (fun q => kt q p e s m args below meth c H locs bb D kc la hH hE hR hS hB hL) (fun q => kf q p e s m args below meth c H locs bb D kc la hH hE hR hS hB hL)
theorem sg_if_le {x : Int32} {off : Int} (pc1 pc2 : Nat) (hd : decode μ.2.1 pc = .ok (.ifCond .le off, 3)) (ht : (pc : Int) + off = (pc1 : Int)) (hp : pc + 3 = pc2) (kt : x ≤ 0 → sk_G l R μ Ex Z cn sn pc1 ls st h) (kf : ¬ x ≤ 0 → sk_G l R μ Ex Z cn sn pc2 ls st h) : sk_G l R μ Ex Z cn sn pc ls (.inl x :: st) h := by
  subst hp
  exact fun p e s m args below meth c H locs bb D kc la hH hE hR hS hB hL => lv_if_le hH.1 hH.2.1 hd ht (fun q => kt q p e s m args below meth c H locs bb D kc la hH hE hR hS hB hL) (fun q => kf q p e s m args below meth c H locs bb D kc la hH hE hR hS hB hL)
theorem sg_ic_eq {x y : Int32} {off : Int} (pc1 pc2 : Nat) (hd : decode μ.2.1 pc = .ok (.if_icmp .eq off, 3)) (ht : (pc : Int) + off = (pc1 : Int)) (hp : pc + 3 = pc2) (kt : x = y → sk_G l R μ Ex Z cn sn pc1 ls st h) (kf : ¬ x = y → sk_G l R μ Ex Z cn sn pc2 ls st h) : sk_G l R μ Ex Z cn sn pc ls (.inl y :: .inl x :: st) h := by
  subst hp
  exact fun p e s m args below meth c H locs bb D kc la hH hE hR hS hB hL => lv_icmp_eq hH.1 hH.2.1 hd ht (fun q => kt q p e s m args below meth c H locs bb D kc la hH hE hR hS hB hL) (fun q => kf q p e s m args below meth c H locs bb D kc la hH hE hR hS hB hL)
theorem sg_ic_ne {x y : Int32} {off : Int} (pc1 pc2 : Nat) (hd : decode μ.2.1 pc = .ok (.if_icmp .ne off, 3)) (ht : (pc : Int) + off = (pc1 : Int)) (hp : pc + 3 = pc2) (kt : ¬ x = y → sk_G l R μ Ex Z cn sn pc1 ls st h) (kf : x = y → sk_G l R μ Ex Z cn sn pc2 ls st h) : sk_G l R μ Ex Z cn sn pc ls (.inl y :: .inl x :: st) h := by
  subst hp
  exact fun p e s m args below meth c H locs bb D kc la hH hE hR hS hB hL => lv_icmp_ne hH.1 hH.2.1 hd ht (fun q => kt q p e s m args below meth c H locs bb D kc la hH hE hR hS hB hL) (fun q => kf q p e s m args below meth c H locs bb D kc la hH hE hR hS hB hL)
theorem sg_ic_lt {x y : Int32} {off : Int} (pc1 pc2 : Nat) (hd : decode μ.2.1 pc = .ok (.if_icmp .lt off, 3)) (ht : (pc : Int) + off = (pc1 : Int)) (hp : pc + 3 = pc2) (kt : x < y → sk_G l R μ Ex Z cn sn pc1 ls st h) (kf : ¬ x < y → sk_G l R μ Ex Z cn sn pc2 ls st h) : sk_G l R μ Ex Z cn sn pc ls (.inl y :: .inl x :: st) h := by
  subst hp
  exact fun p e s m args below meth c H locs bb D kc la hH hE hR hS hB hL => lv_icmp_lt hH.1 hH.2.1 hd ht (fun q => kt q p e s m args below meth c H locs bb D kc la hH hE hR hS hB hL) (fun q => kf q p e s m args below meth c H locs bb D kc la hH hE hR hS hB hL)
theorem sg_ic_ge {x y : Int32} {off : Int} (pc1 pc2 : Nat) (hd : decode μ.2.1 pc = .ok (.if_icmp .ge off, 3)) (ht : (pc : Int) + off = (pc1 : Int)) (hp : pc + 3 = pc2) (kt : y ≤ x → sk_G l R μ Ex Z cn sn pc1 ls st h) (kf : ¬ y ≤ x → sk_G l R μ Ex Z cn sn pc2 ls st h) : sk_G l R μ Ex Z cn sn pc ls (.inl y :: .inl x :: st) h := by
  subst hp
  exact fun p e s m args below meth c H locs bb D kc la hH hE hR hS hB hL => lv_icmp_ge hH.1 hH.2.1 hd ht (fun q => kt q p e s m args below meth c H locs bb D kc la hH hE hR hS hB hL) (fun q => kf q p e s m args below meth c H locs bb D kc la hH hE hR hS hB hL)
theorem sg_ic_gt {x y : Int32} {off : Int} (pc1 pc2 : Nat) (hd : decode μ.2.1 pc = .ok (.if_icmp .gt off, 3)) (ht : (pc : Int) + off = (pc1 : Int)) (hp : pc + 3 = pc2) (kt : y < x → sk_G l R μ Ex Z cn sn pc1 ls st h) (kf : ¬ y < x → sk_G l R μ Ex Z cn sn pc2 ls st h) : sk_G l R μ Ex Z cn sn pc ls (.inl y :: .inl x :: st) h := by
  subst hp
  exact fun p e s m args below meth c H locs bb D kc la hH hE hR hS hB hL => lv_icmp_gt hH.1 hH.2.1 hd ht (fun q => kt q p e s m args below meth c H locs bb D kc la hH hE hR hS hB hL) (fun q => kf q p e s m args below meth c H locs bb D kc la hH hE hR hS hB hL)
theorem sg_ic_le {x y : Int32} {off : Int} (pc1 pc2 : Nat) (hd : decode μ.2.1 pc = .ok (.if_icmp .le off, 3)) (ht : (pc : Int) + off = (pc1 : Int)) (hp : pc + 3 = pc2) (kt : x ≤ y → sk_G l R μ Ex Z cn sn pc1 ls st h) (kf : ¬ x ≤ y → sk_G l R μ Ex Z cn sn pc2 ls st h) : sk_G l R μ Ex Z cn sn pc ls (.inl y :: .inl x :: st) h := by
  subst hp
  exact fun p e s m args below meth c H locs bb D kc la hH hE hR hS hB hL => lv_icmp_le hH.1 hH.2.1 hd ht (fun q => kt q p e s m args below meth c H locs bb D kc la hH hE hR hS hB hL) (fun q => kf q p e s m args below meth c H locs bb D kc la hH hE hR hS hB hL)
/-- the known locals as a list -/
def sk_lst (bb : sk_BB) (ls : List (Option sk_AV)) : List (Nat × Value) := (List.range ls.length).filterMap (fun i => (ls[i]?.join).map (fun v => (i, sk_cv bb v)))
theorem sk_lst_mem {bb : sk_BB} {ls : List (Option sk_AV)} {i : Nat} {v : sk_AV} (hv : ls[i]? = some (some v)) : (i, sk_cv bb v) ∈ sk_lst bb ls := by
  unfold sk_lst
  refine List.mem_filterMap.mpr ⟨i, List.mem_range.mpr (List.getElem?_eq_some_iff.mp hv).1, ?_⟩
  rw [hv]
  rfl
theorem sk_LR.has {bb : sk_BB} {la : Array Slot} {nL : Nat} {ls : List (Option sk_AV)} (hL : sk_LR bb la nL ls) : lv_has la nL (sk_lst bb ls) := by
  refine ⟨hL.1, hL.2.1, fun q hq => ?_⟩
  unfold sk_lst at hq
  obtain ⟨i, hi, he⟩ := List.mem_filterMap.mp hq
  cases hx : ls[i]? with
  | none => rw [hx] at he; cases he
  | some o =>
    cases o with
    | none => rw [hx] at he; cases he
    | some v =>
      rw [hx] at he
      cases he
      exact hL.2.2.2 i v hx
def sk_isL : sk_AV → Bool
  | .inr (.inl _) => true
  | _ => false
theorem sk_cat (bb : sk_BB) (v : sk_AV) (h : sk_isL v = false) : ((sk_cv bb v).category == 2) = false := by
  match v, h with
  | .inl x, _ => rfl
  | .inr (.inr none), _ => rfl
  | .inr (.inr (some a)), _ => rfl
/-- no long stands just below place i -/
def sk_lc (ls : List (Option sk_AV)) (i : Nat) : Bool := match i with
  | 0 => true
  | j + 1 => match ls[j]? with
    | some (some v) => !(sk_isL v)
    | _ => true
theorem sk_LR.put1 {bb : sk_BB} {la' : Array Slot} {nL i : Nat} {ls : List (Option sk_AV)} {v : sk_AV} (hlen : ls.length = nL) (hc : sk_lc ls i = true) (hi : i < nL)
    (h : lv_has la' nL ((i, sk_cv bb v) :: (sk_lst bb ls).filter (fun q => !(q.1 == i) && !(q.1 + 1 == i && q.2.category == 2)))) : sk_LR bb la' nL (ls.set i (some v)) := by
  refine ⟨h.1, h.2.1, by rw [List.length_set, hlen], fun j w hj => ?_⟩
  by_cases hji : j = i
  · subst hji
    rw [List.getElem?_set_self (by omega)] at hj
    cases hj
    exact h.2.2 _ List.mem_cons_self
  · rw [List.getElem?_set_ne (Ne.symm hji)] at hj
    refine h.2.2 (j, sk_cv bb w) (List.mem_cons_of_mem _ (List.mem_filter.mpr ⟨sk_lst_mem hj, ?_⟩))
    have h1 : (j == i) = false := by simpa using hji
    by_cases h2 : j + 1 = i
    · subst h2
      have h3 : sk_isL w = false := by
        have hc' := hc
        unfold sk_lc at hc'
        simp only [hj] at hc'
        simpa using hc'
      simp only [h1, sk_cat bb w h3]
      simp
    · have h3 : (j + 1 == i) = false := by simpa using h2
      simp only [h1, h3]
      rfl
theorem sk_LR.put2 {bb : sk_BB} {la' : Array Slot} {nL i : Nat} {ls : List (Option sk_AV)} {v : sk_AV} (hlen : ls.length = nL) (hc : sk_lc ls i = true) (hi : i + 1 < nL)
    (h : lv_has la' nL ((i, sk_cv bb v) :: (sk_lst bb ls).filter (fun q => !(q.1 == i) && (!(q.1 == i + 1) && !(q.1 + 1 == i && q.2.category == 2))))) : sk_LR bb la' nL ((ls.set i (some v)).set (i + 1) none) := by
  refine ⟨h.1, h.2.1, by rw [List.length_set, List.length_set, hlen], fun j w hj => ?_⟩
  by_cases hj1 : j = i + 1
  · subst hj1
    rw [List.getElem?_set_self (by rw [List.length_set]; omega)] at hj
    cases hj
  rw [List.getElem?_set_ne (Ne.symm hj1)] at hj
  by_cases hji : j = i
  · subst hji
    rw [List.getElem?_set_self (by omega)] at hj
    cases hj
    exact h.2.2 _ List.mem_cons_self
  · rw [List.getElem?_set_ne (Ne.symm hji)] at hj
    refine h.2.2 (j, sk_cv bb w) (List.mem_cons_of_mem _ (List.mem_filter.mpr ⟨sk_lst_mem hj, ?_⟩))
    have h1 : (j == i) = false := by simpa using hji
    have h0 : (j == i + 1) = false := by simpa using hj1
    by_cases h2 : j + 1 = i
    · subst h2
      have h3 : sk_isL w = false := by
        have hc' := hc
        unfold sk_lc at hc'
        simp only [hj] at hc'
        simpa using hc'
      simp only [h1, h0, sk_cat bb w h3]
      simp
    · have h3 : (j + 1 == i) = false := by simpa using h2
      simp only [h1, h0, h3]
      rfl
theorem sg_istore_n {i : Fin 4} {x : Int32} (pc' : Nat) (ls' : List (Option sk_AV)) (hd : decode μ.2.1 pc = .ok (.istore_n i, 1)) (hp : pc + 1 = pc') (hs : ls.set (i : Nat) (some (.inl x)) = ls') (hn : (i : Nat) < ls.length) (hc : sk_lc ls (i : Nat) = true) (k : sk_G l R μ Ex Z cn sn pc' ls' st h) : sk_G l R μ Ex Z cn sn pc ls (.inl x :: st) h := by
  subst hp
  subst hs
  exact fun p e s m args below meth c H locs bb D kc la hH hE hR hS hB hL => lv_istore_n hH.1 hH.2.1 hd rfl hL.has (by rw [← hL.2.2.1]; exact hn) rfl (fun la' hla => k p e s m args below meth c H locs bb D kc la' hH hE hR hS hB (sk_LR.put1 hL.2.2.1 hc (by rw [← hL.2.2.1]; exact hn) hla))
theorem sg_istore {i : Nat} {x : Int32} (pc' : Nat) (ls' : List (Option sk_AV)) (hd : decode μ.2.1 pc = .ok (.istore i, 2)) (hp : pc + 2 = pc') (hs : ls.set i (some (.inl x)) = ls') (hn : i < ls.length) (hc : sk_lc ls i = true) (k : sk_G l R μ Ex Z cn sn pc' ls' st h) : sk_G l R μ Ex Z cn sn pc ls (.inl x :: st) h := by
  subst hp
  subst hs
  exact fun p e s m args below meth c H locs bb D kc la hH hE hR hS hB hL => lv_istore hH.1 hH.2.1 hd hL.has (by rw [← hL.2.2.1]; exact hn) rfl (fun la' hla => k p e s m args below meth c H locs bb D kc la' hH hE hR hS hB (sk_LR.put1 hL.2.2.1 hc (by rw [← hL.2.2.1]; exact hn) hla))
theorem sg_lstore_n {i : Fin 4} {x : Int64} (pc' : Nat) (ls' : List (Option sk_AV)) (hd : decode μ.2.1 pc = .ok (.lstore_n i, 1)) (hp : pc + 1 = pc') (hs : (ls.set (i : Nat) (some (.inr (.inl x)))).set ((i : Nat) + 1) none = ls') (hn : (i : Nat) + 1 < ls.length) (hc : sk_lc ls (i : Nat) = true) (k : sk_G l R μ Ex Z cn sn pc' ls' st h) : sk_G l R μ Ex Z cn sn pc ls (.inr (.inl x) :: st) h := by
  subst hp
  subst hs
  exact fun p e s m args below meth c H locs bb D kc la hH hE hR hS hB hL => lv_lstore_n hH.1 hH.2.1 hd rfl hL.has (by rw [← hL.2.2.1]; exact hn) rfl (fun la' hla => k p e s m args below meth c H locs bb D kc la' hH hE hR hS hB (sk_LR.put2 hL.2.2.1 hc (by rw [← hL.2.2.1]; exact hn) hla))
theorem sg_lstore {i : Nat} {x : Int64} (pc' : Nat) (ls' : List (Option sk_AV)) (hd : decode μ.2.1 pc = .ok (.lstore i, 2)) (hp : pc + 2 = pc') (hs : (ls.set i (some (.inr (.inl x)))).set (i + 1) none = ls') (hn : i + 1 < ls.length) (hc : sk_lc ls i = true) (k : sk_G l R μ Ex Z cn sn pc' ls' st h) : sk_G l R μ Ex Z cn sn pc ls (.inr (.inl x) :: st) h := by
  subst hp
  subst hs
  exact fun p e s m args below meth c H locs bb D kc la hH hE hR hS hB hL => lv_lstore hH.1 hH.2.1 hd hL.has (by rw [← hL.2.2.1]; exact hn) rfl (fun la' hla => k p e s m args below meth c H locs bb D kc la' hH hE hR hS hB (sk_LR.put2 hL.2.2.1 hc (by rw [← hL.2.2.1]; exact hn) hla))
theorem sg_astore_n {i : Fin 4} {x : (Nat × Nat)} (pc' : Nat) (ls' : List (Option sk_AV)) (hd : decode μ.2.1 pc = .ok (.astore_n i, 1)) (hp : pc + 1 = pc') (hs : ls.set (i : Nat) (some (.inr (.inr (some x)))) = ls') (hn : (i : Nat) < ls.length) (hc : sk_lc ls (i : Nat) = true) (k : sk_G l R μ Ex Z cn sn pc' ls' st h) : sk_G l R μ Ex Z cn sn pc ls (.inr (.inr (some x)) :: st) h := by
  subst hp
  subst hs
  exact fun p e s m args below meth c H locs bb D kc la hH hE hR hS hB hL => lv_astore_n hH.1 hH.2.1 hd rfl hL.has (by rw [← hL.2.2.1]; exact hn) rfl (fun la' hla => k p e s m args below meth c H locs bb D kc la' hH hE hR hS hB (sk_LR.put1 hL.2.2.1 hc (by rw [← hL.2.2.1]; exact hn) hla))
theorem sg_astore {i : Nat} {x : (Nat × Nat)} (pc' : Nat) (ls' : List (Option sk_AV)) (hd : decode μ.2.1 pc = .ok (.astore i, 2)) (hp : pc + 2 = pc') (hs : ls.set i (some (.inr (.inr (some x)))) = ls') (hn : i < ls.length) (hc : sk_lc ls i = true) (k : sk_G l R μ Ex Z cn sn pc' ls' st h) : sk_G l R μ Ex Z cn sn pc ls (.inr (.inr (some x)) :: st) h := by
  subst hp
  subst hs
  exact fun p e s m args below meth c H locs bb D kc la hH hE hR hS hB hL => lv_astore hH.1 hH.2.1 hd hL.has (by rw [← hL.2.2.1]; exact hn) rfl (fun la' hla => k p e s m args below meth c H locs bb D kc la' hH hE hR hS hB (sk_LR.put1 hL.2.2.1 hc (by rw [← hL.2.2.1]; exact hn) hla))
theorem sg_iinc {i : Nat} {n : Int} {x : Int32} (v : Int32) (pc' : Nat) (ls' : List (Option sk_AV)) (hd : decode μ.2.1 pc = .ok (.iinc i n, 3)) (hp : pc + 3 = pc') (hv : ls[i]? = some (some (.inl x))) (hx : x + Int32.ofInt n = v) (hs : ls.set i (some (.inl v)) = ls') (hn : i < ls.length) (hc : sk_lc ls i = true) (k : sk_G l R μ Ex Z cn sn pc' ls' st h) : sk_G l R μ Ex Z cn sn pc ls st h := by
  subst hp
  subst hs
  intro p e s m args below meth c H locs bb D kc la hH hE hR hS hB hL
  obtain ⟨q, hq⟩ := List.getElem?_of_mem (sk_lst_mem (bb := bb) hv)
  exact lv_iinc hH.1 hH.2.1 hd hL.has hq hx (by rw [← hL.2.2.1]; exact hn) rfl (fun la' hla => k p e s m args below meth c H locs bb D kc la' hH hE hR hS hB (sk_LR.put1 hL.2.2.1 hc (by rw [← hL.2.2.1]; exact hn) hla))
end SKR
