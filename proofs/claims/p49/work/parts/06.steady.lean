/-! the memory once all cells are made: references stand (sk_dr), whole numbers and longs change -/
def sk_dr : Nat → Nat → Nat → Option (Nat × Nat) := fun s k f => match s with
  | 0 => if f = 0 then some (1, 0) else if f = 1 then some (2, 0) else if f = 2 then some (3, 0) else if f = 3 then some (4, 0) else if f = 4 then some (5, 0) else if f = 5 then some (6, 0) else if f = 6 then some (19, 0) else if f = 7 then some (23, 0) else if f = 8 then some (35, 0) else none
  | 1 => if f < 20 then some (37, f) else none
  | 2 => if f < 4 then some (39, f) else none
  | 3 => if f < 8 then some (42, f) else none
  | 4 => if f < 3 then some (43, f) else none
  | 6 => if f = 2 then some (7, 0) else if f = 3 then some (8, 0) else if f = 4 then some (9, 0) else if f = 5 then some (11, 0) else if f = 6 then some (12, 0) else if f = 7 then some (13, 0) else if f = 8 then some (14, 0) else if f = 9 then some (15, 0) else if f = 10 then some (16, 0) else if f = 11 then some (17, 0) else if f = 12 then some (18, 0) else none
  | 9 => if f < 20 then some (10, f) else none
  | 19 => if f = 0 then some (20, 0) else if f = 1 then some (21, 0) else if f = 2 then some (22, 0) else none
  | 23 => if f = 0 then some (24, 0) else if f = 1 then some (25, 0) else if f = 2 then some (26, 0) else if f = 3 then some (27, 0) else if f = 4 then some (28, 0) else if f = 5 then some (29, 0) else if f = 6 then some (30, 0) else if f = 7 then some (31, 0) else if f = 8 then some (32, 0) else if f = 9 then some (34, 0) else none
  | 32 => if f < 3 then some (33, f) else none
  | 35 => if f = 0 then some (36, 0) else none
  | 37 => if f = 6 then some (38, k) else none
  | 39 => if f = 7 then some (40, k) else if f = 8 then some (41, k) else none
  | _ => none
abbrev sk_D : Type := (Nat → Nat → Nat → Int32) × (Nat → Nat → Nat → Int64)
def sk_mm (d : sk_D) : sk_Mem := (sk_N0, d.1, d.2, sk_dr)
def sk_wi (d : sk_D) (s k f : Nat) (v : Int32) : sk_D := (sk_up d.1 s k f v, d.2)
def sk_wl (d : sk_D) (s k f : Nat) (v : Int64) : sk_D := (d.1, sk_up d.2 s k f v)
/-- a whole row of numbers anew -/
def sk_wf (d : sk_D) (s k : Nat) (g : Nat → Int32) : sk_D := (fun s' k' => if s' = s ∧ k' = k then g else d.1 s' k', d.2)
theorem sk_lvm {d : sk_D} {s k : Nat} (h : k < sk_cnt s) : sk_lv (sk_mm d) s k := ⟨(sk_live h).1, (sk_live h).2, by have := sk_cnt_lt h; omega⟩
theorem sk_cnt0 {s : Nat} (h : s < 44) : 0 < sk_cnt s := by
  have : (List.range 44).all (fun s => decide (0 < sk_cnt s)) = true := by decide +kernel
  exact of_decide_eq_true (List.all_eq_true.mp this s (List.mem_range.mpr h))
section SMR
variable {l : Launch} {R : Room} {μ : sk_MI} {Ex : sk_EX} {Z : sk_ZZ} {cn sn pc : Nat} {ls : List (Option sk_AV)} {st : List sk_AV} {d : sk_D}
theorem sm_getI {idx s k ci f : Nat} (pc' : Nat) (hd : decode μ.2.1 pc = .ok (.getfield idx, 3)) (hp : pc + 3 = pc') (hk : sk_fl μ.1.cls idx ci f) (hs : sk_shp s = .inl ci) (hf : sk_fr ci f = false) (hl : k < sk_cnt s) (kk : sk_G l R μ Ex Z cn sn pc' ls (.inl (d.1 s k f) :: st) (sk_mm d)) : sk_G l R μ Ex Z cn sn pc ls (.inr (.inr (some (s, k))) :: st) (sk_mm d) := sg_getI pc' hd hp hk hs hf (sk_lvm hl) kk
theorem sm_getR {idx s k ci f : Nat} (a : Nat × Nat) (pc' : Nat) (hd : decode μ.2.1 pc = .ok (.getfield idx, 3)) (hp : pc + 3 = pc') (hk : sk_fl μ.1.cls idx ci f) (hs : sk_shp s = .inl ci) (hf : sk_fr ci f = true) (hl : k < sk_cnt s) (ha : sk_dr s k f = some a) (kk : sk_G l R μ Ex Z cn sn pc' ls (.inr (.inr (some a)) :: st) (sk_mm d)) : sk_G l R μ Ex Z cn sn pc ls (.inr (.inr (some (s, k))) :: st) (sk_mm d) := sg_getR pc' hd hp hk hs hf (sk_lvm hl) ha kk
theorem sm_putI {idx s k ci f : Nat} {x : Int32} (pc' : Nat) (hd : decode μ.2.1 pc = .ok (.putfield idx, 3)) (hp : pc + 3 = pc') (hk : sk_fp μ.1.cls idx ci f .int) (hs : sk_shp s = .inl ci) (hf : sk_fr ci f = false) (hl : k < sk_cnt s) (kk : sk_G l R μ Ex Z cn sn pc' ls st (sk_mm (sk_wi d s k f x))) : sk_G l R μ Ex Z cn sn pc ls (.inl x :: .inr (.inr (some (s, k))) :: st) (sk_mm d) := sg_putI pc' hd hp hk hs hf (sk_lvm hl) rfl rfl kk
theorem sm_putZ {idx s k ci f : Nat} {ty : FieldType} {x : Int32} (pc' : Nat) (hd : decode μ.2.1 pc = .ok (.putfield idx, 3)) (hp : pc + 3 = pc') (hk : sk_fp μ.1.cls idx ci f ty) (hs : sk_shp s = .inl ci) (hf : sk_fr ci f = false) (hl : k < sk_cnt s) (hn : narrow ty (.int x) = .int x) (hfit : fits ty (.int x) = true) (kk : sk_G l R μ Ex Z cn sn pc' ls st (sk_mm (sk_wi d s k f x))) : sk_G l R μ Ex Z cn sn pc ls (.inl x :: .inr (.inr (some (s, k))) :: st) (sk_mm d) := sg_putI pc' hd hp hk hs hf (sk_lvm hl) hn hfit kk

theorem sm_iald {s k n : Nat} {i : Int32} (pc' : Nat) (hd : decode μ.2.1 pc = .ok (.iaload, 1)) (hp : pc + 1 = pc') (hs : sk_shp s = .inr (0, n)) (hl : k < sk_cnt s) (hb : sk_bi i n = true) (kk : sk_G l R μ Ex Z cn sn pc' ls (.inl (d.1 s k i.toNatClampNeg) :: st) (sk_mm d)) : sk_G l R μ Ex Z cn sn pc ls (.inl i :: .inr (.inr (some (s, k))) :: st) (sk_mm d) := sg_iald pc' hd hp hs (sk_lvm hl) hb kk
theorem sm_zald {s k n : Nat} {i : Int32} (pc' : Nat) (hd : decode μ.2.1 pc = .ok (.baload, 1)) (hp : pc + 1 = pc') (hs : sk_shp s = .inr (2, n)) (hl : k < sk_cnt s) (hb : sk_bi i n = true) (kk : sk_G l R μ Ex Z cn sn pc' ls (.inl (d.1 s k i.toNatClampNeg) :: st) (sk_mm d)) : sk_G l R μ Ex Z cn sn pc ls (.inl i :: .inr (.inr (some (s, k))) :: st) (sk_mm d) := sg_zald pc' hd hp hs (sk_lvm hl) hb kk
theorem sm_cald {s k n : Nat} {i : Int32} (pc' : Nat) (hd : decode μ.2.1 pc = .ok (.caload, 1)) (hp : pc + 1 = pc') (hs : sk_shp s = .inr (3, n)) (hl : k < sk_cnt s) (hb : sk_bi i n = true) (kk : sk_G l R μ Ex Z cn sn pc' ls (.inl (d.1 s k i.toNatClampNeg) :: st) (sk_mm d)) : sk_G l R μ Ex Z cn sn pc ls (.inl i :: .inr (.inr (some (s, k))) :: st) (sk_mm d) := sg_cald pc' hd hp hs (sk_lvm hl) hb kk
theorem sm_lald {s k n : Nat} {i : Int32} (pc' : Nat) (hd : decode μ.2.1 pc = .ok (.laload, 1)) (hp : pc + 1 = pc') (hs : sk_shp s = .inr (1, n)) (hl : k < sk_cnt s) (hb : sk_bi i n = true) (kk : sk_G l R μ Ex Z cn sn pc' ls (.inr (.inl (d.2 s k i.toNatClampNeg)) :: st) (sk_mm d)) : sk_G l R μ Ex Z cn sn pc ls (.inl i :: .inr (.inr (some (s, k))) :: st) (sk_mm d) := sg_lald pc' hd hp hs (sk_lvm hl) hb kk
theorem sm_aald {s k n kd : Nat} {i : Int32} (a : Nat × Nat) (pc' : Nat) (hd : decode μ.2.1 pc = .ok (.aaload, 1)) (hp : pc + 1 = pc') (hs : sk_shp s = .inr (kd, n)) (hkd : 4 ≤ kd ∧ kd < 9) (hl : k < sk_cnt s) (hb : sk_bi i n = true) (ha : sk_dr s k i.toNatClampNeg = some a) (kk : sk_G l R μ Ex Z cn sn pc' ls (.inr (.inr (some a)) :: st) (sk_mm d)) : sk_G l R μ Ex Z cn sn pc ls (.inl i :: .inr (.inr (some (s, k))) :: st) (sk_mm d) := sg_aald pc' hd hp hs hkd (sk_lvm hl) hb ha kk
theorem sm_iast {s k n : Nat} {i x : Int32} (pc' : Nat) (hd : decode μ.2.1 pc = .ok (.iastore, 1)) (hp : pc + 1 = pc') (hs : sk_shp s = .inr (0, n)) (hl : k < sk_cnt s) (hb : sk_bi i n = true) (kk : sk_G l R μ Ex Z cn sn pc' ls st (sk_mm (sk_wi d s k i.toNatClampNeg x))) : sk_G l R μ Ex Z cn sn pc ls (.inl x :: .inl i :: .inr (.inr (some (s, k))) :: st) (sk_mm d) := sg_iast pc' hd hp hs (sk_lvm hl) hb kk
theorem sm_zast {s k n : Nat} {i x : Int32} (pc' : Nat) (hd : decode μ.2.1 pc = .ok (.bastore, 1)) (hp : pc + 1 = pc') (hs : sk_shp s = .inr (2, n)) (hl : k < sk_cnt s) (hb : sk_bi i n = true) (kk : sk_G l R μ Ex Z cn sn pc' ls st (sk_mm (sk_wi d s k i.toNatClampNeg (vp_nar .boolean x)))) : sk_G l R μ Ex Z cn sn pc ls (.inl x :: .inl i :: .inr (.inr (some (s, k))) :: st) (sk_mm d) := sg_zast pc' hd hp hs (sk_lvm hl) hb kk
theorem sm_cast {s k n : Nat} {i x : Int32} (pc' : Nat) (hd : decode μ.2.1 pc = .ok (.castore, 1)) (hp : pc + 1 = pc') (hs : sk_shp s = .inr (3, n)) (hl : k < sk_cnt s) (hb : sk_bi i n = true) (kk : sk_G l R μ Ex Z cn sn pc' ls st (sk_mm (sk_wi d s k i.toNatClampNeg (vp_nar .char x)))) : sk_G l R μ Ex Z cn sn pc ls (.inl x :: .inl i :: .inr (.inr (some (s, k))) :: st) (sk_mm d) := sg_cast pc' hd hp hs (sk_lvm hl) hb kk
theorem sm_last {s k n : Nat} {i : Int32} {x : Int64} (pc' : Nat) (hd : decode μ.2.1 pc = .ok (.lastore, 1)) (hp : pc + 1 = pc') (hs : sk_shp s = .inr (1, n)) (hl : k < sk_cnt s) (hb : sk_bi i n = true) (kk : sk_G l R μ Ex Z cn sn pc' ls st (sk_mm (sk_wl d s k i.toNatClampNeg x))) : sk_G l R μ Ex Z cn sn pc ls (.inr (.inl x) :: .inl i :: .inr (.inr (some (s, k))) :: st) (sk_mm d) := sg_last pc' hd hp hs (sk_lvm hl) hb kk
theorem sm_alen {s k kd n : Nat} (v : Int32) (pc' : Nat) (hd : decode μ.2.1 pc = .ok (.arraylength, 1)) (hp : pc + 1 = pc') (hs : sk_shp s = .inr (kd, n)) (hkd : kd < 9) (hl : k < sk_cnt s) (hv : Int32.ofNat n = v) (kk : sk_G l R μ Ex Z cn sn pc' ls (.inl v :: st) (sk_mm d)) : sk_G l R μ Ex Z cn sn pc ls (.inr (.inr (some (s, k))) :: st) (sk_mm d) := by
  subst hp
  intro p e s0 m args below meth c H locs bb D kc la hH hE hR hS hB hL
  exact va_alen hH.1 hH.2.1 hR.1 hR.2.2.2 (sk_ord s k) kd (sk_at_arr hs (sk_lvm hl)) (sk_ty_at hkd) hv hd (kk p e s0 m args below meth c H locs bb D kc la hH hE hR hS hB hL)
theorem sk_ce_wf {kc : Nat → ClassId} {bb : sk_BB} {s k : Nat} {g : Nat → Int32} {a : Nat × Nat} (ha : a ≠ (s, k)) : sk_ce kc bb (sk_mm (sk_wf d s k g)) a = sk_ce kc bb (sk_mm d) a := by
  have e : (sk_mm (sk_wf d s k g)).2.1 a.1 a.2 = (sk_mm d).2.1 a.1 a.2 := by
    show (if a.1 = s ∧ a.2 = k then g else d.1 a.1 a.2) = d.1 a.1 a.2
    rw [if_neg]
    rintro ⟨h1, h2⟩
    exact ha (Prod.ext h1 h2)
  unfold sk_ce
  cases sk_shp a.1 with
  | inl ci =>
    refine congrArg (fun l => Sum.inr (ci, l)) (List.map_congr_left fun j _ => ?_)
    unfold sk_fv
    rw [e]
    rfl
  | inr kn =>
    show Sum.inl (kc kn.1, kn.2, _) = Sum.inl (kc kn.1, kn.2, _)
    rw [e]
    rfl
/-- System.arraycopy between two rows of as many whole numbers, from 0, all of them: the heap is as large as before -/
theorem sm_cpyW {p : Program} {l : Launch} {e : Env} {R : Room} {s0 : State} {m : MethodId} {args : Array Value} {below : List Frame} {meth : Method} {c : Code} {H : Heap} {locs : List Loc} {cn sn pc : Nat} {Q : State → Prop} {ls : Array Slot} {rest : List Value} {ws : va_W} {D : va_G} {kc : Nat → ClassId} {A : Nat → Prop} {H0 : Heap} {cc : ByteArray}
    (hexec : p.tables.exec = Jvm.exec) (hb : c.code = cc) (hml : c.maxLocals = ls.size) {own : String} {index : Nat} (hown : s0.vm.findClass own = some m.cls) (hlink : (Cond.methodLink own index arraycopyName).before args s0 = true) (hnat : (Cond.native arraycopyName).before args s0 = true) (hstat : (Cond.static arraycopyName).before args s0 = true) (hini : (Cond.initialized "java/lang/System").before args s0 = true)
    (hK : va_K D vwCl (sk_ty kc) s0) (hP : va_P D vwCl ws H) (hD : va_D A ws) (hS : va_S A H0 H locs) (q0 q1 : Nat) {a0 a1 : Nat} {n : Int32} {f g : Nat → Int32} (ha0 : ws[q0]? = some (a0, .inl (kc 0, n.toNatClampNeg, .inl f))) (ha1 : ws[q1]? = some (a1, .inl (kc 0, n.toNatClampNeg, .inl g))) (h3 : ¬ n < 0)
    (hframes : 1 ≤ R.frames) (hlocals : (rest.map fun v => v.category).sum + (nativeFrameWords "java/lang/System" "arraycopy" 5 + 11) ≤ R.locals) (hdg : decode cc pc = .ok (.invokestatic index, 3))
    (kk : ∀ (H1 : Heap) (locs1 : List Loc), H1.size = H.size → va_P D vwCl (ws.set q1 (a1, .inl (kc 0, n.toNatClampNeg, .inl (va_cpy f g 0 0 n.toNatClampNeg)))) H1 → va_S A H0 H1 locs1 → W p l e R s0 m args below meth c H1 locs1 cn sn Q (F0 m (pc + 3) ls rest)) : W p l e R s0 m args below meth c H locs cn sn Q (F0 m pc ls (.int n :: .int 0 :: .ref a1 :: .int 0 :: .ref a0 :: rest)) := by
  have z0 : (0 : Int32).toNatClampNeg = 0 := by decide
  have zi : (0 : Int32).toInt = 0 := by decide
  have nn : n.toInt = (n.toNatClampNeg : Int) := by
    have h0 : (0 : Int) ≤ n.toInt := by simpa using Int32.le_iff_toInt_le.mp (Int32.not_lt.mp h3)
    show n.toInt = ((n.toInt.toNat : Nat) : Int)
    omega
  intro T hT X
  have g0 : H[a0]? = some (vp_cell (kc 0) (n.toNatClampNeg, .inl f)) := hP q0 _ ha0
  have g1 : H[a1]? = some (vp_cell (kc 0) (n.toNatClampNeg, .inl g)) := hP q1 _ ha1
  have ht : (sk_ty kc)[0]? = some (kc 0, .int) := sk_ty_at (by decide)
  obtain ⟨-, k0, hk0, cm0, hkk0⟩ := (hK.2 0 _ ht).1 n.toNatClampNeg (fun j => .int (f j))
  obtain ⟨-, k1, hk1, cm1, hkk1⟩ := (hK.2 0 _ ht).1 n.toNatClampNeg (fun j => .int (g j))
  obtain ⟨vm', X', step⟩ := X.arraycopy hexec hown hlink hnat hstat hini (src := a0) (dst := a1) (cs := vp_cell (kc 0) (n.toNatClampNeg, .inl f)) (cd := vp_cell (kc 0) (n.toNatClampNeg, .inl g)) (srcPos := 0) (destPos := 0) (n := n) (by rw [hT]; exact g0) (by rw [hT]; exact g1)
    (fun _ h => by cases h) (fun _ h => by cases h) (fun h => by cases h) (fun h => by cases h) hk0 hk1 hkk0 hkk1 (by show (refKind FieldType.int != refKind FieldType.int || !refKind FieldType.int && FieldType.int != FieldType.int) = false; decide) (by decide) (by decide) h3
    (by rw [zi, nn]; show ¬ _ > ((arrV (kc 0) n.toNatClampNeg (fun j => .int (f j))).slots.size : Int); rw [arrV_size]; omega)
    (by rw [zi, nn]; show ¬ _ > ((arrV (kc 0) n.toNatClampNeg (fun j => .int (g j))).slots.size : Int); rw [arrV_size]; omega)
    (fun vm₁ _ i hi => by
      have e : (vp_cell (kc 0) (n.toNatClampNeg, .inl f)).slots.getD ((0 : Int32).toNatClampNeg + i) .null = .int (f i) := by
        show (arrV (kc 0) n.toNatClampNeg (fun j => .int (f j))).slots.getD _ _ = _
        rw [z0, Nat.zero_add, Array.getD_eq_getD_getElem?, arrV_read _ _ hi]
        rfl
      exact ⟨by rw [e]; rfl, by rw [e]; exact trivial⟩)
    (g := F0 m pc ls (.int n :: .int 0 :: .ref a1 :: .int 0 :: .ref a0 :: rest)) rfl (by rw [hml]) (rest := rest) rfl (by rw [hb]; exact hdg) hframes (by show 2 * 0 + _ + _ ≤ _; omega)
  have e1 : copied (vp_cell (kc 0) (n.toNatClampNeg, .inl f)) (vp_cell (kc 0) (n.toNatClampNeg, .inl g)) 0 0 n = vp_cell (kc 0) (n.toNatClampNeg, .inl (va_cpy f g 0 0 n.toNatClampNeg)) := va_copied (fun z => .int z) (kc 0) (kc 0) f g (sp := 0) (dp := 0) (by show 0 + n.toNatClampNeg ≤ n.toNatClampNeg; omega)
  rw [e1] at X' step
  have hl : a1 < H.size := (Array.getElem?_eq_some_iff.mp g1).1
  have oq : ∀ q : Nat, q ≠ a1 → (H.setIfInBounds a1 (vp_cell (kc 0) (n.toNatClampNeg, .inl (va_cpy f g 0 0 n.toNatClampNeg))))[q]? = H[q]? := fun q hq => by simp [Array.getElem?_setIfInBounds, Ne.symm hq]
  have hA := hD.2 q1 _ ha1
  obtain ⟨t, b1, b2⟩ := kk (H.setIfInBounds a1 (vp_cell (kc 0) (n.toNatClampNeg, .inl (va_cpy f g 0 0 n.toNatClampNeg)))) _ (by simp) (hP.set hD ha1 (show (H.setIfInBounds a1 _)[a1]? = some _ by simp [Array.getElem?_setIfInBounds, hl]) oq) ⟨by simp; exact hS.1, fun q g1 g2 => by
      rw [oq q (fun e => g2 (by rw [e]; exact hA))]
      exact hS.2.1 q g1 g2, fun q hq => by
      rcases List.mem_append.mp hq with h | h
      · exact hS.2.2 q h
      · obtain ⟨z, -, hz⟩ := List.mem_map.mp h
        rw [← hz]
        exact hA⟩ _ (by rw [← hT]; rfl) X'
  exact ⟨t, step t b1, b2⟩
/-- System.arraycopy of the first n of two rows of n whole numbers -/
theorem sm_copy {idx s k s1 k1 n : Nat} {v : Int32} (pc' : Nat) (hd : decode μ.2.1 pc = .ok (.invokestatic idx, 3)) (hp : pc + 3 = pc') (hlk : Cond.methodLink μ.1.cls idx arraycopyName ∈ sk_tg) (hnat : Cond.native arraycopyName ∈ sk_tg) (hstat : Cond.static arraycopyName ∈ sk_tg) (hini : Cond.initialized "java/lang/System" ∈ sk_tg)
    (hs : sk_shp s = .inr (0, n)) (hs1 : sk_shp s1 = .inr (0, n)) (hl : k < sk_cnt s) (hl1 : k1 < sk_cnt s1) (hv0 : ¬ v < 0) (hv : v.toNatClampNeg = n) (hR1 : 1 ≤ R.frames) (hR2 : 40 ≤ R.locals) (h8 : sk_cat8 st ≤ 8)
    (kk : sk_G l R μ Ex Z cn sn pc' ls st (sk_mm (sk_wf d s1 k1 (va_cpy (d.1 s k) (d.1 s1 k1) 0 0 n)))) : sk_G l R μ Ex Z cn sn pc ls (.inl v :: .inl 0 :: .inr (.inr (some (s1, k1))) :: .inl 0 :: .inr (.inr (some (s, k))) :: st) (sk_mm d) := by
  subst hp
  subst hv
  intro p e s0 m args below meth c H locs bb D kc la hH hE hR hS hB hL
  have hts := hH.2.2.2.2.2.1
  refine sm_cpyW hH.1 hH.2.1 (hH.2.2.2.1.trans hL.1.symm) hH.2.2.2.2.1 (hts _ hlk) (hts _ hnat) (hts _ hstat) (hts _ hini) hR.1 hR.2.2.2 (sk_ws_D hR.2.2.1) hS (sk_ord s k) (sk_ord s1 k1) (sk_at_arr hs (sk_lvm hl)) (sk_at_arr hs1 (sk_lvm hl1)) hv0 hR1 ?_ hd (fun H1 locs1 hz1 hP1 hS1 => ?_)
  · rw [sk_cat8_eq]
    have : nativeFrameWords "java/lang/System" "arraycopy" 5 = 7 := by decide +kernel
    omega
  · refine kk p e s0 m args below meth c H1 locs1 bb D kc la hH hE ⟨hR.1, ⟨hz1.trans hR.2.1.1, hR.2.1.2⟩, hR.2.2.1, ?_⟩ hS1 hB hL
    rw [← sk_ws_set (h := sk_mm d) (h' := sk_mm (sk_wf d s1 k1 (va_cpy (d.1 s k) (d.1 s1 k1) 0 0 v.toNatClampNeg))) (s := s1) (k := k1) (sk_lvm hl1) rfl hR.2.2.1 (fun a ha => sk_ce_wf ha)]
    have ec : sk_ce kc bb (sk_mm (sk_wf d s1 k1 (va_cpy (d.1 s k) (d.1 s1 k1) 0 0 v.toNatClampNeg))) (s1, k1) = .inl (kc 0, v.toNatClampNeg, .inl (va_cpy (d.1 s k) (d.1 s1 k1) 0 0 v.toNatClampNeg)) := by
      unfold sk_ce
      rw [show sk_shp (s1, k1).1 = .inr (0, v.toNatClampNeg) from hs1]
      show Sum.inl (kc 0, v.toNatClampNeg, Sum.inl (if s1 = s1 ∧ k1 = k1 then _ else _)) = _
      rw [if_pos ⟨rfl, rfl⟩]
    rw [ec]
    exact hP1
end SMR
