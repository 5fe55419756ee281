/-! THE LAW'S OWN ROWS OF NUMBERS: judgement, rows, calls, contracts *** by hand -/
def xw (x : sk_X) (i j : Nat) (v : Int32) : sk_X := (x.1, x.2.1, fun i' j' => if i' = i ∧ j' = j then v else x.2.2 i' j')
def xn (x : sk_X) (n : Nat) : sk_X := (x.1 + 1, fun i => if i = x.1 then n else x.2.1 i, fun i j => if i = x.1 then 0 else x.2.2 i j)
def xb (x : sk_X) (i : Nat) (j : Int32) : Bool := decide (i < x.1) && sk_bi j (x.2.1 i)
theorem xb.o {x : sk_X} {i : Nat} {j : Int32} (h : xb x i j = true) : i < x.1 ∧ sk_bi j (x.2.1 i) = true := by
  unfold xb at h
  rw [Bool.and_eq_true] at h
  exact ⟨of_decide_eq_true h.1, h.2⟩
abbrev sx_E0 : Type := State → Array Value → Nat → Nat → Prop
abbrev sx_Z0 : Type := State → Array Value → List Frame → Nat → Nat → va_G → (Nat → ClassId) → State → Prop
def sx_E (E0 : sx_E0) (x : sk_X) (L : Nat) (xs : Nat → Int32) : sk_EX := fun s args bb => E0 s args bb.1 bb.2.1 ∧ bb.2.2 = x ∧ va_X bb.2.1 L xs s s.heap ∧ bb.2.1 < bb.1
def sx_Z (Z0 : sx_Z0) : sk_ZZ := fun s args below bb D kc => Z0 s args below bb.1 bb.2.1 D kc
abbrev sx_G (l : Launch) (R : Room) (μ : sk_MI) (E0 : sx_E0) (Z0 : sx_Z0) (x : sk_X) (L : Nat) (xs : Nat → Int32) (cn sn pc : Nat) (ls : List (Option sk_AV)) (st : List sk_AV) (d : sk_D) : Prop := sk_G l R μ (sx_E E0 x L xs) (sx_Z Z0) cn sn pc ls st (sk_mm d)
def sx_Pc (bb : sk_BB) (D : va_G) (kc : Nat → ClassId) (as : List sk_AV) (h : sk_Mem) (L : Nat) (xs : Nat → Int32) : Array Value → State → Prop :=
  va_Pc (as.map (sk_cv bb)) (fun U => sk_Nx U ∧ sk_RH bb D kc h U U.heap ∧ bb.1 ≤ U.heap.size ∧ va_X bb.2.1 L xs U U.heap ∧ bb.2.1 < bb.1)
/-- a contract of the law's own methods: from as, d and x it comes back with r, d' and x' -/
def sx_M (l : Launch) (dp : Nat) (μ : sk_MI) (as : List sk_AV) (d : sk_D) (x : sk_X) (r : Option sk_AV) (d' : sk_D) (x' : sk_X) (L : Nat) (xs : Nat → Int32) : Prop :=
  ∀ (b0 b1 : Nat) (D : va_G) (kc : Nat → ClassId), Met l μ.1 (sk_wm μ) (sk_rm dp μ.2.2.2.2.1 μ.2.2.2.2.2) (sx_Pc (b0, b1, x) D kc as (sk_mm d) L xs) (sk_Qc (b0, b1, x') D kc r (sk_mm d')) μ.2.2.2.2.1 μ.2.2.2.2.2 (fun q => b0 ≤ q)
def sx_T : sx_E0 := fun _ _ _ _ => True
def sx_Zm (μ : sk_MI) (r : Option sk_AV) (d' : sk_D) (x' : sk_X) : sx_Z0 := fun s args below b0 b1 D kc => MQ below (sk_Qc (b0, b1, x') D kc r (sk_mm d')) args s μ.2.2.2.2.1 μ.2.2.2.2.2 (fun q => b0 ≤ q)
theorem sx_cv {b0 b1 : Nat} {x y : sk_X} : sk_cv (b0, b1, x) = sk_cv (b0, b1, y) := by
  funext v
  match v with
  | .inl _ => rfl
  | .inr (.inl _) => rfl
  | .inr (.inr none) => rfl
  | .inr (.inr (some _)) => rfl
theorem sx_LR {b0 b1 : Nat} {x y : sk_X} {la : Array Slot} {nL : Nat} {ls : List (Option sk_AV)} (h : sk_LR (b0, b1, x) la nL ls) : sk_LR (b0, b1, y) la nL ls := by
  unfold sk_LR at h ⊢
  rw [sx_cv (x := y) (y := x)]
  exact h
theorem sx_wc {kc : Nat → ClassId} {b0 b1 : Nat} {x y : sk_X} {h : sk_Mem} : sk_wc kc (b0, b1, x) h = sk_wc kc (b0, b1, y) h := rfl
theorem sx_wx_w {kc : Nat → ClassId} {b0 b1 : Nat} {x : sk_X} {i j : Nat} {v : Int32} : sk_wx kc (b0, b1, xw x i j v) = (sk_wx kc (b0, b1, x)).set i (b0 + (sk_N0 + i), .inl (kc 0, x.2.1 i, .inl (upd (x.2.2 i) j v))) := by
  apply List.ext_getElem?
  intro k
  unfold sk_wx
  by_cases hk : k < x.1
  · by_cases e : k = i
    · subst e
      rw [List.getElem?_set_self (by rw [List.length_map, List.length_range]; exact hk), List.getElem?_map, List.getElem?_range (show k < (xw x k j v).1 from hk)]
      refine congrArg some ?_
      show (b0 + (sk_N0 + k), _) = (b0 + (sk_N0 + k), _)
      refine congrArg (fun f => (b0 + (sk_N0 + k), Sum.inl (kc 0, x.2.1 k, Sum.inl f))) ?_
      funext j'
      show (if k = k ∧ j' = j then v else x.2.2 k j') = upd (x.2.2 k) j v j'
      unfold upd
      by_cases hj : j' = j <;> simp [hj]
    · rw [List.getElem?_set_ne (Ne.symm e), List.getElem?_map, List.getElem?_map, List.getElem?_range (show k < (xw x i j v).1 from hk), List.getElem?_range (show k < ((b0, b1, x) : sk_BB).2.2.1 from hk)]
      refine congrArg some ?_
      refine congrArg (fun f => (b0 + (sk_N0 + k), Sum.inl (kc 0, x.2.1 k, Sum.inl f))) ?_
      funext j'
      show (if k = i ∧ j' = j then v else x.2.2 k j') = x.2.2 k j'
      rw [if_neg (fun q => e q.1)]
  · rw [List.getElem?_eq_none (by rw [List.length_map, List.length_range]; exact Nat.not_lt.mp hk), List.getElem?_eq_none (by rw [List.length_set, List.length_map, List.length_range]; exact Nat.not_lt.mp hk)]
theorem sx_wx_n {kc : Nat → ClassId} {b0 b1 : Nat} {x : sk_X} {n : Nat} : sk_wx kc (b0, b1, xn x n) = sk_wx kc (b0, b1, x) ++ [(b0 + (sk_N0 + x.1), .inl (kc 0, n, .inl (fun _ => 0)))] := by
  unfold sk_wx
  show (List.range (x.1 + 1)).map _ = _
  rw [List.range_succ, List.map_append]
  refine congr (congrArg HAppend.hAppend (List.map_congr_left fun k hk => ?_)) ?_
  · have hk := List.mem_range.mp hk
    unfold sk_xc
    show (b0 + (sk_N0 + k), Sum.inl (kc 0, (if k = x.1 then n else x.2.1 k), Sum.inl (fun j => if k = x.1 then 0 else x.2.2 k j))) = _
    rw [if_neg (by omega)]
    refine congrArg (fun f => (b0 + (sk_N0 + k), Sum.inl (kc 0, x.2.1 k, Sum.inl f))) ?_
    funext j
    rw [if_neg (by omega)]
  · unfold sk_xc
    show [(b0 + (sk_N0 + x.1), Sum.inl (kc 0, (if x.1 = x.1 then n else x.2.1 x.1), Sum.inl (fun j => if x.1 = x.1 then 0 else x.2.2 x.1 j)))] = _
    rw [if_pos rfl]
    refine congrArg (fun f => [(b0 + (sk_N0 + x.1), Sum.inl (kc 0, n, Sum.inl f))]) ?_
    funext j
    rw [if_pos rfl]
theorem sx_at {kc : Nat → ClassId} {b0 b1 : Nat} {x : sk_X} {d : sk_D} {k : Nat} (hk : k < x.1) : (sk_ws kc (b0, b1, x) (sk_mm d))[sk_N0 + k]? = some (b0 + (sk_N0 + k), .inl (kc 0, x.2.1 k, .inl (x.2.2 k))) :=
  sk_ws_x (h := sk_mm d) (bb := (b0, b1, x)) hk
theorem sx_RH_w {b0 b1 : Nat} {x : sk_X} {D : va_G} {kc : Nat → ClassId} {d : sk_D} {s0 : State} {H H1 : Heap} {k j : Nat} {v : Int32} (hR : sk_RH (b0, b1, x) D kc (sk_mm d) s0 H) (hk : k < x.1)
    (hat : va_at D vwCl (b0 + (sk_N0 + k), .inl (kc 0, x.2.1 k, .inl (upd (x.2.2 k) j v))) H1) (hz : H1.size = H.size) (oq : ∀ q : Nat, q ≠ b0 + (sk_N0 + k) → H1[q]? = H[q]?) : sk_RH (b0, b1, xw x k j v) D kc (sk_mm d) s0 H1 := by
  refine ⟨hR.1, ⟨hz.trans hR.2.1.1, hR.2.1.2⟩, hR.2.2.1, ?_⟩
  have e : sk_ws kc (b0, b1, xw x k j v) (sk_mm d) = (sk_ws kc (b0, b1, x) (sk_mm d)).set (sk_N0 + k) (b0 + (sk_N0 + k), .inl (kc 0, x.2.1 k, .inl (upd (x.2.2 k) j v))) := by
    unfold sk_ws
    rw [sx_wx_w, List.set_append_right _ _ (by rw [sk_wc_len]; exact Nat.le_add_right _ _), sk_wc_len]
    show sk_wc kc (b0, b1, x) (sk_mm d) ++ _ = _ ++ (sk_wx kc (b0, b1, x)).set (sk_N0 + k - sk_N0) _
    rw [Nat.add_sub_cancel_left]
  rw [e]
  exact va_P.set hR.2.2.2 (sk_ws_D hR.2.2.1) (sx_at hk) hat oq
theorem sx_RH_n {b0 b1 : Nat} {x : sk_X} {D : va_G} {kc : Nat → ClassId} {d : sk_D} {s0 : State} {H H1 : Heap} {n : Nat} (hR : sk_RH (b0, b1, x) D kc (sk_mm d) s0 H)
    (hat : va_at D vwCl (b0 + (sk_N0 + x.1), .inl (kc 0, n, .inl (fun _ => 0))) H1) (hz : H1.size = H.size + 1) (oq : ∀ q : Nat, q < H.size → H1[q]? = H[q]?) : sk_RH (b0, b1, xn x n) D kc (sk_mm d) s0 H1 := by
  have hs : H.size = b0 + sk_N0 + x.1 := hR.2.1.1
  refine ⟨hR.1, ⟨?_, fun q => absurd q (Nat.lt_irrefl _)⟩, hR.2.2.1, ?_⟩
  · show H1.size = b0 + sk_N0 + (x.1 + 1)
    omega
  have e : sk_ws kc (b0, b1, xn x n) (sk_mm d) = sk_ws kc (b0, b1, x) (sk_mm d) ++ [(b0 + (sk_N0 + x.1), .inl (kc 0, n, .inl (fun _ => 0)))] := by
    unfold sk_ws
    rw [sx_wx_n, ← List.append_assoc]
    rfl
  rw [e]
  refine (hR.2.2.2.kept (fun k y hy => oq y.1 ((hR.2.2.2 k y hy).lt))).app (fun k y hy => ?_)
  have hk : k < 1 := (List.getElem?_eq_some_iff.mp hy).1
  rw [show k = 0 by omega] at hy
  cases hy
  exact hat
theorem sx_blind {bb : sk_BB} {D : va_G} {kc : Nat → ClassId} {as : List sk_AV} {h : sk_Mem} {L : Nat} {xs : Nat → Int32} : FrameBlind (sx_Pc bb D kc as h L xs) := fun a U g mk q =>
  ⟨q.1, sk_Nx.same (s := U) (U := U.calling g mk a) rfl q.2.1, ⟨va_K.moved (u := U) (U := U.calling g mk a) (Vm.Alike.refl U.vm) q.2.2.1.1, q.2.2.1.2⟩, q.2.2.2.1, q.2.2.2.2.1.moved (u := U) (U := U.calling g mk a) (Vm.Alike.refl U.vm), q.2.2.2.2.2⟩
section SXR
variable {l : Launch} {R : Room} {μ : sk_MI} {E0 : sx_E0} {Z0 : sx_Z0} {x : sk_X} {L : Nat} {xs : Nat → Int32} {cn sn pc : Nat} {ls : List (Option sk_AV)} {st : List sk_AV} {d : sk_D}
theorem sg_ixor {Ex : sk_EX} {Z : sk_ZZ} {h : sk_Mem} {v w : Int32} (pc' : Nat) (hd : decode μ.2.1 pc = .ok (.ixor, 1)) (hp : pc + 1 = pc') (k : sk_G l R μ Ex Z cn sn pc' ls (.inl (v ^^^ w) :: st) h) : sk_G l R μ Ex Z cn sn pc ls (.inl w :: .inl v :: st) h := by
  subst hp
  exact fun p e s m args below meth c H locs bb D kc la hH hE hR hS hB hL => lv_ixor hH.1 hH.2.1 hd (k p e s m args below meth c H locs bb D kc la hH hE hR hS hB hL)
theorem sg_dupx2 {Ex : sk_EX} {Z : sk_ZZ} {h : sk_Mem} {v w : Int32} {a : Nat × Nat} (pc' : Nat) (hd : decode μ.2.1 pc = .ok (.dup_x2, 1)) (hp : pc + 1 = pc') (k : sk_G l R μ Ex Z cn sn pc' ls (.inl v :: .inl w :: .inr (.inr (some a)) :: .inl v :: st) h) : sk_G l R μ Ex Z cn sn pc ls (.inl v :: .inl w :: .inr (.inr (some a)) :: st) h := by
  subst hp
  exact fun p e s m args below meth c H locs bb D kc la hH hE hR hS hB hL => lv_dup_x2 hH.1 hH.2.1 hd rfl rfl rfl (k p e s m args below meth c H locs bb D kc la hH hE hR hS hB hL)
theorem sx_wk {Ex : sk_EX} {Z : sk_ZZ} {h : sk_Mem} (ms : List Bool) {ls' : List (Option sk_AV)} (hm : sk_msk ms ls = ls') (k : sk_G l R μ Ex Z cn sn pc ls' st h) : sk_G l R μ Ex Z cn sn pc ls st h := by
  subst hm
  intro p e s0 m args below meth c H locs bb D kc la hH hE hR hS hB hL
  exact k p e s0 m args below meth c H locs bb D kc la hH hE hR hS hB ⟨hL.1, hL.2.1, by rw [sk_msk_len]; exact hL.2.2.1, fun i v hi => hL.2.2.2 i v (sk_msk_get ms ls i v hi)⟩
/-- an element of a row of the law's -/
theorem sx_ld {k : Nat} {i : Int32} (pc' : Nat) (hd : decode μ.2.1 pc = .ok (.iaload, 1)) (hp : pc + 1 = pc') (hb : xb x k i = true) (kk : sx_G l R μ E0 Z0 x L xs cn sn pc' ls (.inl (x.2.2 k i.toNatClampNeg) :: st) d) : sx_G l R μ E0 Z0 x L xs cn sn pc ls (.inl i :: .inr (.inr (some (9998, k))) :: st) d := by
  subst hp
  obtain ⟨h1, h2⟩ := xb.o hb
  intro p e s0 m args below meth c H locs bb D kc la hH hE hR hS hB hL
  have := kk p e s0 m args below meth c H locs bb D kc la hH hE hR hS hB hL
  obtain ⟨b0, b1, x0⟩ := bb
  have hx : x0 = x := hE.2.1
  subst hx
  rw [List.map_cons, List.map_cons]
  show W p l e R s0 m args below meth c H locs cn sn _ (F0 m pc la (.int i :: .ref (sk_ad (b0, b1, x0) (9998, k)) :: _))
  rw [sk_ad_x]
  exact va_iald hH.1 hH.2.1 hR.1 hR.2.2.2 (sk_N0 + k) 0 (sx_at h1) (sk_ty_at (by decide)) (sk_bi.v h2) hd this
/-- .. stored to -/
theorem sx_st {k : Nat} {i v : Int32} (pc' : Nat) (hd : decode μ.2.1 pc = .ok (.iastore, 1)) (hp : pc + 1 = pc') (hb : xb x k i = true) (kk : sx_G l R μ E0 Z0 (xw x k i.toNatClampNeg v) L xs cn sn pc' ls st d) : sx_G l R μ E0 Z0 x L xs cn sn pc ls (.inl v :: .inl i :: .inr (.inr (some (9998, k))) :: st) d := by
  subst hp
  obtain ⟨h1, h2⟩ := xb.o hb
  intro p e s0 m args below meth c H locs bb D kc la hH hE hR hS hB hL
  obtain ⟨b0, b1, x0⟩ := bb
  have hx : x0 = x := hE.2.1
  subst hx
  rw [List.map_cons, List.map_cons, List.map_cons]
  show W p l e R s0 m args below meth c H locs cn sn _ (F0 m pc la (.int v :: .int i :: .ref (sk_ad (b0, b1, x0) (9998, k)) :: _))
  rw [sk_ad_x]
  refine W.iast hH.1 hH.2.1 (hR.2.2.2 _ _ (sx_at h1)) ((hR.1.2 0 _ (sk_ty_at (by decide))).1 (x0.2.1 k) (fun j => .int (x0.2.2 k j))) (fun q => by cases q) (by show ¬ (i < 0 ∨ (arrV _ _ _).slots.size ≤ _); rw [arrV_size]; exact sk_bi.v h2) rfl rfl hd fun H1 e1 z oq => ?_
  have key : ∀ locs' : List Loc, va_S (fun q => b0 ≤ q) s0.heap H1 locs' → W p l e R s0 m args below meth c H1 locs' cn sn (sx_Z Z0 s0 args below (b0, b1, x0) D kc) (F0 m (pc + 1) la (st.map (sk_cv (b0, b1, x0)))) := fun locs' hS' => by
    have := kk p e s0 m args below meth c H1 locs' (b0, b1, xw x0 k i.toNatClampNeg v) D kc la hH ⟨hE.1, rfl, hE.2.2⟩ (sx_RH_w hR h1 (by
      show H1[_]? = some (vp_cell _ _)
      rw [e1]
      exact congrArg some ((arrV_store _ _ _ _ _).trans (congrArg (arrV _ _) sk_updV))) z oq) hS' hB (sx_LR hL)
    rw [sx_cv (y := x0)] at this
    exact this
  exact key _ (hS.put z oq (show b0 ≤ b0 + (sk_N0 + k) by omega))
/-- a new row of whole numbers -/
theorem sx_new {n : Int32} {N : Nat} (pc' : Nat) (hd : decode μ.2.1 pc = .ok (.newarray .int, 2)) (hp : pc + 2 = pc') (hn : ¬ n < 0) (hN : n.toNatClampNeg = N) (h100 : N ≤ 1000) (hc : cn + 1 ≤ R.cells) (hsl : sn + N ≤ R.slots)
    (kk : sx_G l R μ E0 Z0 (xn x N) L xs (cn + 1) (sn + N) pc' ls (.inr (.inr (some (9998, x.1))) :: st) d) : sx_G l R μ E0 Z0 x L xs cn sn pc ls (.inl n :: st) d := by
  subst hp
  intro p e s0 m args below meth c H locs bb D kc la hH hE hR hS hB hL
  have hts := hH.2.2.2.2.2.1
  obtain ⟨b0, b1, x0⟩ := bb
  have hx : x0 = x := hE.2.1
  subst hx
  have hs : H.size = b0 + sk_N0 + x0.1 := hR.2.1.1
  refine va_newaK (rest := st.map (sk_cv (b0, b1, x0))) hH.1 hH.2.1 (hts _ kar_int) rfl hd rfl hn hN (by show N * 4 ≤ 536870912; omega) hc hsl rfl (fun H1 cA e1 z1 o1 hAr hNm => ?_)
  have hcA := sk_kcK hR.1 (kd := 0) (by omega) hNm
  subst hcA
  have hR' : sk_RH (b0, b1, xn x0 N) D kc (sk_mm d) s0 H1 := by
    refine sx_RH_n hR ?_ z1 o1
    show H1[_]? = some (vp_cell _ _)
    rw [show b0 + (sk_N0 + x0.1) = H.size by omega]
    exact e1
  have := kk p e s0 m args below meth c H1 locs (b0, b1, xn x0 N) D kc la hH ⟨hE.1, rfl, hE.2.2⟩ hR' (sk_S_add hS (by omega) o1) hB (sx_LR hL)
  rw [sx_cv (y := x0), List.map_cons] at this
  have ea : sk_cv (b0, b1, x0) (.inr (.inr (some (9998, x0.1)))) = .ref H.size := by
    show Value.ref (sk_ad (b0, b1, x0) (9998, x0.1)) = _
    rw [sk_ad_x]
    show Value.ref (b0 + (sk_N0 + x0.1)) = Value.ref H.size
    rw [show b0 + (sk_N0 + x0.1) = H.size by omega]
  rw [ea] at this
  exact this
/-- the script -/
theorem sx_sld {i : Int32} (pc' : Nat) (hd : decode μ.2.1 pc = .ok (.iaload, 1)) (hp : pc + 1 = pc') (hb : sk_bi i L = true) (kk : sx_G l R μ E0 Z0 x L xs cn sn pc' ls (.inl (xs i.toNatClampNeg) :: st) d) : sx_G l R μ E0 Z0 x L xs cn sn pc ls (.inl i :: .inr (.inr (some (9999, 0))) :: st) d := by
  subst hp
  intro p e s0 m args below meth c H locs bb D kc la hH hE hR hS hB hL
  have := kk p e s0 m args below meth c H locs bb D kc la hH hE hR hS hB hL
  exact va_sld (xs := xs) (L := L) hH.1 hH.2.1 hE.2.2.1 (Nat.lt_of_lt_of_le hE.2.2.2 hB) (show ¬ bb.1 ≤ bb.2.1 by have := hE.2.2.2; omega) hS (sk_bi.v hb) hd this
theorem sx_slen (pc' : Nat) (hd : decode μ.2.1 pc = .ok (.arraylength, 1)) (hp : pc + 1 = pc') (kk : sx_G l R μ E0 Z0 x L xs cn sn pc' ls (.inl (nI L) :: st) d) : sx_G l R μ E0 Z0 x L xs cn sn pc ls (.inr (.inr (some (9999, 0))) :: st) d := by
  subst hp
  intro p e s0 m args below meth c H locs bb D kc la hH hE hR hS hB hL
  have := kk p e s0 m args below meth c H locs bb D kc la hH hE hR hS hB hL
  exact va_slen (xs := xs) (L := L) hH.1 hH.2.1 hE.2.2.1 (Nat.lt_of_lt_of_le hE.2.2.2 hB) (show ¬ bb.1 ≤ bb.2.1 by have := hE.2.2.2; omega) hS hd this
theorem sx_pre {p : Program} {s0 : State} {m : MethodId} {args : Array Value} {meth : Method} {c : Code} {H : Heap} {bb : sk_BB} {D : va_G} {kc : Nat → ClassId} {as : List sk_AV} {h : sk_Mem} {locs : List Loc} (hH : sk_Hd p s0 m args meth c μ) (hE : sx_E E0 x L xs s0 args bb) (hR : sk_RH bb D kc h s0 H) (hS : va_S (fun q => bb.1 ≤ q) s0.heap H locs) (hB : bb.1 ≤ s0.heap.size) : ∀ U : State, U.heap = H → s0.WarmedH U.vm → sx_Pc bb D kc as h L xs (as.map (sk_cv bb)).toArray U :=
  fun U hU hW => ⟨rfl, sk_Nx.warm hW hH.2.2.2.2.2.2.2.2, by rw [hU]; exact hR.moved hW.alike, by rw [hU]; exact Nat.le_trans hB hS.1, by rw [hU]; exact (hE.2.2.1.kept (hS.2.1 _ (Nat.lt_of_lt_of_le hE.2.2.2 hB) (show ¬ bb.1 ≤ bb.2.1 by have := hE.2.2.2; omega))).moved hW.alike, hE.2.2.2⟩
theorem sx_after {p : Program} {e : Env} {s0 : State} {m : MethodId} {args : Array Value} {below : List Frame} {meth : Method} {c : Code} {H : Heap} {locs : List Loc} {b0 b1 : Nat} {x' : sk_X} {D : va_G} {kc : Nat → ClassId} {la : Array Slot} {mc ms : Nat} {rest : List sk_AV} {stv : List Value} {r : Option sk_AV} {d' : sk_D} {a : Array Value}
    (hr : va_Run p l e R s0 m args below meth c H locs cn sn mc ms (F0 m pc la stv) (rest.map (sk_cv (b0, b1, x))) (sk_Qc (b0, b1, x') D kc r (sk_mm d') a) (fun q => b0 ≤ q))
    (hH : sk_Hd p s0 m args meth c μ) (hE : sx_E E0 x L xs s0 args (b0, b1, x)) (hS : va_S (fun q => b0 ≤ q) s0.heap H locs) (hB : b0 ≤ s0.heap.size) (hL : sk_LR (b0, b1, x) la μ.2.2.1 ls)
    (kk : sx_G l R μ E0 Z0 x' L xs (cn + mc) (sn + ms) (pc + 3) ls (r.toList ++ rest) d') : W p l e R s0 m args below meth c H locs cn sn (sx_Z Z0 s0 args below (b0, b1, x) D kc) (F0 m pc la stv) := by
  intro T hT X
  obtain ⟨v, st₀, t, T', Lf, h0, X', hLf, e1, e2, ⟨⟨hv, hR'⟩, hz, hk⟩, stp⟩ := hr T hT X
  have hv' : v = r.map (sk_cv (b0, b1, x')) := by cases hv; rfl
  subst hv'
  rw [h0] at hz hk
  have hal : s0.vm.Alike t.vm := by rw [← e2]; exact X'.warmed.alike
  obtain ⟨t2, a1, b2⟩ := kk p e s0 m args below meth c T'.heap (locs ++ Lf) (b0, b1, x') D kc la hH ⟨hE.1, rfl, hE.2.2⟩ (by rw [e1]; exact hR'.moved hal.symm)
    ⟨Nat.le_trans hS.1 (by rw [e1]; exact hz), fun q h1 h2 => by rw [e1, hk q (Nat.lt_of_lt_of_le h1 hS.1) h2]; exact hS.2.1 q h1 h2, fun q hq => by
      rcases List.mem_append.mp hq with h | h
      · exact hS.2.2 q h
      · exact hLf q h⟩ hB (sx_LR hL) T' rfl X'
  refine ⟨t2, stp t2 ?_, b2⟩
  have e3 : (r.toList ++ rest).map (sk_cv (b0, b1, x')) = (r.map (sk_cv (b0, b1, x'))).toList ++ rest.map (sk_cv (b0, b1, x)) := by
    rw [sx_cv (x := x) (y := x')]
    cases r <;> simp
  rw [e3] at a1
  exact a1
theorem sx_callS {μ' : sk_MI} {dp idx : Nat} {as : List sk_AV} {r : Option sk_AV} {d' : sk_D} {x' : sk_X} {n : Nat} (pc' : Nat) (hM : sx_M l dp μ' as d x r d' x' L xs) (hd : decode μ.2.1 pc = .ok (.invokestatic idx, 3)) (hp : pc + 3 = pc') (hk : sk_lkS μ.1.cls idx μ' n) (hn : as.length = n) (hr : sk_rmok dp μ' R cn sn) (h8 : sk_cat8 st ≤ 8)
    (kk : sx_G l R μ E0 Z0 x' L xs (cn + μ'.2.2.2.2.1) (sn + μ'.2.2.2.2.2) pc' ls (r.toList ++ st) d') : sx_G l R μ E0 Z0 x L xs cn sn pc ls (as.reverse ++ st) d := by
  subst hp
  intro p e s0 m args below meth c H locs bb D kc la hH hE hR hS hB hL
  obtain ⟨b0, b1, x0⟩ := bb
  have hx : x0 = x := hE.2.1
  subst hx
  obtain ⟨⟨k1, k2, k3⟩, w1, w2, w4, w5⟩ := hk
  have hts := hH.2.2.2.2.2.1
  have hst : ((as.reverse ++ st).map (sk_cv (b0, b1, x0))) = (as.map (sk_cv (b0, b1, x0))).reverse ++ st.map (sk_cv (b0, b1, x0)) := by
    rw [List.map_append, List.map_reverse]
  rw [hst]
  refine sx_after (rest := st) (va_runS (Ts := sk_tg) (own := μ.1.cls) (As := as.map (sk_cv (b0, b1, x0))) ⟨hH.1, hH.2.1, hH.2.2.2.1, hH.2.2.2.2.1, hts⟩ (hM b0 b1 D kc) ⟨callB_of n hts (sk_good_wm w5) rfl rfl rfl (hts _ w4) (hts _ w1) ⟨k1, k2, k3⟩ ⟨hr.1, hr.2.1⟩, hts _ w2⟩ ⟨sx_blind, sx_pre hH hE hR hS hB⟩ rfl (by rw [List.length_map]; exact hn) hL.1 rfl (by show 2 * 0 + _ ≤ 8; rw [sk_cat8_eq]; omega) hd hr.2.2) hH hE hS hB hL kk
set_option maxHeartbeats 4000000 in
/-- a contract out of the walk from the entry -/
theorem sx_enter {dp : Nat} {as : List sk_AV} {r : Option sk_AV} {d' : sk_D} {x' : sk_X} (hpl : plainName μ.1.cls = true) (hn : ∀ bb, (lg_sl (as.map (sk_cv bb))).length ≤ μ.2.2.1) (hl0 : (sk_l0 as).length ≤ μ.2.2.1)
    (k : sx_G l (sk_rm dp μ.2.2.2.2.1 μ.2.2.2.2.2) μ sx_T (sx_Zm μ r d' x') x L xs 0 0 0 (sk_l0 as ++ List.replicate (μ.2.2.1 - (sk_l0 as).length) none) [] d) : sx_M l dp μ as d x r d' x' L xs := by
  intro b0 b1 D kc
  refine Met.ofW (cc := μ.2.1) (maxL := μ.2.2.1) (ret := μ.2.2.2.1) hpl rfl ?_
  intro p e s m args below meth c s₁ B hml hv
  obtain ⟨rfl, hN, hR, hbb, hX, hlt⟩ := hv
  have hts := atoms_spec (ws := sk_wm μ) B.pre
  have hl := lv_entry (as.map (sk_cv (b0, b1, x))) (n := μ.2.2.1) (hn _)
  rw [lg_entry_eq]
  refine k p e s m _ below meth c s.heap [] (b0, b1, x) D kc _ ⟨B.exec, B.bytes, B.returns, hml, findClass_of_methodNamed B.named, fun w hw => hts w (List.mem_cons_of_mem _ hw), B.notSynchronized, (name_of_methodNamed B.named B.method).1, hN⟩ ⟨trivial, rfl, hX, hlt⟩ hR va_S.rf hbb ⟨hl.1, hl.2.1, by rw [List.length_append, List.length_replicate]; omega, ?_⟩
  intro i v hi
  by_cases hlt : i < (sk_l0 as).length
  · rw [List.getElem?_append_left hlt] at hi
    have := hl.2.2 _ (by simpa using sk_l0_args (b0, b1, x) as 0 i v hi)
    exact this
  · rw [List.getElem?_append_right (by omega)] at hi
    have := List.mem_of_getElem? hi
    rw [List.mem_replicate] at this
    cases this.2
theorem sx_iret {v : Int32} {x' : sk_X} (hx : x' = x) (hd : decode μ.2.1 pc = .ok (.ireturn, 1)) {ty : FieldType} (hr : μ.2.2.2.1 = some ty) (hn : narrow ty (.int v) = .int v) (h1 : cn ≤ μ.2.2.2.2.1) (h2 : sn ≤ μ.2.2.2.2.2) : sx_G l R μ E0 (sx_Zm μ (some (.inl v)) d x') x L xs cn sn pc ls [.inl v] d := by
  subst hx
  intro p e s0 m args below meth c H locs bb D kc la hH hE hR hS hB hL
  obtain ⟨b0, b1, x0⟩ := bb
  have hx : x0 = x' := hE.2.1
  subst hx
  exact W.widen h1 h2 (W.zret hH.1 hH.2.1 (hH.2.2.1.trans hr) hn (fun t ht hW => ⟨⟨rfl, by rw [ht]; exact hR.moved hW.alike⟩, hS.F ht⟩) hS.2.2 hd hH.2.2.2.2.2.2.1)
theorem sx_vret {x' : sk_X} (hx : x' = x) (hd : decode μ.2.1 pc = .ok (.return_, 1)) (hr : μ.2.2.2.1 = none) (h1 : cn ≤ μ.2.2.2.2.1) (h2 : sn ≤ μ.2.2.2.2.2) : sx_G l R μ E0 (sx_Zm μ none d x') x L xs cn sn pc ls [] d := by
  subst hx
  intro p e s0 m args below meth c H locs bb D kc la hH hE hR hS hB hL
  obtain ⟨b0, b1, x0⟩ := bb
  have hx : x0 = x' := hE.2.1
  subst hx
  exact W.widen h1 h2 (W.vret hH.1 hH.2.1 (hH.2.2.1.trans hr) (fun t ht hW => ⟨⟨rfl, by rw [ht]; exact hR.moved hW.alike⟩, hS.F ht⟩) hS.2.2 hd hH.2.2.2.2.2.2.1)
/-! the law's budget: as many cells as it has made rows since x0, 64 slots each -/
theorem sx_newB {c0 s0 x0 mc : Nat} {n : Int32} {N : Nat} (pc' : Nat) (hd : decode μ.2.1 pc = .ok (.newarray .int, 2)) (hp : pc + 2 = pc') (hn : ¬ n < 0) (hN : n.toNatClampNeg = N) (h64 : N ≤ 64) (hI : x0 ≤ x.1 ∧ x.1 ≤ x0 + mc) (hlt : x.1 < x0 + mc) (hc : c0 + mc ≤ R.cells) (hsl : s0 + 64 * mc ≤ R.slots)
    (kk : (x0 ≤ (xn x N).1 ∧ (xn x N).1 ≤ x0 + mc) → sx_G l R μ E0 Z0 (xn x N) L xs (c0 + ((xn x N).1 - x0)) (s0 + 64 * ((xn x N).1 - x0)) pc' ls (.inr (.inr (some (9998, x.1))) :: st) d) : sx_G l R μ E0 Z0 x L xs (c0 + (x.1 - x0)) (s0 + 64 * (x.1 - x0)) pc ls (.inl n :: st) d := by
  refine sx_new pc' hd hp hn hN (by omega) (by omega) (by omega) ?_
  refine sk_widen ?_ ?_ (kk ⟨?_, ?_⟩)
  · show c0 + (x.1 - x0) + 1 ≤ c0 + (x.1 + 1 - x0)
    omega
  · show s0 + 64 * (x.1 - x0) + N ≤ s0 + 64 * (x.1 + 1 - x0)
    omega
  · show x0 ≤ x.1 + 1
    omega
  · show x.1 + 1 ≤ x0 + mc
    omega
theorem sx_callB {c0 s0 x0 mc : Nat} {μ' : sk_MI} {dp idx : Nat} {as : List sk_AV} {r : Option sk_AV} {d' : sk_D} {x' : sk_X} {n : Nat} (pc' : Nat) (hM : sx_M l dp μ' as d x r d' x' L xs) (hd : decode μ.2.1 pc = .ok (.invokestatic idx, 3)) (hp : pc + 3 = pc') (hk : sk_lkS μ.1.cls idx μ' n) (hn : as.length = n) (h8 : sk_cat8 st ≤ 8) (hI : x0 ≤ x.1 ∧ x.1 ≤ x0 + mc) (hs : μ'.2.2.2.2.2 = 64 * μ'.2.2.2.2.1) (hx : x'.1 = x.1 + μ'.2.2.2.2.1) (hle : x'.1 ≤ x0 + mc) (hR1 : dp + 1 ≤ R.frames) (hR2 : 8 + (μ'.2.2.1 + 11) + 60 * dp ≤ R.locals) (hc : c0 + mc ≤ R.cells) (hsl : s0 + 64 * mc ≤ R.slots)
    (kk : (x0 ≤ x'.1 ∧ x'.1 ≤ x0 + mc) → sx_G l R μ E0 Z0 x' L xs (c0 + (x'.1 - x0)) (s0 + 64 * (x'.1 - x0)) pc' ls (r.toList ++ st) d') : sx_G l R μ E0 Z0 x L xs (c0 + (x.1 - x0)) (s0 + 64 * (x.1 - x0)) pc ls (as.reverse ++ st) d := by
  refine sx_callS pc' hM hd hp hk hn ⟨hR1, hR2, by omega, by omega⟩ h8 ?_
  exact sk_widen (by omega) (by omega) (kk ⟨by omega, hle⟩)
theorem sx_rk {c0 s0 x0 mc dp : Nat} {μ' : sk_MI} (hI : x0 ≤ x.1 ∧ x.1 ≤ x0 + mc) (hR1 : dp + 1 ≤ R.frames) (hR2 : 8 + (μ'.2.2.1 + 11) + 60 * dp ≤ R.locals) (hc : c0 + mc ≤ R.cells) (hsl : s0 + 64 * mc ≤ R.slots) (hz : μ'.2.2.2.2 = (0, 0)) : sk_rmok dp μ' R (c0 + (x.1 - x0)) (s0 + 64 * (x.1 - x0)) := by
  refine ⟨hR1, hR2, ?_, ?_⟩
  · rw [hz]
    show _ + 0 ≤ _
    omega
  · rw [hz]
    show _ + 0 ≤ _
    omega
end SXR
