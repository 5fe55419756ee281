/-! THE ENGINE: an abstract machine over numbered cells; sk_G says of an abstract state that the machine, in any state that holds it, comes to its end -/
abbrev sk_AV : Type := Int32 ⊕ Int64 ⊕ Option (Nat × Nat)
/-- cells made so far, whole numbers by (site, index, place), longs, references -/
abbrev sk_Mem : Type := Nat × (Nat → Nat → Nat → Int32) × (Nat → Nat → Nat → Int64) × (Nat → Nat → Nat → Option (Nat × Nat))
/-- the law's own rows of whole numbers: how many, how long, what they hold *** the run's place: first cell of the run, the script's cell, the law's rows -/
abbrev sk_X : Type := Nat × (Nat → Nat) × (Nat → Nat → Int32)
abbrev sk_BB : Type := Nat × Nat × sk_X
/-- a method: name, code, locals, answer, cells and slots that it makes -/
abbrev sk_MI : Type := MethodName × ByteArray × Nat × Option FieldType × Nat × Nat
def sk_tg : List Cond := lw_tbl.filter goodWord
theorem sk_in {w : Cond} (i : Nat) (h : lw_tbl[i]? = some w) (hg : goodWord w = true) : w ∈ sk_tg := List.mem_filter.mpr ⟨List.mem_of_getElem? h, hg⟩
theorem sk_tg_good {w : Cond} (h : w ∈ sk_tg) : (w.onTables && w.keeps) = true ∨ ∃ ty, w = .arrayClass ty := good_of_word (List.mem_filter.mp h).2
/-- words that a call doesn't keep by itself: nest mates' links, classes of arrays of references -/
def sk_nest : Cond → Bool
  | .methodLinkNest _ _ _ _ => true
  | .arrayOver _ => true
  | _ => false
theorem sk_ov {ty : FieldType} {s U : State} (h : (Cond.arrayOver ty).before #[] (s.setVm U.vm) = true) : va_Nw (.arrayOver ty) U := h
theorem sk_ovW {ty : FieldType} {s U : State} (hW : s.WarmedH U.vm) (h : va_Nw (.arrayOver ty) s) : va_Nw (.arrayOver ty) U := sk_ov (s := s) (by rw [Cond.arrayOver_setVmC hW.alike]; exact h)
theorem sk_ovS {ty : FieldType} {s U : State} (hv : s.vm = U.vm) (h : va_Nw (.arrayOver ty) s) : va_Nw (.arrayOver ty) U := sk_ov (s := s) (by rw [← hv]; exact h)
def sk_Nx (U : State) : Prop := ∀ w ∈ tables_1.filter sk_nest, va_Nw w U
theorem sk_Nx.warm {s U : State} (hW : s.WarmedH U.vm) (h : sk_Nx s) : sk_Nx U := fun w hw => by
  have h1 := h w hw
  have h2 := (List.mem_filter.mp hw).2
  cases w <;> first | exact va_Nw.warmM hW h1 | exact sk_ovW hW h1 | (simp [sk_nest] at h2; done)
theorem sk_Nx.same {s U : State} (hv : s.vm = U.vm) (h : sk_Nx s) : sk_Nx U := fun w hw => by
  have h1 := h w hw
  have h2 := (List.mem_filter.mp hw).2
  cases w <;> first | exact va_Nw.same rfl hv h1 | exact sk_ovS hv h1 | (simp [sk_nest] at h2; done)
/-- addresses: the cells of the run lie from bb.1 on in the order of sk_refL; the script is at bb.2 -/
def sk_ad (bb : sk_BB) (a : Nat × Nat) : Nat := if a.1 = 9999 then bb.2.1 else if a.1 = 9998 then bb.1 + (sk_N0 + a.2) else bb.1 + sk_ord a.1 a.2
def sk_cv (bb : sk_BB) : sk_AV → Value
  | .inl x => .int x
  | .inr (.inl x) => .long x
  | .inr (.inr none) => .null
  | .inr (.inr (some a)) => .ref (sk_ad bb a)
def sk_ro (bb : sk_BB) (o : Option (Nat × Nat)) : Option Nat := o.map (sk_ad bb)
def sk_fv (bb : sk_BB) (h : sk_Mem) (s k ci f : Nat) : Value := if sk_fr ci f = true then va_rf (sk_ro bb (h.2.2.2 s k f)) else .int (h.2.1 s k f)
def sk_ce (kc : Nat → ClassId) (bb : sk_BB) (h : sk_Mem) (a : Nat × Nat) : va_E := match sk_shp a.1 with
  | .inl ci => .inr (ci, (List.range (sk_fn ci)).map (sk_fv bb h a.1 a.2 ci))
  | .inr (kd, n) => .inl (kc kd, n, if kd = 1 then .inr (.inl (h.2.2.1 a.1 a.2)) else if 4 ≤ kd then .inr (.inr (.inr (.inr (fun j => sk_ro bb (h.2.2.2 a.1 a.2 j))))) else .inl (h.2.1 a.1 a.2))
def sk_wc (kc : Nat → ClassId) (bb : sk_BB) (h : sk_Mem) : va_W := (List.range h.1).map (fun i => (bb.1 + i, sk_ce kc bb h (sk_ref i)))
def sk_xc (kc : Nat → ClassId) (bb : sk_BB) (i : Nat) : Nat × va_E := (bb.1 + (sk_N0 + i), .inl (kc 0, bb.2.2.2.1 i, .inl (bb.2.2.2.2 i)))
def sk_wx (kc : Nat → ClassId) (bb : sk_BB) : va_W := (List.range bb.2.2.1).map (sk_xc kc bb)
def sk_ws (kc : Nat → ClassId) (bb : sk_BB) (h : sk_Mem) : va_W := sk_wc kc bb h ++ sk_wx kc bb
theorem sk_wc_len {kc : Nat → ClassId} {bb : sk_BB} {h : sk_Mem} : (sk_wc kc bb h).length = h.1 := by unfold sk_wc; rw [List.length_map, List.length_range]
theorem sk_wx_len {kc : Nat → ClassId} {bb : sk_BB} : (sk_wx kc bb).length = bb.2.2.1 := by unfold sk_wx; rw [List.length_map, List.length_range]
theorem sk_ws_len {kc : Nat → ClassId} {bb : sk_BB} {h : sk_Mem} : (sk_ws kc bb h).length = h.1 + bb.2.2.1 := by unfold sk_ws; rw [List.length_append, sk_wc_len, sk_wx_len]
theorem sk_ws_c {kc : Nat → ClassId} {bb : sk_BB} {h : sk_Mem} (h0 : bb.2.2.1 = 0) : sk_ws kc bb h = sk_wc kc bb h := by
  unfold sk_ws sk_wx
  rw [h0]
  exact List.append_nil _
theorem sk_ws_x {kc : Nat → ClassId} {bb : sk_BB} {h : sk_Mem} {i : Nat} (hi : i < bb.2.2.1) : (sk_ws kc bb h)[h.1 + i]? = some (sk_xc kc bb i) := by
  unfold sk_ws
  rw [List.getElem?_append_right (by rw [sk_wc_len]; omega), sk_wc_len, Nat.add_sub_cancel_left]
  unfold sk_wx
  rw [List.getElem?_map, List.getElem?_range hi]
  rfl
/-- a cell that stands -/
def sk_lv (h : sk_Mem) (s k : Nat) : Prop := sk_ref (sk_ord s k) = (s, k) ∧ sk_ord s k < h.1 ∧ s < 9000
def sk_kt : Nat → FieldType
  | 0 => .int
  | 1 => .long
  | 2 => .boolean
  | 3 => .char
  | 4 => .array .int
  | 5 => .object "SkiSchool$Pupil"
  | 6 => .object "SkiSchool$Group"
  | 7 => .object "SkiSchool$Instructor"
  | _ => .object "SkiSchool$Lift"
def sk_ty (kc : Nat → ClassId) : List (ClassId × FieldType) := (List.range 9).map (fun i => (kc i, sk_kt i))
theorem sk_ty_at {kc : Nat → ClassId} {k : Nat} (h : k < 9) : (sk_ty kc)[k]? = some (kc k, sk_kt k) := by
  unfold sk_ty
  rw [List.getElem?_map, List.getElem?_range h]
  rfl
theorem sk_ad_c {bb : sk_BB} {s k : Nat} (h : s < 9000) : sk_ad bb (s, k) = bb.1 + sk_ord s k := by
  unfold sk_ad
  rw [if_neg (by omega), if_neg (by omega)]
theorem sk_ad_x {bb : sk_BB} {k : Nat} : sk_ad bb (9998, k) = bb.1 + (sk_N0 + k) := by
  unfold sk_ad
  rw [if_neg (fun h => absurd h (show ¬ (9998 : Nat) = 9999 by decide)), if_pos rfl]
theorem sk_ws_at {kc : Nat → ClassId} {bb : sk_BB} {h : sk_Mem} {s k : Nat} (hl : sk_lv h s k) : (sk_ws kc bb h)[sk_ord s k]? = some (sk_ad bb (s, k), sk_ce kc bb h (s, k)) := by
  unfold sk_ws
  rw [List.getElem?_append_left (by rw [sk_wc_len]; exact hl.2.1)]
  unfold sk_wc
  rw [List.getElem?_map, List.getElem?_range hl.2.1]
  show some (bb.1 + sk_ord s k, sk_ce kc bb h (sk_ref (sk_ord s k))) = _
  rw [hl.1, sk_ad_c hl.2.2]
theorem sk_ws_D {kc : Nat → ClassId} {bb : sk_BB} {h : sk_Mem} (hN : h.1 ≤ sk_N0) : va_D (fun q => bb.1 ≤ q) (sk_ws kc bb h) := by
  have key : ∀ (k : Nat) (q : Nat × va_E), (sk_ws kc bb h)[k]? = some q → (k < h.1 ∧ q.1 = bb.1 + k) ∨ (h.1 ≤ k ∧ q.1 = bb.1 + (sk_N0 + (k - h.1))) := by
    intro k q hk
    by_cases hc : k < h.1
    · left
      refine ⟨hc, ?_⟩
      unfold sk_ws at hk
      rw [List.getElem?_append_left (by rw [sk_wc_len]; exact hc)] at hk
      unfold sk_wc at hk
      rw [List.getElem?_map, List.getElem?_range hc] at hk
      cases hk
      rfl
    · right
      refine ⟨by omega, ?_⟩
      unfold sk_ws at hk
      rw [List.getElem?_append_right (by rw [sk_wc_len]; omega), sk_wc_len] at hk
      unfold sk_wx at hk
      rw [List.getElem?_map] at hk
      cases hr : (List.range bb.2.2.1)[k - h.1]? with
      | none => rw [hr] at hk; cases hk
      | some j =>
        rw [hr] at hk
        cases hk
        obtain ⟨h1, h2⟩ := List.getElem?_eq_some_iff.mp hr
        rw [List.getElem_range] at h2
        rw [h2]
        rfl
  refine ⟨fun i j p q hi hj hpq => ?_, fun k q hk => ?_⟩
  · have h1 := key i p hi
    have h2 := key j q hj
    omega
  · have := key k q hk
    show bb.1 ≤ q.1
    omega
theorem sk_wc_set {kc : Nat → ClassId} {bb : sk_BB} {h h' : sk_Mem} {s k : Nat} (hl : sk_lv h s k) (h1 : h'.1 = h.1) (hN : h.1 ≤ sk_N0) (ho : ∀ a : Nat × Nat, a ≠ (s, k) → sk_ce kc bb h' a = sk_ce kc bb h a) :
    (sk_wc kc bb h).set (sk_ord s k) (sk_ad bb (s, k), sk_ce kc bb h' (s, k)) = sk_wc kc bb h' := by
  apply List.ext_getElem?
  intro i
  by_cases hi : i = sk_ord s k
  · subst hi
    rw [List.getElem?_set_self (by rw [sk_wc_len]; exact hl.2.1)]
    unfold sk_wc
    rw [List.getElem?_map, List.getElem?_range (by rw [h1]; exact hl.2.1)]
    show _ = some (bb.1 + sk_ord s k, sk_ce kc bb h' (sk_ref (sk_ord s k)))
    rw [hl.1, sk_ad_c hl.2.2]
  · rw [List.getElem?_set_ne (Ne.symm hi)]
    unfold sk_wc
    rw [h1, List.getElem?_map, List.getElem?_map]
    by_cases hlt : i < h.1
    · rw [List.getElem?_range hlt]
      show some (bb.1 + i, sk_ce kc bb h (sk_ref i)) = some (bb.1 + i, sk_ce kc bb h' (sk_ref i))
      rw [ho]
      intro e
      have h3 := sk_ord_ref (Nat.lt_of_lt_of_le hlt hN)
      rw [e] at h3
      exact hi h3.symm
    · rw [List.getElem?_eq_none (by rw [List.length_range]; omega)]
      rfl
theorem sk_ws_set {kc : Nat → ClassId} {bb : sk_BB} {h h' : sk_Mem} {s k : Nat} (hl : sk_lv h s k) (h1 : h'.1 = h.1) (hN : h.1 ≤ sk_N0) (ho : ∀ a : Nat × Nat, a ≠ (s, k) → sk_ce kc bb h' a = sk_ce kc bb h a) :
    (sk_ws kc bb h).set (sk_ord s k) (sk_ad bb (s, k), sk_ce kc bb h' (s, k)) = sk_ws kc bb h' := by
  unfold sk_ws
  rw [List.set_append_left _ _ (by rw [sk_wc_len]; exact hl.2.1), sk_wc_set hl h1 hN ho]
/-- the heap holds the memory -/
def sk_RH (bb : sk_BB) (D : va_G) (kc : Nat → ClassId) (h : sk_Mem) (s : State) (H : Heap) : Prop := va_K D vwCl (sk_ty kc) s ∧ (H.size = bb.1 + h.1 + bb.2.2.1 ∧ (h.1 < sk_N0 → bb.2.2.1 = 0)) ∧ h.1 ≤ sk_N0 ∧ va_P D vwCl (sk_ws kc bb h) H
def sk_LR (bb : sk_BB) (la : Array Slot) (nL : Nat) (ls : List (Option sk_AV)) : Prop := la.size = nL ∧ lv_wf la ∧ ls.length = nL ∧ ∀ (i : Nat) (v : sk_AV), ls[i]? = some (some v) → la[i]? = some (.val (sk_cv bb v))
def sk_Hd (p : Program) (s : State) (m : MethodId) (args : Array Value) (meth : Method) (c : Code) (μ : sk_MI) : Prop :=
  p.tables.exec = Jvm.exec ∧ c.code = μ.2.1 ∧ meth.sig.returnType = μ.2.2.2.1 ∧ c.maxLocals = μ.2.2.1 ∧ s.vm.findClass μ.1.cls = some m.cls ∧ (∀ w ∈ sk_tg, w.before args s = true) ∧ meth.locks = false ∧ meth.name = μ.1.name ∧ sk_Nx s
theorem sk_RH.sz {bb : sk_BB} {D : va_G} {kc : Nat → ClassId} {h : sk_Mem} {s : State} {H : Heap} (hR : sk_RH bb D kc h s H) (ht : h.1 < sk_N0) : H.size = bb.1 + h.1 := by
  have := hR.2.1.1
  have := hR.2.1.2 ht
  omega
abbrev sk_EX : Type := State → Array Value → sk_BB → Prop
abbrev sk_ZZ : Type := State → Array Value → List Frame → sk_BB → va_G → (Nat → ClassId) → State → Prop
def sk_G (l : Launch) (R : Room) (μ : sk_MI) (Ex : sk_EX) (Z : sk_ZZ) (cn sn pc : Nat) (ls : List (Option sk_AV)) (st : List sk_AV) (h : sk_Mem) : Prop :=
  ∀ (p : Program) (e : Env) (s : State) (m : MethodId) (args : Array Value) (below : List Frame) (meth : Method) (c : Code) (H : Heap) (locs : List Loc) (bb : sk_BB) (D : va_G) (kc : Nat → ClassId) (la : Array Slot),
    sk_Hd p s m args meth c μ → Ex s args bb → sk_RH bb D kc h s H → va_S (fun q => bb.1 ≤ q) s.heap H locs → bb.1 ≤ s.heap.size → sk_LR bb la μ.2.2.1 ls →
    W p l e R s m args below meth c H locs cn sn (Z s args below bb D kc) (F0 m pc la (st.map (sk_cv bb)))
def sk_Qc (bb : sk_BB) (D : va_G) (kc : Nat → ClassId) (r : Option sk_AV) (h' : sk_Mem) : Array Value → State → Outcome → State → Prop := fun _ st o t =>
  (o = .returned (r.map (sk_cv bb)) ∧ sk_RH bb D kc h' t t.heap) ∧ va_F (fun q => bb.1 ≤ q) st t
def sk_Pc (bb : sk_BB) (D : va_G) (kc : Nat → ClassId) (as : List sk_AV) (h : sk_Mem) : Array Value → State → Prop :=
  va_Pc (as.map (sk_cv bb)) (fun U => sk_Nx U ∧ sk_RH bb D kc h U U.heap ∧ bb.1 ≤ U.heap.size)
def sk_rm (dp mc ms : Nat) : Room := { frames := dp, cells := mc, slots := ms, locals := 60 * dp }
def sk_wm (μ : sk_MI) : List Cond := .code μ.1 μ.2.1 μ.2.2.1 μ.2.2.2.1 :: sk_tg
/-- a method's contract: from as and h it comes back with r and h' -/
def sk_M (l : Launch) (dp : Nat) (μ : sk_MI) (as : List sk_AV) (h : sk_Mem) (r : Option sk_AV) (h' : sk_Mem) : Prop :=
  ∀ (bb : sk_BB) (D : va_G) (kc : Nat → ClassId), Met l μ.1 (sk_wm μ) (sk_rm dp μ.2.2.2.2.1 μ.2.2.2.2.2) (sk_Pc bb D kc as h) (sk_Qc bb D kc r h') μ.2.2.2.2.1 μ.2.2.2.2.2 (fun q => bb.1 ≤ q)
def sk_Ex0 : sk_EX := fun _ _ _ => True
def sk_Zm (μ : sk_MI) (r : Option sk_AV) (h' : sk_Mem) : sk_ZZ := fun s args below bb D kc => MQ below (sk_Qc bb D kc r h') args s μ.2.2.2.2.1 μ.2.2.2.2.2 (fun q => bb.1 ≤ q)
theorem sk_RH.moved {bb : sk_BB} {D : va_G} {kc : Nat → ClassId} {h : sk_Mem} {u U : State} {H : Heap} (hvm : u.vm.Alike U.vm) (hR : sk_RH bb D kc h u H) : sk_RH bb D kc h U H := ⟨va_K.moved hvm hR.1, hR.2⟩
/-- the locals at a method's entry -/
def sk_l0 : List sk_AV → List (Option sk_AV)
  | [] => []
  | .inr (.inl x) :: vs => some (.inr (.inl x)) :: none :: sk_l0 vs
  | v :: vs => some v :: sk_l0 vs
theorem sk_l0_args (bb : sk_BB) : ∀ (as : List sk_AV) (j i : Nat) (v : sk_AV), (sk_l0 as)[i]? = some (some v) → (j + i, sk_cv bb v) ∈ lv_args j (as.map (sk_cv bb))
  | [], j, i, v, h => by simp [sk_l0] at h
  | .inl x :: vs, j, i, v, h => by
    cases i with
    | zero =>
      simp [sk_l0] at h
      subst h
      exact List.mem_cons_self
    | succ i =>
      have h' : (sk_l0 vs)[i]? = some (some v) := by simpa [sk_l0] using h
      have := sk_l0_args bb vs (j + 1) i v h'
      refine List.mem_cons_of_mem _ ?_
      show _ ∈ lv_args (j + 1) _
      rw [show j + (i + 1) = j + 1 + i by omega]
      exact this
  | .inr (.inl x) :: vs, j, i, v, h => by
    match i, h with
    | 0, h =>
      simp [sk_l0] at h
      subst h
      exact List.mem_cons_self
    | 1, h => simp [sk_l0] at h
    | i + 2, h =>
      have h' : (sk_l0 vs)[i]? = some (some v) := by simpa [sk_l0] using h
      have := sk_l0_args bb vs (j + 2) i v h'
      refine List.mem_cons_of_mem _ ?_
      show _ ∈ lv_args (j + 2) _
      rw [show j + (i + 2) = j + 2 + i by omega]
      exact this
  | .inr (.inr o) :: vs, j, i, v, h => by
    cases i with
    | zero =>
      simp [sk_l0] at h
      subst h
      exact List.mem_cons_self
    | succ i =>
      have h' : (sk_l0 vs)[i]? = some (some v) := by simpa [sk_l0] using h
      have := sk_l0_args bb vs (j + 1) i v h'
      refine List.mem_cons_of_mem _ ?_
      have e : (if (sk_cv bb (.inr (.inr o))).category = 2 then j + 2 else j + 1) = j + 1 := by
        cases o <;> rfl
      show _ ∈ lv_args (if (sk_cv bb (.inr (.inr o))).category = 2 then j + 2 else j + 1) _
      rw [e, show j + (i + 1) = j + 1 + i by omega]
      exact this
set_option maxHeartbeats 4000000 in
/-- a contract out of the walk from the entry -/
theorem sk_enter {l : Launch} {dp : Nat} {μ : sk_MI} {as : List sk_AV} {h : sk_Mem} {r : Option sk_AV} {h' : sk_Mem} (hpl : plainName μ.1.cls = true) (hn : ∀ bb, (lg_sl (as.map (sk_cv bb))).length ≤ μ.2.2.1) (hl0 : (sk_l0 as).length ≤ μ.2.2.1)
    (k : sk_G l (sk_rm dp μ.2.2.2.2.1 μ.2.2.2.2.2) μ sk_Ex0 (sk_Zm μ r h') 0 0 0 (sk_l0 as ++ List.replicate (μ.2.2.1 - (sk_l0 as).length) none) [] h) : sk_M l dp μ as h r h' := by
  intro bb D kc
  refine Met.ofW (cc := μ.2.1) (maxL := μ.2.2.1) (ret := μ.2.2.2.1) hpl rfl ?_
  intro p e s m args below meth c s₁ B hml hv
  obtain ⟨rfl, hN, hR, hbb⟩ := hv
  have hts := atoms_spec (ws := sk_wm μ) B.pre
  have hl := lv_entry (as.map (sk_cv bb)) (n := μ.2.2.1) (hn bb)
  rw [lg_entry_eq]
  refine k p e s m _ below meth c s.heap [] bb D kc _ ⟨B.exec, B.bytes, B.returns, hml, findClass_of_methodNamed B.named, fun w hw => hts w (List.mem_cons_of_mem _ hw), B.notSynchronized, (name_of_methodNamed B.named B.method).1, hN⟩ trivial hR va_S.rf hbb ⟨hl.1, hl.2.1, by rw [List.length_append, List.length_replicate]; omega, ?_⟩
  intro i v hi
  by_cases hlt : i < (sk_l0 as).length
  · rw [List.getElem?_append_left hlt] at hi
    have := hl.2.2 _ (by simpa using sk_l0_args bb as 0 i v hi)
    exact this
  · rw [List.getElem?_append_right (by omega)] at hi
    have := List.mem_of_getElem? hi
    rw [List.mem_replicate] at this
    cases this.2
