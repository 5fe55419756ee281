theorem sk_sub {ws : List Cond} (ps : List Nat) (hp : ws = ps.filterMap (fun i => lw_tbl[i]?)) (hg : ws.all goodWord = true) : ∀ w ∈ ws, w ∈ sk_tg := by
  intro w hw
  have h1 := List.all_eq_true.mp hg w hw
  rw [hp] at hw
  obtain ⟨i, -, hi⟩ := List.mem_filterMap.mp hw
  exact sk_in i hi h1
theorem sk_c0 : ∀ w ∈ wsX00, w ∈ sk_tg := sk_sub [288, 290, 292, 294, 296, 298, 300, 302, 304, 306, 308] (by decide +kernel) (by decide +kernel)
theorem sk_c1 : ∀ w ∈ wsX10, w ∈ sk_tg := sk_sub [327, 329, 331, 333, 335, 337] (by decide +kernel) (by decide +kernel)
theorem sk_c2 : ∀ w ∈ wsX20, w ∈ sk_tg := sk_sub [357, 359, 361, 363, 365] (by decide +kernel) (by decide +kernel)
theorem sk_c3 : ∀ w ∈ wsX30, w ∈ sk_tg := sk_sub [79, 81, 83, 85, 87, 89, 91, 93, 95, 97, 99, 101, 103] (by decide +kernel) (by decide +kernel)
theorem sk_c4 : ∀ w ∈ wsX40, w ∈ sk_tg := sk_sub [239, 241, 243, 245, 247, 249, 251] (by decide +kernel) (by decide +kernel)
theorem sk_c5 : ∀ w ∈ wsX50, w ∈ sk_tg := sk_sub [193, 195, 197, 199, 201, 203, 205, 207, 209, 211, 213, 215] (by decide +kernel) (by decide +kernel)
theorem sk_c6 : ∀ w ∈ wsX60, w ∈ sk_tg := sk_sub [154, 156, 158, 160, 162, 164, 166, 168, 170, 172] (by decide +kernel) (by decide +kernel)
theorem sk_c7 : ∀ w ∈ wsX70, w ∈ sk_tg := sk_sub [122, 124, 126, 128] (by decide +kernel) (by decide +kernel)
theorem sk_c8 : ∀ w ∈ wsX80, w ∈ sk_tg := sk_sub [382, 384, 386, 388, 390, 392, 394, 396, 398, 400, 402, 404, 406, 408] (by decide +kernel) (by decide +kernel)
def sk_CF (ci : Nat) (q : vw_C) : Prop := (∀ w ∈ u_ws q.1 q.2.1 q.2.2, w ∈ sk_tg) ∧ q.2.2 = sk_fn ci ∧ (∀ a, a < q.2.2 → ∀ b, b < q.2.2 → a ≠ b → (q.2.1 a).2.1 ≠ (q.2.1 b).2.1) ∧ ∃ ty : Nat → FieldType, (∀ k, k < q.2.2 → parseFieldDescriptor (q.2.1 k).2.2.1 = some (ty k)) ∧ ∀ k, k < q.2.2 → (ty k).isReference = sk_fr ci k
theorem sk_cl : ∀ (ci : Nat) (q : vw_C), vwCl[ci]? = some q → sk_CF ci q := by
  intro ci q h
  match ci, h with
  | 0, h => cases h; exact ⟨sk_c0, rfl, nmX0, tyX0, tyX0_ok, by decide +kernel⟩
  | 1, h => cases h; exact ⟨sk_c1, rfl, nmX1, tyX1, tyX1_ok, by decide +kernel⟩
  | 2, h => cases h; exact ⟨sk_c2, rfl, nmX2, tyX2, tyX2_ok, by decide +kernel⟩
  | 3, h => cases h; exact ⟨sk_c3, rfl, nmX3, tyX3, tyX3_ok, by decide +kernel⟩
  | 4, h => cases h; exact ⟨sk_c4, rfl, nmX4, tyX4, tyX4_ok, by decide +kernel⟩
  | 5, h => cases h; exact ⟨sk_c5, rfl, nmX5, tyX5, tyX5_ok, by decide +kernel⟩
  | 6, h => cases h; exact ⟨sk_c6, rfl, nmX6, tyX6, tyX6_ok, by decide +kernel⟩
  | 7, h => cases h; exact ⟨sk_c7, rfl, nmX7, tyX7, tyX7_ok, by decide +kernel⟩
  | 8, h => cases h; exact ⟨sk_c8, rfl, nmX8, tyX8, tyX8_ok, by decide +kernel⟩
  | n + 9, h => simp [vwCl] at h
def sk_up {α : Type} (d : Nat → Nat → Nat → α) (s k f : Nat) (v : α) : Nat → Nat → Nat → α := fun s' k' f' => if s' = s ∧ k' = k ∧ f' = f then v else d s' k' f'
def sk_pi (h : sk_Mem) (s k f : Nat) (v : Int32) : sk_Mem := (h.1, sk_up h.2.1 s k f v, h.2.2)
def sk_pl (h : sk_Mem) (s k f : Nat) (v : Int64) : sk_Mem := (h.1, h.2.1, sk_up h.2.2.1 s k f v, h.2.2.2)
def sk_pr (h : sk_Mem) (s k f : Nat) (v : Option (Nat × Nat)) : sk_Mem := (h.1, h.2.1, h.2.2.1, sk_up h.2.2.2 s k f v)
theorem sk_up_ne {α : Type} {d : Nat → Nat → Nat → α} {s k f : Nat} {v : α} {a : Nat × Nat} (h : a ≠ (s, k)) : sk_up d s k f v a.1 a.2 = d a.1 a.2 := by
  funext j
  unfold sk_up
  rw [if_neg]
  rintro ⟨h1, h2, -⟩
  exact h (Prod.ext h1 h2)
theorem sk_up_eq {d : Nat → Nat → Nat → Int32} {s k f : Nat} {v : Int32} : sk_up d s k f v s k = upd (d s k) f v := by
  funext j
  unfold sk_up upd
  by_cases h : j = f <;> simp [h]
theorem sk_up_eqL {d : Nat → Nat → Nat → Int64} {s k f : Nat} {v : Int64} : sk_up d s k f v s k = vp_updL (d s k) f v := by
  funext j
  unfold sk_up vp_updL
  by_cases h : j = f <;> simp [h]
theorem sk_ce_pi {kc : Nat → ClassId} {bb : sk_BB} {h : sk_Mem} {s k f : Nat} {v : Int32} {a : Nat × Nat} (ha : a ≠ (s, k)) : sk_ce kc bb (sk_pi h s k f v) a = sk_ce kc bb h a := by
  have e : (sk_pi h s k f v).2.1 a.1 a.2 = h.2.1 a.1 a.2 := sk_up_ne ha
  unfold sk_ce
  cases sk_shp a.1 with
  | inl ci =>
    refine congrArg (fun l => Sum.inr (ci, l)) (List.map_congr_left fun j _ => ?_)
    unfold sk_fv
    rw [e]
    rfl
  | inr kn =>
    show Sum.inl (kc kn.1, kn.2, _) = Sum.inl (kc kn.1, kn.2, _)
    rw [e]
    rfl
theorem sk_ce_pl {kc : Nat → ClassId} {bb : sk_BB} {h : sk_Mem} {s k f : Nat} {v : Int64} {a : Nat × Nat} (ha : a ≠ (s, k)) : sk_ce kc bb (sk_pl h s k f v) a = sk_ce kc bb h a := by
  have e : (sk_pl h s k f v).2.2.1 a.1 a.2 = h.2.2.1 a.1 a.2 := sk_up_ne ha
  unfold sk_ce
  cases sk_shp a.1 with
  | inl ci => rfl
  | inr kn =>
    show Sum.inl (kc kn.1, kn.2, _) = Sum.inl (kc kn.1, kn.2, _)
    rw [e]
    rfl
theorem sk_ce_pr {kc : Nat → ClassId} {bb : sk_BB} {h : sk_Mem} {s k f : Nat} {v : Option (Nat × Nat)} {a : Nat × Nat} (ha : a ≠ (s, k)) : sk_ce kc bb (sk_pr h s k f v) a = sk_ce kc bb h a := by
  have e : (sk_pr h s k f v).2.2.2 a.1 a.2 = h.2.2.2 a.1 a.2 := sk_up_ne ha
  unfold sk_ce
  cases sk_shp a.1 with
  | inl ci =>
    refine congrArg (fun l => Sum.inr (ci, l)) (List.map_congr_left fun j _ => ?_)
    unfold sk_fv
    rw [e]
    rfl
  | inr kn =>
    show Sum.inl (kc kn.1, kn.2, _) = Sum.inl (kc kn.1, kn.2, _)
    rw [e]
    rfl
theorem sk_rset {F F' : Nat → Value} {n f : Nat} {v : Value} (h1 : F' f = v) (h2 : ∀ j, j ≠ f → F' j = F j) : ((List.range n).map F).set f v = (List.range n).map F' := by
  apply List.ext_getElem?
  intro j
  by_cases hj : j = f
  · subst hj
    by_cases hn : j < n
    · rw [List.getElem?_set_self (by rw [List.length_map, List.length_range]; exact hn), List.getElem?_map, List.getElem?_range hn]
      exact congrArg some h1.symm
    · rw [List.getElem?_eq_none (by rw [List.length_set, List.length_map, List.length_range]; omega), List.getElem?_eq_none (by rw [List.length_map, List.length_range]; omega)]
  · rw [List.getElem?_set_ne (Ne.symm hj), List.getElem?_map, List.getElem?_map]
    cases hr : (List.range n)[j]? with
    | none => rfl
    | some i =>
      obtain ⟨h3, h4⟩ := List.getElem?_eq_some_iff.mp hr
      rw [List.getElem_range] at h4
      subst h4
      exact congrArg some (h2 j hj).symm
/-- what a field's instruction needs of the tables -/
def sk_fl (own : String) (idx ci f : Nat) : Prop := ∃ q, vwCl[ci]? = some q ∧ f < q.2.2 ∧ Cond.fieldLink own idx (q.2.1 f).1 (q.2.1 f).2.1 (q.2.1 f).2.2.1 ∈ sk_tg
/-- .. and to store there: not final, the type -/
def sk_fp (own : String) (idx ci f : Nat) (ty : FieldType) : Prop := ∃ q, vwCl[ci]? = some q ∧ f < q.2.2 ∧ Cond.fieldLink own idx (q.2.1 f).1 (q.2.1 f).2.1 (q.2.1 f).2.2.1 ∈ sk_tg ∧ (q.2.1 f).2.2.2 = false ∧ parseFieldDescriptor (q.2.1 f).2.2.1 = some ty
theorem sk_fl_of {own : String} {idx ci f : Nat} (i : Nat) (h : (vwCl[ci]?).any (fun q => decide (f < q.2.2) && (lw_tbl[i]? == some (Cond.fieldLink own idx (q.2.1 f).1 (q.2.1 f).2.1 (q.2.1 f).2.2.1))) = true) : sk_fl own idx ci f := by
  cases hq : vwCl[ci]? with
  | none => rw [hq] at h; cases h
  | some q =>
    rw [hq] at h
    have h2 : (decide (f < q.2.2) && (lw_tbl[i]? == some (Cond.fieldLink own idx (q.2.1 f).1 (q.2.1 f).2.1 (q.2.1 f).2.2.1))) = true := h
    simp only [Bool.and_eq_true, decide_eq_true_eq, beq_iff_eq] at h2
    exact ⟨q, hq, h2.1, sk_in i h2.2 rfl⟩
theorem sk_fp_of {own : String} {idx ci f : Nat} {ty : FieldType} (i : Nat) (h : (vwCl[ci]?).any (fun q => decide (f < q.2.2) && (lw_tbl[i]? == some (Cond.fieldLink own idx (q.2.1 f).1 (q.2.1 f).2.1 (q.2.1 f).2.2.1)) && ((q.2.1 f).2.2.2 == false) && decide (parseFieldDescriptor (q.2.1 f).2.2.1 = some ty)) = true) : sk_fp own idx ci f ty := by
  cases hq : vwCl[ci]? with
  | none => rw [hq] at h; cases h
  | some q =>
    rw [hq] at h
    have h2 : (decide (f < q.2.2) && (lw_tbl[i]? == some (Cond.fieldLink own idx (q.2.1 f).1 (q.2.1 f).2.1 (q.2.1 f).2.2.1)) && ((q.2.1 f).2.2.2 == false) && decide (parseFieldDescriptor (q.2.1 f).2.2.1 = some ty)) = true := h
    simp only [Bool.and_eq_true, decide_eq_true_eq, beq_iff_eq] at h2
    exact ⟨q, hq, h2.1.1.1, sk_in i h2.1.1.2 rfl, h2.1.2, h2.2⟩
def sk_bi (i : Int32) (n : Nat) : Bool := decide (¬ (i < 0 ∨ n ≤ i.toNatClampNeg))
theorem sk_bi.v {i : Int32} {n : Nat} (h : sk_bi i n = true) : vp_in i n := by unfold vp_in; exact of_decide_eq_true h
theorem sk_bi.lt {i : Int32} {n : Nat} (h : sk_bi i n = true) : i.toNatClampNeg < n := Nat.not_le.mp fun q => (of_decide_eq_true h : ¬ _) (Or.inr q)
section SKH
variable {l : Launch} {R : Room} {μ : sk_MI} {Ex : sk_EX} {Z : sk_ZZ} {cn sn pc : Nat} {ls : List (Option sk_AV)} {st : List sk_AV} {h : sk_Mem}
theorem sk_at_obj {kc : Nat → ClassId} {bb : sk_BB} {h : sk_Mem} {s k ci : Nat} (hs : sk_shp s = .inl ci) (hl : sk_lv h s k) : (sk_ws kc bb h)[sk_ord s k]? = some (sk_ad bb (s, k), .inr (ci, (List.range (sk_fn ci)).map (sk_fv bb h s k ci))) := by
  rw [sk_ws_at hl]
  unfold sk_ce
  rw [hs]
theorem sk_at_arr {kc : Nat → ClassId} {bb : sk_BB} {h : sk_Mem} {s k kd n : Nat} (hs : sk_shp s = .inr (kd, n)) (hl : sk_lv h s k) : (sk_ws kc bb h)[sk_ord s k]? = some (sk_ad bb (s, k), .inl (kc kd, n, if kd = 1 then .inr (.inl (h.2.2.1 s k)) else if 4 ≤ kd then .inr (.inr (.inr (.inr (fun j => sk_ro bb (h.2.2.2 s k j))))) else .inl (h.2.1 s k))) := by
  rw [sk_ws_at hl]
  unfold sk_ce
  rw [hs]
theorem sk_fv_at {bb : sk_BB} {h : sk_Mem} {s k ci f : Nat} (hf : f < sk_fn ci) : ((List.range (sk_fn ci)).map (sk_fv bb h s k ci))[f]? = some (sk_fv bb h s k ci f) := by
  rw [List.getElem?_map, List.getElem?_range hf]
  rfl
theorem sg_getI {idx s k ci f : Nat} (pc' : Nat) (hd : decode μ.2.1 pc = .ok (.getfield idx, 3)) (hp : pc + 3 = pc') (hk : sk_fl μ.1.cls idx ci f) (hs : sk_shp s = .inl ci) (hf : sk_fr ci f = false) (hl : sk_lv h s k) (kk : sk_G l R μ Ex Z cn sn pc' ls (.inl (h.2.1 s k f) :: st) h) : sk_G l R μ Ex Z cn sn pc ls (.inr (.inr (some (s, k))) :: st) h := by
  subst hp
  intro p e s0 m args below meth c H locs bb D kc la hH hE hR hS hB hL
  obtain ⟨q, hq, hfn, hw⟩ := hk
  obtain ⟨c1, c2, c3, ty, c4, c5⟩ := sk_cl ci q hq
  refine va_get (v := .int (h.2.1 s k f)) hH.1 hH.2.1 hH.2.2.2.2.2.1 c1 hH.2.2.2.2.1 hR.1 hR.2.2.2 (sk_ord s k) (sk_at_obj hs hl) hq f hfn (hH.2.2.2.2.2.1 _ hw) (fun _ h9 => h9) ?_ hd (kk p e s0 m args below meth c H locs bb D kc la hH hE hR hS hB hL)
  rw [sk_fv_at (by rw [← c2]; exact hfn)]
  unfold sk_fv
  rw [hf]
  rfl
theorem sg_getR {idx s k ci f : Nat} {a : Nat × Nat} (pc' : Nat) (hd : decode μ.2.1 pc = .ok (.getfield idx, 3)) (hp : pc + 3 = pc') (hk : sk_fl μ.1.cls idx ci f) (hs : sk_shp s = .inl ci) (hf : sk_fr ci f = true) (hl : sk_lv h s k) (ha : h.2.2.2 s k f = some a) (kk : sk_G l R μ Ex Z cn sn pc' ls (.inr (.inr (some a)) :: st) h) : sk_G l R μ Ex Z cn sn pc ls (.inr (.inr (some (s, k))) :: st) h := by
  subst hp
  intro p e s0 m args below meth c H locs bb D kc la hH hE hR hS hB hL
  obtain ⟨q, hq, hfn, hw⟩ := hk
  obtain ⟨c1, c2, c3, ty, c4, c5⟩ := sk_cl ci q hq
  refine va_get (v := .ref (sk_ad bb a)) hH.1 hH.2.1 hH.2.2.2.2.2.1 c1 hH.2.2.2.2.1 hR.1 hR.2.2.2 (sk_ord s k) (sk_at_obj hs hl) hq f hfn (hH.2.2.2.2.2.1 _ hw) (fun _ h9 => h9) ?_ hd (kk p e s0 m args below meth c H locs bb D kc la hH hE hR hS hB hL)
  rw [sk_fv_at (by rw [← c2]; exact hfn)]
  unfold sk_fv
  rw [hf, ha]
  rfl
theorem sk_RH.set {bb : sk_BB} {D : va_G} {kc : Nat → ClassId} {h h' : sk_Mem} {s0 : State} {H H1 : Heap} {s k : Nat} (hR : sk_RH bb D kc h s0 H) (hl : sk_lv h s k) (h1 : h'.1 = h.1) (ho : ∀ a : Nat × Nat, a ≠ (s, k) → sk_ce kc bb h' a = sk_ce kc bb h a)
    (hat : va_at D vwCl (sk_ad bb (s, k), sk_ce kc bb h' (s, k)) H1) (hz : H1.size = H.size) (oq : ∀ q : Nat, q ≠ sk_ad bb (s, k) → H1[q]? = H[q]?) : sk_RH bb D kc h' s0 H1 := by
  refine ⟨hR.1, by rw [hz, h1]; exact hR.2.1, by rw [h1]; exact hR.2.2.1, ?_⟩
  rw [← sk_ws_set (h' := h') hl h1 hR.2.2.1 ho]
  exact va_P.set hR.2.2.2 (sk_ws_D hR.2.2.1) (sk_ws_at hl) hat oq
theorem sk_ad_ge {bb : sk_BB} {h : sk_Mem} {s k : Nat} (hl : sk_lv h s k) : bb.1 ≤ sk_ad bb (s, k) := by
  rw [sk_ad_c hl.2.2]
  omega
theorem sg_putI {idx s k ci f : Nat} {ty : FieldType} {x : Int32} (pc' : Nat) (hd : decode μ.2.1 pc = .ok (.putfield idx, 3)) (hp : pc + 3 = pc') (hk : sk_fp μ.1.cls idx ci f ty) (hs : sk_shp s = .inl ci) (hf : sk_fr ci f = false) (hl : sk_lv h s k) (hn : narrow ty (.int x) = .int x) (hfit : fits ty (.int x) = true) (kk : sk_G l R μ Ex Z cn sn pc' ls st (sk_pi h s k f x)) : sk_G l R μ Ex Z cn sn pc ls (.inl x :: .inr (.inr (some (s, k))) :: st) h := by
  subst hp
  intro p e s0 m args below meth c H locs bb D kc la hH hE hR hS hB hL
  obtain ⟨q, hq, hfn, hw, hfin, hpt⟩ := hk
  obtain ⟨c1, c2, c3, ty0, c4, c5⟩ := sk_cl ci q hq
  have hfn' : f < sk_fn ci := by rw [← c2]; exact hfn
  have hap := va_apart (own := μ.1.cls) hH.2.2.2.2.2.1 c1 ty0 c4 c3 hR.1 hq
  obtain ⟨r, hr1, cell, q1, q2, q3, q4⟩ := hR.2.2.2 _ _ (sk_at_obj hs hl)
  have hr : r = q := Option.some.inj (hr1.symm.trans hq)
  subst hr
  obtain ⟨hS9, hfc, kC, hkC, hkind⟩ := hR.1.1 ci _ hq
  obtain ⟨cf, kf, fi, fd, hi, hsl⟩ := hS9 f hfn
  have hlay := hH.2.2.2.2.2.1 _ (c1 _ (u_in_lay hfn))
  unfold u_lay at hlay
  rw [if_neg (by rw [hfin]; decide)] at hlay
  have hst := (u_facts hfc hkC (u_lays hH.2.2.2.2.2.1 c1 hfn) hi).1
  have h6 := u_store hfc hkC hkind hlay hi hpt hn hfit
  refine W.putK hH.1 hH.2.1 (f := fd) ⟨hH.2.2.2.2.1, hH.2.2.2.2.2.1 _ hw, ⟨_, _, _, hi⟩, hst⟩ (by rw [q2]; exact h6) q1 q3 (by rw [hsl]; exact k2_hasslot (q4 f hfn)) rfl rfl hd fun H' e1 e2 e3 => ?_
  rw [hsl] at e1 ⊢
  refine kk p e s0 m args below meth c H' _ bb D kc la hH hE (hR.set hl rfl (fun a ha => sk_ce_pi ha) ?_ e2 e3) (hS.put e2 e3 (sk_ad_ge hl)) hB hL
  have ec : sk_ce kc bb (sk_pi h s k f x) (s, k) = .inr (ci, (List.range (sk_fn ci)).map (sk_fv bb (sk_pi h s k f x) s k ci)) := by
    unfold sk_ce
    rw [show sk_shp (s, k).1 = .inl ci from hs]
  rw [ec]
  refine ⟨_, hq, t_OB.to (V := updV (vp_V ((List.range (sk_fn ci)).map (sk_fv bb h s k ci))) f (.int x)) ⟨_, e1, q2, q3, t_set q4 hap hfn (.int x)⟩ (fun j _ => ?_)⟩
  rw [vp_updV_set (by rw [List.length_map, List.length_range]; exact hfn'), sk_rset (F' := sk_fv bb (sk_pi h s k f x) s k ci)]
  · unfold sk_fv
    rw [hf]
    simp [sk_pi, sk_up]
  · intro j hj
    unfold sk_fv
    simp [sk_pi, sk_up, hj]
theorem sg_iald {s k n : Nat} {i : Int32} (pc' : Nat) (hd : decode μ.2.1 pc = .ok (.iaload, 1)) (hp : pc + 1 = pc') (hs : sk_shp s = .inr (0, n)) (hl : sk_lv h s k) (hb : sk_bi i n = true) (kk : sk_G l R μ Ex Z cn sn pc' ls (.inl (h.2.1 s k i.toNatClampNeg) :: st) h) : sk_G l R μ Ex Z cn sn pc ls (.inl i :: .inr (.inr (some (s, k))) :: st) h := by
  subst hp
  intro p e s0 m args below meth c H locs bb D kc la hH hE hR hS hB hL
  exact va_iald hH.1 hH.2.1 hR.1 hR.2.2.2 (sk_ord s k) 0 (sk_at_arr hs hl) (sk_ty_at (by decide)) (sk_bi.v hb) hd (kk p e s0 m args below meth c H locs bb D kc la hH hE hR hS hB hL)
theorem sg_zald {s k n : Nat} {i : Int32} (pc' : Nat) (hd : decode μ.2.1 pc = .ok (.baload, 1)) (hp : pc + 1 = pc') (hs : sk_shp s = .inr (2, n)) (hl : sk_lv h s k) (hb : sk_bi i n = true) (kk : sk_G l R μ Ex Z cn sn pc' ls (.inl (h.2.1 s k i.toNatClampNeg) :: st) h) : sk_G l R μ Ex Z cn sn pc ls (.inl i :: .inr (.inr (some (s, k))) :: st) h := by
  subst hp
  intro p e s0 m args below meth c H locs bb D kc la hH hE hR hS hB hL
  exact va_zald hH.1 hH.2.1 hR.1 hR.2.2.2 (sk_ord s k) 2 (sk_at_arr hs hl) (sk_ty_at (by decide)) (sk_bi.v hb) hd (kk p e s0 m args below meth c H locs bb D kc la hH hE hR hS hB hL)
theorem sg_cald {s k n : Nat} {i : Int32} (pc' : Nat) (hd : decode μ.2.1 pc = .ok (.caload, 1)) (hp : pc + 1 = pc') (hs : sk_shp s = .inr (3, n)) (hl : sk_lv h s k) (hb : sk_bi i n = true) (kk : sk_G l R μ Ex Z cn sn pc' ls (.inl (h.2.1 s k i.toNatClampNeg) :: st) h) : sk_G l R μ Ex Z cn sn pc ls (.inl i :: .inr (.inr (some (s, k))) :: st) h := by
  subst hp
  intro p e s0 m args below meth c H locs bb D kc la hH hE hR hS hB hL
  exact va_cald hH.1 hH.2.1 hR.1 hR.2.2.2 (sk_ord s k) 3 (sk_at_arr hs hl) (sk_ty_at (by decide)) (sk_bi.v hb) hd (kk p e s0 m args below meth c H locs bb D kc la hH hE hR hS hB hL)
theorem sg_lald {s k n : Nat} {i : Int32} (pc' : Nat) (hd : decode μ.2.1 pc = .ok (.laload, 1)) (hp : pc + 1 = pc') (hs : sk_shp s = .inr (1, n)) (hl : sk_lv h s k) (hb : sk_bi i n = true) (kk : sk_G l R μ Ex Z cn sn pc' ls (.inr (.inl (h.2.2.1 s k i.toNatClampNeg)) :: st) h) : sk_G l R μ Ex Z cn sn pc ls (.inl i :: .inr (.inr (some (s, k))) :: st) h := by
  subst hp
  intro p e s0 m args below meth c H locs bb D kc la hH hE hR hS hB hL
  exact va_lald hH.1 hH.2.1 hR.1 hR.2.2.2 (sk_ord s k) 1 (sk_at_arr hs hl) (sk_ty_at (by decide)) (sk_bi.v hb) hd (kk p e s0 m args below meth c H locs bb D kc la hH hE hR hS hB hL)
theorem sg_aald {s k n kd : Nat} {i : Int32} {a : Nat × Nat} (pc' : Nat) (hd : decode μ.2.1 pc = .ok (.aaload, 1)) (hp : pc + 1 = pc') (hs : sk_shp s = .inr (kd, n)) (hkd : 4 ≤ kd ∧ kd < 9) (hl : sk_lv h s k) (hb : sk_bi i n = true) (ha : h.2.2.2 s k i.toNatClampNeg = some a) (kk : sk_G l R μ Ex Z cn sn pc' ls (.inr (.inr (some a)) :: st) h) : sk_G l R μ Ex Z cn sn pc ls (.inl i :: .inr (.inr (some (s, k))) :: st) h := by
  subst hp
  intro p e s0 m args below meth c H locs bb D kc la hH hE hR hS hB hL
  have h1 := sk_at_arr (kc := kc) (bb := bb) (h := h) hs hl
  rw [if_neg (by omega), if_pos hkd.1] at h1
  have hin := (sk_bi.v hb)
  have hlt : i.toNatClampNeg < n := (sk_bi.lt hb)
  refine W.aald (v := .ref (sk_ad bb a)) (ty := sk_kt kd) hH.1 hH.2.1 (hR.2.2.2 _ _ h1) ((hR.1.2 kd _ (sk_ty_at hkd.2)).1 n (fun j => va_rf (sk_ro bb (h.2.2.2 s k j)))) ?_ (fun q => by cases q) (by show ¬ (i < 0 ∨ (arrV _ _ _).slots.size ≤ _); rw [arrV_size]; exact hin) (by show (arrV _ _ _).slots[_]? = _; rw [arrV_read _ _ hlt]; show some (va_rf (sk_ro bb (h.2.2.2 s k i.toNatClampNeg))) = _; rw [ha]; rfl) rfl rfl hd (kk p e s0 m args below meth c H locs bb D kc la hH hE hR hS hB hL)
  obtain ⟨h2, h3⟩ := hkd
  have : kd = 4 ∨ kd = 5 ∨ kd = 6 ∨ kd = 7 ∨ kd = 8 := by omega
  rcases this with rfl | rfl | rfl | rfl | rfl <;> rfl
theorem sk_ce_arrI {kc : Nat → ClassId} {bb : sk_BB} {h : sk_Mem} {s k kd n f : Nat} {v : Int32} (hs : sk_shp s = .inr (kd, n)) (h1 : kd ≠ 1) (h4 : ¬ 4 ≤ kd) : sk_ce kc bb (sk_pi h s k f v) (s, k) = .inl (kc kd, n, .inl (upd (h.2.1 s k) f v)) := by
  unfold sk_ce
  rw [show sk_shp (s, k).1 = .inr (kd, n) from hs]
  show Sum.inl (kc kd, n, if kd = 1 then _ else if 4 ≤ kd then _ else Sum.inl (sk_up h.2.1 s k f v s k)) = _
  rw [if_neg h1, if_neg h4, sk_up_eq]
theorem sk_ce_arrL {kc : Nat → ClassId} {bb : sk_BB} {h : sk_Mem} {s k n f : Nat} {v : Int64} (hs : sk_shp s = .inr (1, n)) : sk_ce kc bb (sk_pl h s k f v) (s, k) = .inl (kc 1, n, .inr (.inl (vp_updL (h.2.2.1 s k) f v))) := by
  unfold sk_ce
  rw [show sk_shp (s, k).1 = .inr (1, n) from hs]
  show Sum.inl (kc 1, n, if 1 = 1 then Sum.inr (Sum.inl (sk_up h.2.2.1 s k f v s k)) else _) = _
  rw [if_pos rfl, sk_up_eqL]
theorem sk_updV {f : Nat → Int32} {i : Nat} {x : Int32} : updV (fun j => Value.int (f j)) i (.int x) = fun j => .int (upd f i x j) := by
  funext j
  unfold updV upd
  by_cases hj : j = i <;> simp [hj]
theorem sk_updVL {f : Nat → Int64} {i : Nat} {x : Int64} : updV (fun j => Value.long (f j)) i (.long x) = fun j => .long (vp_updL f i x j) := by
  funext j
  unfold updV vp_updL
  by_cases hj : j = i <;> simp [hj]
theorem sg_iast {s k n : Nat} {i x : Int32} (pc' : Nat) (hd : decode μ.2.1 pc = .ok (.iastore, 1)) (hp : pc + 1 = pc') (hs : sk_shp s = .inr (0, n)) (hl : sk_lv h s k) (hb : sk_bi i n = true) (kk : sk_G l R μ Ex Z cn sn pc' ls st (sk_pi h s k i.toNatClampNeg x)) : sk_G l R μ Ex Z cn sn pc ls (.inl x :: .inl i :: .inr (.inr (some (s, k))) :: st) h := by
  subst hp
  intro p e s0 m args below meth c H locs bb D kc la hH hE hR hS hB hL
  have hin := (sk_bi.v hb)
  refine W.iast hH.1 hH.2.1 (hR.2.2.2 _ _ (sk_at_arr hs hl)) ((hR.1.2 0 _ (sk_ty_at (by decide))).1 n (fun j => .int (h.2.1 s k j))) (fun q => by cases q) (by show ¬ (i < 0 ∨ (arrV _ _ _).slots.size ≤ _); rw [arrV_size]; exact hin) rfl rfl hd fun H1 e1 z oq => ?_
  refine kk p e s0 m args below meth c H1 _ bb D kc la hH hE (hR.set hl rfl (fun a ha => sk_ce_pi ha) ?_ z oq) (hS.put z oq (sk_ad_ge hl)) hB hL
  rw [sk_ce_arrI hs (by decide) (by decide)]
  show H1[_]? = some (vp_cell _ _)
  rw [e1]
  exact congrArg some ((arrV_store _ _ _ _ _).trans (congrArg (arrV _ _) sk_updV))
theorem sg_zast {s k n : Nat} {i x : Int32} (pc' : Nat) (hd : decode μ.2.1 pc = .ok (.bastore, 1)) (hp : pc + 1 = pc') (hs : sk_shp s = .inr (2, n)) (hl : sk_lv h s k) (hb : sk_bi i n = true) (kk : sk_G l R μ Ex Z cn sn pc' ls st (sk_pi h s k i.toNatClampNeg (vp_nar .boolean x))) : sk_G l R μ Ex Z cn sn pc ls (.inl x :: .inl i :: .inr (.inr (some (s, k))) :: st) h := by
  subst hp
  intro p e s0 m args below meth c H locs bb D kc la hH hE hR hS hB hL
  have hin := (sk_bi.v hb)
  refine W.zast hH.1 hH.2.1 (hR.2.2.2 _ _ (sk_at_arr hs hl)) ((hR.1.2 2 _ (sk_ty_at (by decide))).1 n (fun j => .int (h.2.1 s k j))) (fun q => by cases q) (by show ¬ (i < 0 ∨ (arrV _ _ _).slots.size ≤ _); rw [arrV_size]; exact hin) rfl rfl hd fun H1 e1 z oq => ?_
  refine kk p e s0 m args below meth c H1 _ bb D kc la hH hE (hR.set hl rfl (fun a ha => sk_ce_pi ha) ?_ z oq) (hS.put z oq (sk_ad_ge hl)) hB hL
  rw [sk_ce_arrI hs (by decide) (by decide)]
  show H1[_]? = some (vp_cell _ _)
  rw [e1]
  exact congrArg some ((arrV_store _ _ _ _ _).trans (congrArg (arrV _ _) sk_updV))
theorem sg_cast {s k n : Nat} {i x : Int32} (pc' : Nat) (hd : decode μ.2.1 pc = .ok (.castore, 1)) (hp : pc + 1 = pc') (hs : sk_shp s = .inr (3, n)) (hl : sk_lv h s k) (hb : sk_bi i n = true) (kk : sk_G l R μ Ex Z cn sn pc' ls st (sk_pi h s k i.toNatClampNeg (vp_nar .char x))) : sk_G l R μ Ex Z cn sn pc ls (.inl x :: .inl i :: .inr (.inr (some (s, k))) :: st) h := by
  subst hp
  intro p e s0 m args below meth c H locs bb D kc la hH hE hR hS hB hL
  have hin := (sk_bi.v hb)
  refine W.cast hH.1 hH.2.1 (hR.2.2.2 _ _ (sk_at_arr hs hl)) ((hR.1.2 3 _ (sk_ty_at (by decide))).1 n (fun j => .int (h.2.1 s k j))) (fun q => by cases q) (by show ¬ (i < 0 ∨ (arrV _ _ _).slots.size ≤ _); rw [arrV_size]; exact hin) rfl rfl hd fun H1 e1 z oq => ?_
  refine kk p e s0 m args below meth c H1 _ bb D kc la hH hE (hR.set hl rfl (fun a ha => sk_ce_pi ha) ?_ z oq) (hS.put z oq (sk_ad_ge hl)) hB hL
  rw [sk_ce_arrI hs (by decide) (by decide)]
  show H1[_]? = some (vp_cell _ _)
  rw [e1]
  exact congrArg some ((arrV_store _ _ _ _ _).trans (congrArg (arrV _ _) sk_updV))
theorem sg_last {s k n : Nat} {i : Int32} {x : Int64} (pc' : Nat) (hd : decode μ.2.1 pc = .ok (.lastore, 1)) (hp : pc + 1 = pc') (hs : sk_shp s = .inr (1, n)) (hl : sk_lv h s k) (hb : sk_bi i n = true) (kk : sk_G l R μ Ex Z cn sn pc' ls st (sk_pl h s k i.toNatClampNeg x)) : sk_G l R μ Ex Z cn sn pc ls (.inr (.inl x) :: .inl i :: .inr (.inr (some (s, k))) :: st) h := by
  subst hp
  intro p e s0 m args below meth c H locs bb D kc la hH hE hR hS hB hL
  have hin := (sk_bi.v hb)
  refine W.last hH.1 hH.2.1 (hR.2.2.2 _ _ (sk_at_arr hs hl)) ((hR.1.2 1 _ (sk_ty_at (by decide))).1 n (fun j => .long (h.2.2.1 s k j))) (fun q => by cases q) (by show ¬ (i < 0 ∨ (arrV _ _ _).slots.size ≤ _); rw [arrV_size]; exact hin) rfl rfl hd fun H1 e1 z oq => ?_
  refine kk p e s0 m args below meth c H1 _ bb D kc la hH hE (hR.set hl rfl (fun a ha => sk_ce_pl ha) ?_ z oq) (hS.put z oq (sk_ad_ge hl)) hB hL
  rw [sk_ce_arrL hs]
  show H1[_]? = some (vp_cell _ _)
  rw [e1]
  exact congrArg some ((arrV_store _ _ _ _ _).trans (congrArg (arrV _ _) sk_updVL))
/-! answers -/
theorem sg_iret {x : Int32} (hd : decode μ.2.1 pc = .ok (.ireturn, 1)) {ty : FieldType} (hr : μ.2.2.2.1 = some ty) (hn : narrow ty (.int x) = .int x) : sk_G l R μ Ex (sk_Zm μ (some (.inl x)) h) μ.2.2.2.2.1 μ.2.2.2.2.2 pc ls [.inl x] h := by
  intro p e s0 m args below meth c H locs bb D kc la hH hE hR hS hB hL
  exact W.zret hH.1 hH.2.1 (hH.2.2.1.trans hr) hn (fun t ht hW => ⟨⟨rfl, by rw [ht]; exact hR.moved hW.alike⟩, hS.F ht⟩) hS.2.2 hd hH.2.2.2.2.2.2.1
theorem sg_lret {x : Int64} (hd : decode μ.2.1 pc = .ok (.lreturn, 1)) (hr : μ.2.2.2.1 = some .long) : sk_G l R μ Ex (sk_Zm μ (some (.inr (.inl x))) h) μ.2.2.2.2.1 μ.2.2.2.2.2 pc ls [.inr (.inl x)] h := by
  intro p e s0 m args below meth c H locs bb D kc la hH hE hR hS hB hL
  exact W.lret hH.1 hH.2.1 (hH.2.2.1.trans hr) (fun t ht hW => ⟨⟨rfl, by rw [ht]; exact hR.moved hW.alike⟩, hS.F ht⟩) hS.2.2 hd hH.2.2.2.2.2.2.1
theorem sg_vret (hd : decode μ.2.1 pc = .ok (.return_, 1)) (hr : μ.2.2.2.1 = none) : sk_G l R μ Ex (sk_Zm μ none h) μ.2.2.2.2.1 μ.2.2.2.2.2 pc ls [] h := by
  intro p e s0 m args below meth c H locs bb D kc la hH hE hR hS hB hL
  exact W.vret hH.1 hH.2.1 (hH.2.2.1.trans hr) (fun t ht hW => ⟨⟨rfl, by rw [ht]; exact hR.moved hW.alike⟩, hS.F ht⟩) hS.2.2 hd hH.2.2.2.2.2.2.1
/-! calls -/
def sk_lk (y : MethodName) (n : Nat) : Prop := y.cls ≠ "java/lang/invoke/MethodHandle" ∧ y.cls ≠ "java/lang/invoke/VarHandle" ∧ (parseMethodDescriptor y.desc).map (fun d => d.parameters.length) = some n
def sk_lkV (own : String) (idx : Nat) (μ' : sk_MI) (n : Nat) : Prop := sk_lk μ'.1 n ∧ Cond.methodLink own idx μ'.1 ∈ sk_tg ∧ Cond.instanceMethod μ'.1 ∈ sk_tg ∧ Cond.selects μ'.1.cls μ'.1 μ'.1 ∈ sk_tg ∧ Cond.initialized μ'.1.cls ∈ sk_tg ∧ Cond.code μ'.1 μ'.2.1 μ'.2.2.1 μ'.2.2.2.1 ∈ sk_tg
def sk_lkS (own : String) (idx : Nat) (μ' : sk_MI) (n : Nat) : Prop := sk_lk μ'.1 n ∧ Cond.methodLink own idx μ'.1 ∈ sk_tg ∧ Cond.static μ'.1 ∈ sk_tg ∧ Cond.initialized μ'.1.cls ∈ sk_tg ∧ Cond.code μ'.1 μ'.2.1 μ'.2.2.1 μ'.2.2.2.1 ∈ sk_tg
def sk_lkN (own : String) (idx : Nat) (host : String) (μ' : sk_MI) (n : Nat) : Prop := sk_lk μ'.1 n ∧ Cond.methodLinkNest own idx μ'.1 host ∈ tables_1 ∧ Cond.static μ'.1 ∈ sk_tg ∧ Cond.initialized μ'.1.cls ∈ sk_tg ∧ Cond.code μ'.1 μ'.2.1 μ'.2.2.1 μ'.2.2.2.1 ∈ sk_tg
theorem sk_good_wm {μ' : sk_MI} (hc : Cond.code μ'.1 μ'.2.1 μ'.2.2.1 μ'.2.2.2.1 ∈ sk_tg) : GoodIn sk_tg (sk_wm μ') := by
  intro w hw
  rcases List.mem_cons.mp hw with rfl | hw
  · exact ⟨hc, sk_tg_good hc⟩
  · exact ⟨hw, sk_tg_good hw⟩
theorem sk_blind {bb : sk_BB} {D : va_G} {kc : Nat → ClassId} {as : List sk_AV} {h : sk_Mem} : FrameBlind (sk_Pc bb D kc as h) := fun a U g mk q =>
  ⟨q.1, sk_Nx.same (s := U) (U := U.calling g mk a) rfl q.2.1, ⟨va_K.moved (u := U) (U := U.calling g mk a) (Vm.Alike.refl U.vm) q.2.2.1.1, q.2.2.1.2⟩, q.2.2.2⟩
theorem sk_pre {p : Program} {s0 : State} {m : MethodId} {args : Array Value} {meth : Method} {c : Code} {H : Heap} {bb : sk_BB} {D : va_G} {kc : Nat → ClassId} {as : List sk_AV} {h : sk_Mem} {locs : List Loc} (hH : sk_Hd p s0 m args meth c μ) (hR : sk_RH bb D kc h s0 H) (hS : va_S (fun q => bb.1 ≤ q) s0.heap H locs) (hB : bb.1 ≤ s0.heap.size) : ∀ U : State, U.heap = H → s0.WarmedH U.vm → sk_Pc bb D kc as h (as.map (sk_cv bb)).toArray U :=
  fun U hU hW => ⟨rfl, sk_Nx.warm hW hH.2.2.2.2.2.2.2.2, by rw [hU]; exact hR.moved hW.alike, by rw [hU]; exact Nat.le_trans hB hS.1⟩
theorem sk_after {R : Room} {p : Program} {e : Env} {s0 : State} {m : MethodId} {args : Array Value} {below : List Frame} {meth : Method} {c : Code} {H : Heap} {locs : List Loc} {bb : sk_BB} {D : va_G} {kc : Nat → ClassId} {la : Array Slot} {mc ms : Nat} {st0 rest : List sk_AV} {stv : List Value} {r : Option sk_AV} {h' : sk_Mem} {a : Array Value}
    (hr : va_Run p l e R s0 m args below meth c H locs cn sn mc ms (F0 m pc la stv) (rest.map (sk_cv bb)) (sk_Qc bb D kc r h' a) (fun q => bb.1 ≤ q))
    (hH : sk_Hd p s0 m args meth c μ) (hE : Ex s0 args bb) (hS : va_S (fun q => bb.1 ≤ q) s0.heap H locs) (hB : bb.1 ≤ s0.heap.size) (hL : sk_LR bb la μ.2.2.1 ls)
    (kk : sk_G l R μ Ex Z (cn + mc) (sn + ms) (pc + 3) ls (r.toList ++ rest) h') : W p l e R s0 m args below meth c H locs cn sn (Z s0 args below bb D kc) (F0 m pc la stv) := by
  intro T hT X
  obtain ⟨v, st₀, t, T', L, h0, X', hLf, e1, e2, ⟨⟨hv, hR'⟩, hz, hk⟩, stp⟩ := hr T hT X
  have hv' : v = r.map (sk_cv bb) := by cases hv; rfl
  subst hv'
  rw [h0] at hz hk
  have hal : s0.vm.Alike t.vm := by rw [← e2]; exact X'.warmed.alike
  obtain ⟨t2, a1, b1⟩ := kk p e s0 m args below meth c T'.heap (locs ++ L) bb D kc la hH hE (by rw [e1]; exact hR'.moved hal.symm)
    ⟨Nat.le_trans hS.1 (by rw [e1]; exact hz), fun q h1 h2 => by rw [e1, hk q (Nat.lt_of_lt_of_le h1 hS.1) h2]; exact hS.2.1 q h1 h2, fun q hq => by
      rcases List.mem_append.mp hq with h | h
      · exact hS.2.2 q h
      · exact hLf q h⟩ hB hL T' rfl X'
  refine ⟨t2, stp t2 ?_, b1⟩
  have e3 : (r.toList ++ rest).map (sk_cv bb) = (r.map (sk_cv bb)).toList ++ rest.map (sk_cv bb) := by
    cases r <;> simp
  rw [e3] at a1
  exact a1
/-- the room that a callee leaves -/
def sk_rmok (dp : Nat) (μ' : sk_MI) (R : Room) (cn sn : Nat) : Prop := dp + 1 ≤ R.frames ∧ 8 + (μ'.2.2.1 + 11) + 60 * dp ≤ R.locals ∧ cn + μ'.2.2.2.2.1 ≤ R.cells ∧ sn + μ'.2.2.2.2.2 ≤ R.slots
def sk_cat8 : List sk_AV → Nat
  | [] => 0
  | v :: vs => (if sk_isL v = true then 2 else 1) + sk_cat8 vs
theorem sk_cat8_eq (bb : sk_BB) : ∀ st : List sk_AV, ((st.map (sk_cv bb)).map fun v => v.category).sum = sk_cat8 st
  | [] => rfl
  | v :: vs => by
    have ih := sk_cat8_eq bb vs
    have e : (sk_cv bb v).category = if sk_isL v = true then 2 else 1 := by
      match v with
      | .inl x => rfl
      | .inr (.inl x) => rfl
      | .inr (.inr none) => rfl
      | .inr (.inr (some a)) => rfl
    simp only [List.map_cons, List.sum_cons, sk_cat8, ih, e]
theorem sg_callV {μ' : sk_MI} {dp idx s k ci : Nat} {as : List sk_AV} {r : Option sk_AV} {h' : sk_Mem} {n : Nat} (pc' : Nat) (hM : sk_M l dp μ' (.inr (.inr (some (s, k))) :: as) h r h') (hd : decode μ.2.1 pc = .ok (.invokevirtual idx, 3)) (hp : pc + 3 = pc') (hk : sk_lkV μ.1.cls idx μ' n) (hn : as.length = n) (hs : sk_shp s = .inl ci) (hci : (vwCl[ci]?).map (fun q => q.1) = some μ'.1.cls) (hl : sk_lv h s k) (hr : sk_rmok dp μ' R cn sn) (h8 : sk_cat8 st ≤ 8)
    (kk : sk_G l R μ Ex Z (cn + μ'.2.2.2.2.1) (sn + μ'.2.2.2.2.2) pc' ls (r.toList ++ st) h') : sk_G l R μ Ex Z cn sn pc ls (as.reverse ++ .inr (.inr (some (s, k))) :: st) h := by
  subst hp
  intro p e s0 m args below meth c H locs bb D kc la hH hE hR hS hB hL
  obtain ⟨⟨k1, k2, k3⟩, w1, w2, w3, w4, w5⟩ := hk
  have hts := hH.2.2.2.2.2.1
  obtain ⟨q, hq, hqc⟩ := Option.map_eq_some_iff.mp hci
  have hst : ((as.reverse ++ .inr (.inr (some (s, k))) :: st).map (sk_cv bb)) = (as.map (sk_cv bb)).reverse ++ .ref (sk_ad bb (s, k)) :: st.map (sk_cv bb) := by
    rw [List.map_append, List.map_reverse]
    rfl
  have hrec := va_recv hR.1 hR.2.2.2 (ci := ci) (q0 := sk_ord s k) hq (sk_at_obj hs hl)
  rw [hqc] at hrec
  rw [hst]
  refine sk_after (st0 := st) (va_runV (Ts := sk_tg) (own := μ.1.cls) (As := as.map (sk_cv bb)) (b := sk_ad bb (s, k)) ⟨hH.1, hH.2.1, hH.2.2.2.1, hH.2.2.2.2.1, hts⟩ (hM bb D kc) ⟨callB_of n hts (sk_good_wm w5) rfl rfl rfl (hts _ w4) (hts _ w1) ⟨k1, k2, k3⟩ ⟨hr.1, hr.2.1⟩, hts _ w2, hts _ w3⟩ ⟨sk_blind, hrec, sk_pre hH hR hS hB⟩ rfl (by rw [List.length_map]; exact hn) hL.1 rfl (by show 2 * 0 + _ ≤ 8; rw [sk_cat8_eq]; omega) hd hr.2.2) hH hE hS hB hL kk
theorem sg_callS {μ' : sk_MI} {dp idx : Nat} {as : List sk_AV} {r : Option sk_AV} {h' : sk_Mem} {n : Nat} (pc' : Nat) (hM : sk_M l dp μ' as h r h') (hd : decode μ.2.1 pc = .ok (.invokestatic idx, 3)) (hp : pc + 3 = pc') (hk : sk_lkS μ.1.cls idx μ' n) (hn : as.length = n) (hr : sk_rmok dp μ' R cn sn) (h8 : sk_cat8 st ≤ 8)
    (kk : sk_G l R μ Ex Z (cn + μ'.2.2.2.2.1) (sn + μ'.2.2.2.2.2) pc' ls (r.toList ++ st) h') : sk_G l R μ Ex Z cn sn pc ls (as.reverse ++ st) h := by
  subst hp
  intro p e s0 m args below meth c H locs bb D kc la hH hE hR hS hB hL
  obtain ⟨⟨k1, k2, k3⟩, w1, w2, w4, w5⟩ := hk
  have hts := hH.2.2.2.2.2.1
  have hst : ((as.reverse ++ st).map (sk_cv bb)) = (as.map (sk_cv bb)).reverse ++ st.map (sk_cv bb) := by
    rw [List.map_append, List.map_reverse]
  rw [hst]
  refine sk_after (st0 := st) (va_runS (Ts := sk_tg) (own := μ.1.cls) (As := as.map (sk_cv bb)) ⟨hH.1, hH.2.1, hH.2.2.2.1, hH.2.2.2.2.1, hts⟩ (hM bb D kc) ⟨callB_of n hts (sk_good_wm w5) rfl rfl rfl (hts _ w4) (hts _ w1) ⟨k1, k2, k3⟩ ⟨hr.1, hr.2.1⟩, hts _ w2⟩ ⟨sk_blind, sk_pre hH hR hS hB⟩ rfl (by rw [List.length_map]; exact hn) hL.1 rfl (by show 2 * 0 + _ ≤ 8; rw [sk_cat8_eq]; omega) hd hr.2.2) hH hE hS hB hL kk
theorem sg_callN {μ' : sk_MI} {dp idx : Nat} {host : String} {as : List sk_AV} {r : Option sk_AV} {h' : sk_Mem} {n : Nat} (pc' : Nat) (hM : sk_M l dp μ' as h r h') (hd : decode μ.2.1 pc = .ok (.invokestatic idx, 3)) (hp : pc + 3 = pc') (hk : sk_lkN μ.1.cls idx host μ' n) (hn : as.length = n) (hr : sk_rmok dp μ' R cn sn) (h8 : sk_cat8 st ≤ 8)
    (kk : sk_G l R μ Ex Z (cn + μ'.2.2.2.2.1) (sn + μ'.2.2.2.2.2) pc' ls (r.toList ++ st) h') : sk_G l R μ Ex Z cn sn pc ls (as.reverse ++ st) h := by
  subst hp
  intro p e s0 m args below meth c H locs bb D kc la hH hE hR hS hB hL
  obtain ⟨⟨k1, k2, k3⟩, w1, w2, w4, w5⟩ := hk
  have hts := hH.2.2.2.2.2.1
  have hst : ((as.reverse ++ st).map (sk_cv bb)) = (as.map (sk_cv bb)).reverse ++ st.map (sk_cv bb) := by
    rw [List.map_append, List.map_reverse]
  have hnx := hH.2.2.2.2.2.2.2.2 _ (List.mem_filter.mpr ⟨w1, rfl⟩)
  rw [hst]
  refine sk_after (st0 := st) (va_runSN (Ts := sk_tg) (own := μ.1.cls) (As := as.map (sk_cv bb)) ⟨hH.1, hH.2.1, hH.2.2.2.1, hH.2.2.2.2.1, hts⟩ (hM bb D kc) ⟨va_cnB n hts (sk_good_wm w5) rfl rfl rfl hnx (hts _ w4) ⟨k1, k2, k3⟩ ⟨hr.1, hr.2.1⟩, hts _ w2, trivial⟩ ⟨sk_blind, sk_pre hH hR hS hB⟩ rfl (by rw [List.length_map]; exact hn) hL.1 rfl (by show 2 * 0 + _ ≤ 8; rw [sk_cat8_eq]; omega) hd hr.2.2) hH hE hS hB hL kk
end SKH
