/-! CELLS IN THE MAKING: a memory as a list of writes, and the rows that make cells *** by hand -/
abbrev sc_T : Type := Nat × Nat × Nat × (Int32 ⊕ Option (Nat × Nat))
def sc_i : List sc_T → Nat → Nat → Nat → Int32
  | [] => fun _ _ _ => 0
  | (s, k, f, .inl v) :: L => sk_up (sc_i L) s k f v
  | (_, _, _, .inr _) :: L => sc_i L
def sc_r : List sc_T → Nat → Nat → Nat → Option (Nat × Nat)
  | [] => fun _ _ _ => none
  | (_, _, _, .inl _) :: L => sc_r L
  | (s, k, f, .inr v) :: L => sk_up (sc_r L) s k f v
def sk_mW (t : Nat) (L : List sc_T) : sk_Mem := (t, sc_i L, fun _ _ _ => 0, sc_r L)
/-- nothing was written to a cell -/
def sc_no (L : List sc_T) (s k : Nat) : Bool := L.all (fun w => !(w.1 == s && w.2.1 == k))
theorem sc_no_c {w : sc_T} {L : List sc_T} {s k : Nat} (h : sc_no (w :: L) s k = true) : ¬ (s = w.1 ∧ k = w.2.1) ∧ sc_no L s k = true := by
  have h1 : (!(w.1 == s && w.2.1 == k) && sc_no L s k) = true := h
  rw [Bool.and_eq_true] at h1
  refine ⟨fun q => ?_, h1.2⟩
  have h2 := h1.1
  rw [← q.1, ← q.2] at h2
  simp at h2
theorem sc_i0 {s k : Nat} : ∀ {L : List sc_T}, sc_no L s k = true → sc_i L s k = fun _ => 0
  | [], _ => rfl
  | (s', k', f, .inl v) :: L, h => by
    obtain ⟨h1, h2⟩ := sc_no_c h
    funext j
    show sk_up (sc_i L) s' k' f v s k j = 0
    unfold sk_up
    rw [if_neg (fun q => h1 ⟨q.1, q.2.1⟩), sc_i0 h2]
  | (_, _, _, .inr _) :: L, h => sc_i0 (L := L) (sc_no_c h).2
theorem sc_r0 {s k : Nat} : ∀ {L : List sc_T}, sc_no L s k = true → sc_r L s k = fun _ => none
  | [], _ => rfl
  | (_, _, _, .inl _) :: L, h => sc_r0 (L := L) (sc_no_c h).2
  | (s', k', f, .inr v) :: L, h => by
    obtain ⟨h1, h2⟩ := sc_no_c h
    funext j
    show sk_up (sc_r L) s' k' f v s k j = none
    unfold sk_up
    rw [if_neg (fun q => h1 ⟨q.1, q.2.1⟩), sc_r0 h2]
theorem sk_dv : ∀ (ci : Nat) (q : vw_C), vwCl[ci]? = some q → ∃ ty : Nat → FieldType, (∀ k, k < q.2.2 → parseFieldDescriptor (q.2.1 k).2.2.1 = some (ty k)) ∧ ∀ k, k < q.2.2 → defaultValue (ty k) = if sk_fr ci k = true then .null else .int 0 := by
  intro ci q h
  match ci, h with
  | 0, h => cases h; exact ⟨tyX0, tyX0_ok, by decide +kernel⟩
  | 1, h => cases h; exact ⟨tyX1, tyX1_ok, by decide +kernel⟩
  | 2, h => cases h; exact ⟨tyX2, tyX2_ok, by decide +kernel⟩
  | 3, h => cases h; exact ⟨tyX3, tyX3_ok, by decide +kernel⟩
  | 4, h => cases h; exact ⟨tyX4, tyX4_ok, by decide +kernel⟩
  | 5, h => cases h; exact ⟨tyX5, tyX5_ok, by decide +kernel⟩
  | 6, h => cases h; exact ⟨tyX6, tyX6_ok, by decide +kernel⟩
  | 7, h => cases h; exact ⟨tyX7, tyX7_ok, by decide +kernel⟩
  | 8, h => cases h; exact ⟨tyX8, tyX8_ok, by decide +kernel⟩
  | n + 9, h => simp [vwCl] at h
/-- cells that come to a heap -/
theorem sk_RH_add {bb : sk_BB} {D : va_G} {kc : Nat → ClassId} {h h' : sk_Mem} {s0 : State} {H H1 : Heap} (m : Nat) (hR : sk_RH bb D kc h s0 H) (ht : h.1 < sk_N0) (h1 : h'.1 = h.1 + m) (h2 : h'.1 ≤ sk_N0) (z1 : H1.size = H.size + m) (o1 : ∀ q, q < H.size → H1[q]? = H[q]?)
    (hold : ∀ i, i < h.1 → sk_ce kc bb h' (sk_ref i) = sk_ce kc bb h (sk_ref i)) (hnew : ∀ i, i < m → va_at D vwCl (bb.1 + (h.1 + i), sk_ce kc bb h' (sk_ref (h.1 + i))) H1) : sk_RH bb D kc h' s0 H1 := by
  have hz := hR.sz ht
  have h0 := hR.2.1.2 ht
  refine ⟨hR.1, ⟨by omega, fun _ => h0⟩, h2, fun k q hk => ?_⟩
  rw [sk_ws_c h0] at hk
  have hlt : k < h'.1 := by
    have := (List.getElem?_eq_some_iff.mp hk).1
    rw [sk_wc_len] at this
    exact this
  unfold sk_wc at hk
  rw [List.getElem?_map, List.getElem?_range hlt] at hk
  have hq : q = (bb.1 + k, sk_ce kc bb h' (sk_ref k)) := (Option.some.inj hk).symm
  subst hq
  by_cases hk2 : k < h.1
  · rw [hold k hk2]
    have h3 : (sk_ws kc bb h)[k]? = some (bb.1 + k, sk_ce kc bb h (sk_ref k)) := by
      rw [sk_ws_c h0]
      unfold sk_wc
      rw [List.getElem?_map, List.getElem?_range hk2]
      rfl
    have h4 := hR.2.2.2 k _ h3
    exact h4.kept (o1 _ h4.lt)
  · have h5 := hnew (k - h.1) (by omega)
    rw [show h.1 + (k - h.1) = k by omega] at h5
    exact h5
theorem sk_S_add {bb : sk_BB} {H0 H H1 : Heap} {locs : List Loc} (hS : va_S (fun q => bb.1 ≤ q) H0 H locs) (z1 : H.size ≤ H1.size) (o1 : ∀ q, q < H.size → H1[q]? = H[q]?) : va_S (fun q => bb.1 ≤ q) H0 H1 locs :=
  ⟨Nat.le_trans hS.1 z1, fun x h1 h2 => (o1 x (Nat.lt_of_lt_of_le h1 hS.1)).trans (hS.2.1 x h1 h2), hS.2.2⟩
theorem sk_ad_of {bb : sk_BB} {t s k : Nat} (ht : t < sk_N0) (hr : sk_ref t = (s, k)) : sk_ad bb (s, k) = bb.1 + t := by
  have h1 := List.all_eq_true.mp sk_refT t (List.mem_range.mpr ht)
  simp only [Bool.and_eq_true, beq_iff_eq, decide_eq_true_eq] at h1
  rw [hr] at h1
  rw [sk_ad_c h1.2, h1.1]
def sk_lkC (own : String) (idx ci : Nat) : Prop := ∃ q, vwCl[ci]? = some q ∧ Cond.classLink own idx q.1 ∈ sk_tg ∧ Cond.instantiable q.1 q.2.2 ∈ sk_tg ∧ Cond.initialized q.1 ∈ sk_tg
def sk_lkI (own : String) (idx : Nat) (μ' : sk_MI) : Prop := sk_lk μ'.1 0 ∧ μ'.1.name = "<init>" ∧ μ'.2.2.2.1 = none ∧ Cond.methodLink own idx μ'.1 ∈ sk_tg ∧ Cond.instanceMethod μ'.1 ∈ sk_tg ∧ Cond.initialized μ'.1.cls ∈ sk_tg ∧ Cond.code μ'.1 μ'.2.1 μ'.2.2.1 μ'.2.2.2.1 ∈ sk_tg
def sk_lkIN (own : String) (idx : Nat) (host : String) (μ' : sk_MI) : Prop := sk_lk μ'.1 0 ∧ μ'.1.name = "<init>" ∧ μ'.2.2.2.1 = none ∧ Cond.methodLinkNest own idx μ'.1 host ∈ tables_1 ∧ Cond.instanceMethod μ'.1 ∈ sk_tg ∧ Cond.initialized μ'.1.cls ∈ sk_tg ∧ Cond.code μ'.1 μ'.2.1 μ'.2.2.1 μ'.2.2.2.1 ∈ sk_tg
/-- a final field of references, stored to in a constructor -/
def sk_ff (own : String) (idx ci f : Nat) : Prop := ∃ q, vwCl[ci]? = some q ∧ f < q.2.2 ∧ Cond.fieldLink own idx (q.2.1 f).1 (q.2.1 f).2.1 (q.2.1 f).2.2.1 ∈ sk_tg ∧ (q.2.1 f).2.2.2 = true ∧ (q.2.1 f).1 = own
theorem sk_ff_of {own : String} {idx ci f : Nat} (i : Nat) (h : (vwCl[ci]?).any (fun q => decide (f < q.2.2) && (lw_tbl[i]? == some (Cond.fieldLink own idx (q.2.1 f).1 (q.2.1 f).2.1 (q.2.1 f).2.2.1)) && ((q.2.1 f).2.2.2 == true) && decide ((q.2.1 f).1 = own)) = true) : sk_ff own idx ci f := by
  cases hq : vwCl[ci]? with
  | none => rw [hq] at h; cases h
  | some q =>
    rw [hq] at h
    have h2 : (decide (f < q.2.2) && (lw_tbl[i]? == some (Cond.fieldLink own idx (q.2.1 f).1 (q.2.1 f).2.1 (q.2.1 f).2.2.1)) && ((q.2.1 f).2.2.2 == true) && decide ((q.2.1 f).1 = own)) = true := h
    simp only [Bool.and_eq_true, decide_eq_true_eq, beq_iff_eq] at h2
    exact ⟨q, hq, h2.1.1.1, sk_in i h2.1.1.2 rfl, h2.1.2, h2.2⟩
theorem sk_rfv {ty : FieldType} (h : ty.isReference = true) (a : Nat) : narrow ty (.ref a) = .ref a ∧ fits ty (.ref a) = true := by
  cases ty <;> first | exact ⟨rfl, rfl⟩ | cases h
section SCR
variable {l : Launch} {R : Room} {μ : sk_MI} {Ex : sk_EX} {Z : sk_ZZ} {cn sn pc : Nat} {ls : List (Option sk_AV)} {st : List sk_AV} {h : sk_Mem}
theorem sg_callI {μ' : sk_MI} {dp idx s k : Nat} {h' : sk_Mem} (pc' : Nat) (hM : sk_M l dp μ' [.inr (.inr (some (s, k)))] h none h') (hd : decode μ.2.1 pc = .ok (.invokespecial idx, 3)) (hp : pc + 3 = pc') (hk : sk_lkI μ.1.cls idx μ') (hr : sk_rmok dp μ' R cn sn) (h8 : sk_cat8 st ≤ 8)
    (kk : sk_G l R μ Ex Z (cn + μ'.2.2.2.2.1) (sn + μ'.2.2.2.2.2) pc' ls st h') : sk_G l R μ Ex Z cn sn pc ls (.inr (.inr (some (s, k))) :: st) h := by
  subst hp
  obtain ⟨y, cc, nL, ret, mc, ms⟩ := μ'
  obtain ⟨⟨k1, k2, k3⟩, w0, w9, w1, w2, w4, w5⟩ := hk
  have w9 : ret = none := w9
  subst w9
  intro p e s0 m args below meth c H locs bb D kc la hH hE hR hS hB hL
  have hts := hH.2.2.2.2.2.1
  refine sk_after (st0 := st) (va_runI (Ts := sk_tg) (own := μ.1.cls) (As := []) (b := sk_ad bb (s, k)) ⟨hH.1, hH.2.1, hH.2.2.2.1, hH.2.2.2.2.1, hts⟩ (hM bb D kc) ⟨callB_of 0 hts (sk_good_wm (μ' := (y, cc, nL, none, mc, ms)) w5) rfl rfl rfl (hts _ w4) (hts _ w1) ⟨k1, k2, k3⟩ ⟨hr.1, hr.2.1⟩, w0, hts _ w2⟩ ⟨sk_blind, sk_pre hH hR hS hB⟩ rfl rfl hL.1 rfl (by show 2 * 0 + _ ≤ 8; rw [sk_cat8_eq]; omega) hd hr.2.2) hH hE hS hB hL kk
theorem sg_callIN {μ' : sk_MI} {dp idx s k : Nat} {host : String} {h' : sk_Mem} (pc' : Nat) (hM : sk_M l dp μ' [.inr (.inr (some (s, k)))] h none h') (hd : decode μ.2.1 pc = .ok (.invokespecial idx, 3)) (hp : pc + 3 = pc') (hk : sk_lkIN μ.1.cls idx host μ') (hr : sk_rmok dp μ' R cn sn) (h8 : sk_cat8 st ≤ 8)
    (kk : sk_G l R μ Ex Z (cn + μ'.2.2.2.2.1) (sn + μ'.2.2.2.2.2) pc' ls st h') : sk_G l R μ Ex Z cn sn pc ls (.inr (.inr (some (s, k))) :: st) h := by
  subst hp
  obtain ⟨y, cc, nL, ret, mc, ms⟩ := μ'
  obtain ⟨⟨k1, k2, k3⟩, w0, w9, w1, w2, w4, w5⟩ := hk
  have w9 : ret = none := w9
  subst w9
  intro p e s0 m args below meth c H locs bb D kc la hH hE hR hS hB hL
  have hts := hH.2.2.2.2.2.1
  have hnx := hH.2.2.2.2.2.2.2.2 _ (List.mem_filter.mpr ⟨w1, rfl⟩)
  refine sk_after (st0 := st) (va_runIN (Ts := sk_tg) (own := μ.1.cls) (As := []) (b := sk_ad bb (s, k)) ⟨hH.1, hH.2.1, hH.2.2.2.1, hH.2.2.2.2.1, hts⟩ (hM bb D kc) ⟨va_cnB 0 hts (sk_good_wm (μ' := (y, cc, nL, none, mc, ms)) w5) rfl rfl rfl hnx (hts _ w4) ⟨k1, k2, k3⟩ ⟨hr.1, hr.2.1⟩, w0, hts _ w2⟩ ⟨sk_blind, sk_pre hH hR hS hB⟩ rfl rfl hL.1 rfl (by show 2 * 0 + _ ≤ 8; rw [sk_cat8_eq]; omega) hd hr.2.2) hH hE hS hB hL kk
def sk_lkO (own : String) (idx : Nat) : Prop := Cond.methodLink own idx objectInit ∈ sk_tg ∧ Cond.instanceMethod objectInit ∈ sk_tg ∧ Cond.code objectInit ⟨#[0xb1]⟩ 1 none ∈ sk_tg
theorem sg_objI {idx : Nat} {a : Nat × Nat} (pc' : Nat) (hd : decode μ.2.1 pc = .ok (.invokespecial idx, 3)) (hp : pc + 3 = pc') (hk : sk_lkO μ.1.cls idx) (hR1 : 1 ≤ R.frames) (hR2 : 40 ≤ R.locals) (h8 : sk_cat8 st ≤ 8) (kk : sk_G l R μ Ex Z cn sn pc' ls st h) : sk_G l R μ Ex Z cn sn pc ls (.inr (.inr (some a)) :: st) h := by
  subst hp
  intro p e s0 m args below meth c H locs bb D kc la hH hE hR hS hB hL
  have hts := hH.2.2.2.2.2.1
  exact W.objInit hH.1 hH.2.1 hH.2.2.2.2.1 (hts _ hk.1) (hts _ hk.2.1) (hts _ hk.2.2) rfl (hL.1.trans hH.2.2.2.1.symm) rfl hd hR1 (by show 2 * 0 + _ + 12 ≤ _; rw [sk_cat8_eq]; omega) (kk p e s0 m args below meth c H locs bb D kc la hH hE hR hS hB hL)
/-- new -/
theorem sl_new {ci s k t idx : Nat} {L : List sc_T} (t' cn' sn' pc' : Nat) (hd : decode μ.2.1 pc = .ok (.new idx, 3)) (hp : pc + 3 = pc') (hk : sk_lkC μ.1.cls idx ci) (ht : t < sk_N0) (hr : sk_ref t = (s, k)) (hs : sk_shp s = .inl ci) (hn : sc_no L s k = true) (h0 : t + 1 = t') (h1 : cn + 1 = cn') (h2 : sn + sk_fn ci = sn') (hc : cn' ≤ R.cells) (hsl : sn' ≤ R.slots)
    (kk : sk_G l R μ Ex Z cn' sn' pc' ls (.inr (.inr (some (s, k))) :: st) (sk_mW t' L)) : sk_G l R μ Ex Z cn sn pc ls st (sk_mW t L) := by
  subst hp; subst h0; subst h1; subst h2
  intro p e s0 m args below meth c H locs bb D kc la hH hE hR hS hB hL
  obtain ⟨q, hq, w1, w2, w3⟩ := hk
  obtain ⟨c1, c2, c3, -⟩ := sk_cl ci q hq
  obtain ⟨ty, c4, c5⟩ := sk_dv ci q hq
  have hts := hH.2.2.2.2.2.1
  have hKn := hR.1.1 ci q hq
  have hz : H.size = bb.1 + t := hR.sz ht
  refine W.newcK hH.1 hH.2.1 hH.2.2.2.2.1 (hts _ w1) (hts _ w2) (hts _ w3) rfl hd hc (by rw [c2]; exact hsl) hKn.2.1 rfl fun H1 kC hkC e1 z1 o1 => ?_
  have hR' : sk_RH bb D kc (sk_mW (t + 1) L) s0 H1 := by
    refine sk_RH_add 1 hR ht rfl (show t + 1 ≤ sk_N0 from ht) z1 o1 (fun i _ => rfl) (fun i hi => ?_)
    have hi0 : i = 0 := by omega
    subst hi0
    show va_at D vwCl (bb.1 + (t + 0), sk_ce kc bb (sk_mW (t + 1) L) (sk_ref (t + 0))) H1
    rw [Nat.add_zero, hr, ← hz]
    have ec : sk_ce kc bb (sk_mW (t + 1) L) (s, k) = .inr (ci, (List.range (sk_fn ci)).map (sk_fv bb (sk_mW (t + 1) L) s k ci)) := by
      unfold sk_ce
      rw [show sk_shp (s, k).1 = .inl ci from hs]
    rw [ec]
    refine ⟨q, hq, (u_born ty hts c1 hKn hkC e1 c4).to (fun j hj => ?_)⟩
    rw [c5 j hj]
    show _ = List.getD _ j Value.null
    rw [List.getD_eq_getElem?_getD, sk_fv_at (by rw [← c2]; exact hj)]
    show _ = sk_fv bb (sk_mW (t + 1) L) s k ci j
    unfold sk_fv
    show _ = if sk_fr ci j = true then va_rf (sk_ro bb (sc_r L s k j)) else .int (sc_i L s k j)
    rw [sc_i0 hn, sc_r0 hn]
    rfl
  have := kk p e s0 m args below meth c H1 locs bb D kc la hH hE hR' (sk_S_add hS (by omega) o1) hB hL
  have ea : sk_cv bb (.inr (.inr (some (s, k)))) = .ref H.size := by
    show Value.ref (sk_ad bb (s, k)) = _
    rw [sk_ad_of ht hr, hz]
  rw [List.map_cons, ea] at this
  rw [c2]
  exact this
theorem sk_kcK {D : va_G} {kc : Nat → ClassId} {s0 : State} {kd : Nat} {cA : ClassId} (hK : va_K D vwCl (sk_ty kc) s0) (hkd : kd < 9) (hf : s0.vm.findClass ("[" ++ (sk_kt kd).toString) = some cA) : cA = kc kd := by
  have h1 := (hK.2 kd _ (sk_ty_at hkd)).2
  have h3 : kd = 0 ∨ kd = 1 ∨ kd = 2 ∨ kd = 3 ∨ kd = 4 ∨ kd = 5 ∨ kd = 6 ∨ kd = 7 ∨ kd = 8 := by omega
  have h4 : s0.vm.findClass ("[" ++ (sk_kt kd).toString) = some (kc kd) := by
    rcases h3 with rfl | rfl | rfl | rfl | rfl | rfl | rfl | rfl | rfl
    · exact h1
    · exact h1
    · exact h1
    · exact h1
    · exact h1
    all_goals
      obtain ⟨_, _, _, _, _, h5⟩ := h1
      exact h5
  exact Option.some.inj (hf.symm.trans h4)
/-- newarray -/
theorem sl_newa {kd N s k t : Nat} {n : Int32} {atype : ArrayType} {L : List sc_T} (t' cn' sn' pc' : Nat) (hd : decode μ.2.1 pc = .ok (.newarray atype, 2)) (hp : pc + 2 = pc') (hw : Cond.arrayClass (newarray.typeOf atype) ∈ sk_tg) (hty : newarray.typeOf atype = sk_kt kd) (hkd : kd < 4) (ht : t < sk_N0) (hr : sk_ref t = (s, k)) (hs : sk_shp s = .inr (kd, N)) (hno : sc_no L s k = true) (hn : ¬ n < 0) (hN : n.toNatClampNeg = N) (hb : N * componentBytes (sk_kt kd) ≤ 536870912) (h0 : t + 1 = t') (h1 : cn + 1 = cn') (h2 : sn + N = sn') (hc : cn' ≤ R.cells) (hsl : sn' ≤ R.slots)
    (kk : sk_G l R μ Ex Z cn' sn' pc' ls (.inr (.inr (some (s, k))) :: st) (sk_mW t' L)) : sk_G l R μ Ex Z cn sn pc ls (.inl n :: st) (sk_mW t L) := by
  subst hp; subst h0; subst h1; subst h2
  intro p e s0 m args below meth c H locs bb D kc la hH hE hR hS hB hL
  have hts := hH.2.2.2.2.2.1
  have hz : H.size = bb.1 + t := hR.sz ht
  refine va_newaK (rest := st.map (sk_cv bb)) hH.1 hH.2.1 (hts _ hw) rfl hd rfl hn hN (by rw [hty]; exact hb) hc hsl rfl (fun H1 cA e1 z1 o1 hAr hNm => ?_)
  rw [hty] at hNm e1
  have hcA := sk_kcK hR.1 (by omega) hNm
  subst hcA
  have hR' : sk_RH bb D kc (sk_mW (t + 1) L) s0 H1 := by
    refine sk_RH_add 1 hR ht rfl (show t + 1 ≤ sk_N0 from ht) z1 o1 (fun i _ => rfl) (fun i hi => ?_)
    have hi0 : i = 0 := by omega
    subst hi0
    show va_at D vwCl (bb.1 + (t + 0), sk_ce kc bb (sk_mW (t + 1) L) (sk_ref (t + 0))) H1
    rw [Nat.add_zero, hr, ← hz]
    have ec : sk_ce kc bb (sk_mW (t + 1) L) (s, k) = .inl (kc kd, N, if kd = 1 then .inr (.inl (fun _ => 0)) else .inl (fun _ => 0)) := by
      unfold sk_ce
      rw [show sk_shp (s, k).1 = .inr (kd, N) from hs]
      show Sum.inl (kc kd, N, if kd = 1 then _ else if 4 ≤ kd then _ else Sum.inl (sc_i L s k)) = _
      rw [if_neg (show ¬ 4 ≤ kd by omega), sc_i0 hno]
      rfl
    rw [ec]
    show H1[H.size]? = some (vp_cell (kc kd) (N, if kd = 1 then .inr (.inl (fun _ => 0)) else .inl (fun _ => 0)))
    rw [e1]
    have h3 : kd = 0 ∨ kd = 1 ∨ kd = 2 ∨ kd = 3 := by omega
    rcases h3 with rfl | rfl | rfl | rfl <;> rfl
  have := kk p e s0 m args below meth c H1 locs bb D kc la hH hE hR' (sk_S_add hS (by omega) o1) hB hL
  have ea : sk_cv bb (.inr (.inr (some (s, k)))) = .ref H.size := by
    show Value.ref (sk_ad bb (s, k)) = _
    rw [sk_ad_of ht hr, hz]
  rw [List.map_cons, ea] at this
  exact this
/-- anewarray -/
theorem sl_anew {kd N s k t idx : Nat} {C : String} {n : Int32} {L : List sc_T} (t' cn' sn' pc' : Nat) (hd : decode μ.2.1 pc = .ok (.anewarray idx, 3)) (hp : pc + 3 = pc') (hw : Cond.classLink μ.1.cls idx C ∈ sk_tg) (ho : Cond.arrayOver (.object C) ∈ tables_1) (hty : sk_kt kd = .object C) (hkd : 4 ≤ kd ∧ kd < 9) (ht : t < sk_N0) (hr : sk_ref t = (s, k)) (hs : sk_shp s = .inr (kd, N)) (hno : sc_no L s k = true) (hn : ¬ n < 0) (hN : n.toNatClampNeg = N) (hb : N * 4 ≤ 536870912) (h0 : t + 1 = t') (h1 : cn + 1 = cn') (h2 : sn + N = sn') (hc : cn' ≤ R.cells) (hsl : sn' ≤ R.slots)
    (kk : sk_G l R μ Ex Z cn' sn' pc' ls (.inr (.inr (some (s, k))) :: st) (sk_mW t' L)) : sk_G l R μ Ex Z cn sn pc ls (.inl n :: st) (sk_mW t L) := by
  subst hp; subst h0; subst h1; subst h2; subst hN
  intro p e s0 m args below meth c H locs bb D kc la hH hE hR hS hB hL
  have hts := hH.2.2.2.2.2.1
  have hz : H.size = bb.1 + t := hR.sz ht
  have hov : va_Nw (.arrayOver (.object C)) s0 := hH.2.2.2.2.2.2.2.2 _ (List.mem_filter.mpr ⟨ho, rfl⟩)
  refine W.anew (rest := st.map (sk_cv bb)) hH.1 hH.2.1 hH.2.2.2.2.1 (hts _ hw) (va_AO.use hov) rfl hd rfl hn hb hc hsl fun cA kA comp f1 f2 f3 f4 => ?_
  rw [← hty] at f1
  have hcA := sk_kcK hR.1 (by omega) f1
  subst hcA
  generalize hH1 : H.push ({ cls := kc kd, slots := Array.replicate n.toNatClampNeg .null, vm := .none } : Cell) = H1
  have z1 : H1.size = H.size + 1 := by rw [← hH1, Array.size_push]
  have e1 : H1[H.size]? = some (arrV (kc kd) n.toNatClampNeg (fun _ => .null)) := by rw [← hH1, Array.getElem?_push_size, ← arrV_new]
  have o1 : ∀ q : Nat, q < H.size → H1[q]? = H[q]? := fun q hq => by rw [← hH1, Array.getElem?_push, if_neg (Nat.ne_of_lt hq)]
  have hR' : sk_RH bb D kc (sk_mW (t + 1) L) s0 H1 := by
    refine sk_RH_add 1 hR ht rfl (show t + 1 ≤ sk_N0 from ht) z1 o1 (fun i _ => rfl) (fun i hi => ?_)
    have hi0 : i = 0 := by omega
    subst hi0
    show va_at D vwCl (bb.1 + (t + 0), sk_ce kc bb (sk_mW (t + 1) L) (sk_ref (t + 0))) H1
    rw [Nat.add_zero, hr, ← hz]
    have ec : sk_ce kc bb (sk_mW (t + 1) L) (s, k) = .inl (kc kd, n.toNatClampNeg, .inr (.inr (.inr (.inr (fun _ => none))))) := by
      unfold sk_ce
      rw [show sk_shp (s, k).1 = .inr (kd, n.toNatClampNeg) from hs]
      show Sum.inl (kc kd, n.toNatClampNeg, if kd = 1 then _ else if 4 ≤ kd then Sum.inr (Sum.inr (Sum.inr (Sum.inr (fun j => sk_ro bb (sc_r L s k j))))) else _) = _
      rw [if_neg (show ¬ kd = 1 by omega), if_pos hkd.1, sc_r0 hno]
      rfl
    rw [ec]
    exact e1
  have := kk p e s0 m args below meth c H1 locs bb D kc la hH hE hR' (sk_S_add hS (by omega) o1) hB hL
  have ea : sk_cv bb (.inr (.inr (some (s, k)))) = .ref H.size := by
    show Value.ref (sk_ad bb (s, k)) = _
    rw [sk_ad_of ht hr, hz]
  rw [List.map_cons, ea] at this
  exact this
theorem sl_lv {t s k : Nat} {L : List sc_T} (h : sk_ref (sk_ord s k) = (s, k) ∧ sk_ord s k < t ∧ s < 9000) : sk_lv (sk_mW t L) s k := h
/-- putfield of a number -/
theorem sl_putI {t idx s k ci f : Nat} {ty : FieldType} {x : Int32} {L : List sc_T} (L' : List sc_T) (pc' : Nat) (hL' : (s, k, f, .inl x) :: L = L') (hd : decode μ.2.1 pc = .ok (.putfield idx, 3)) (hp : pc + 3 = pc') (hk : sk_fp μ.1.cls idx ci f ty) (hs : sk_shp s = .inl ci) (hf : sk_fr ci f = false) (hl : sk_ref (sk_ord s k) = (s, k) ∧ sk_ord s k < t ∧ s < 9000) (hn : narrow ty (.int x) = .int x) (hfit : fits ty (.int x) = true) (kk : sk_G l R μ Ex Z cn sn pc' ls st (sk_mW t L')) : sk_G l R μ Ex Z cn sn pc ls (.inl x :: .inr (.inr (some (s, k))) :: st) (sk_mW t L) := by
  subst hL'
  exact sg_putI pc' hd hp hk hs hf (sl_lv hl) hn hfit kk
theorem sg_putF {idx s k ci f : Nat} {a : Nat × Nat} (pc' : Nat) (hd : decode μ.2.1 pc = .ok (.putfield idx, 3)) (hp : pc + 3 = pc') (hk : sk_ff μ.1.cls idx ci f) (hi0 : μ.1.name = "<init>") (hs : sk_shp s = .inl ci) (hf : sk_fr ci f = true) (hl : sk_lv h s k) (kk : sk_G l R μ Ex Z cn sn pc' ls st (sk_pr h s k f (some a))) : sk_G l R μ Ex Z cn sn pc ls (.inr (.inr (some a)) :: .inr (.inr (some (s, k))) :: st) h := by
  subst hp
  intro p e s0 m args below meth c H locs bb D kc la hH hE hR hS hB hL
  obtain ⟨q, hq, hfn, hw, hfin, hdecl⟩ := hk
  obtain ⟨c1, c2, c3, ty0, c4, c5⟩ := sk_cl ci q hq
  have hfn' : f < sk_fn ci := by rw [← c2]; exact hfn
  have hap := va_apart (own := μ.1.cls) hH.2.2.2.2.2.1 c1 ty0 c4 c3 hR.1 hq
  obtain ⟨r, hr1, cell, q1, q2, q3, q4⟩ := hR.2.2.2 _ _ (sk_at_obj hs hl)
  have hr : r = q := Option.some.inj (hr1.symm.trans hq)
  subst hr
  obtain ⟨hS9, hfc, kC, hkC, hkind⟩ := hR.1.1 ci _ hq
  obtain ⟨cf, kf, fi, fd, hi, hsl⟩ := hS9 f hfn
  have hlay := hH.2.2.2.2.2.1 _ (c1 _ (u_in_lay hfn))
  unfold u_lay at hlay
  rw [if_pos hfin] at hlay
  have hst := (u_facts hfc hkC (u_lays hH.2.2.2.2.2.1 c1 hfn) hi).1
  have hcf : m.cls = cf := by
    obtain ⟨_, _, c', _, _, _, -, -, hf', -, -, -, hown2, -⟩ := Cond.laysFinal_spec hlay
    have e1 : c' = cf := by have := hi.symm.trans hf'; simp at this; exact this.1.symm
    rw [hdecl] at hown2
    rw [← e1]; exact Option.some.inj (hH.2.2.2.2.1.symm.trans hown2)
  have hrf := sk_rfv (ty := ty0 f) ((c5 f hfn).trans hf) (sk_ad bb a)
  have h6 := u_fits hfc hkC hkind (Or.inr hlay) hi (c4 f hfn) hrf.1 hrf.2
  refine W.putFinK hH.1 hH.2.1 hH.2.2.2.2.1 (hH.2.2.2.2.2.1 _ hw) hi hst hcf (hH.2.2.2.2.2.2.2.1.trans hi0) (by rw [q2]; exact h6) q1 q3 (by rw [hsl]; exact k2_hasslot (q4 f hfn)) rfl rfl hd fun H' e1 e2 e3 => ?_
  rw [hsl] at e1 ⊢
  refine kk p e s0 m args below meth c H' _ bb D kc la hH hE (hR.set hl rfl (fun a ha => sk_ce_pr ha) ?_ e2 e3) (hS.put e2 e3 (sk_ad_ge hl)) hB hL
  have ec : sk_ce kc bb (sk_pr h s k f (some a)) (s, k) = .inr (ci, (List.range (sk_fn ci)).map (sk_fv bb (sk_pr h s k f (some a)) s k ci)) := by
    unfold sk_ce
    rw [show sk_shp (s, k).1 = .inl ci from hs]
  rw [ec]
  refine ⟨_, hq, t_OB.to (V := updV (vp_V ((List.range (sk_fn ci)).map (sk_fv bb h s k ci))) f (.ref (sk_ad bb a))) ⟨_, e1, q2, q3, t_set q4 hap hfn (.ref (sk_ad bb a))⟩ (fun j _ => ?_)⟩
  rw [vp_updV_set (by rw [List.length_map, List.length_range]; exact hfn'), sk_rset (F' := sk_fv bb (sk_pr h s k f (some a)) s k ci)]
  · unfold sk_fv
    rw [hf]
    simp [sk_pr, sk_up, sk_ro, va_rf]
  · intro j hj
    unfold sk_fv
    simp [sk_pr, sk_up, hj]
theorem sl_putF {t idx s k ci f : Nat} {a : Nat × Nat} {L : List sc_T} (L' : List sc_T) (pc' : Nat) (hL' : (s, k, f, .inr (some a)) :: L = L') (hd : decode μ.2.1 pc = .ok (.putfield idx, 3)) (hp : pc + 3 = pc') (hk : sk_ff μ.1.cls idx ci f) (hi0 : μ.1.name = "<init>") (hs : sk_shp s = .inl ci) (hf : sk_fr ci f = true) (hl : sk_ref (sk_ord s k) = (s, k) ∧ sk_ord s k < t ∧ s < 9000) (kk : sk_G l R μ Ex Z cn sn pc' ls st (sk_mW t L')) : sk_G l R μ Ex Z cn sn pc ls (.inr (.inr (some a)) :: .inr (.inr (some (s, k))) :: st) (sk_mW t L) := by
  subst hL'
  exact sg_putF pc' hd hp hk hi0 hs hf (sl_lv hl) kk
/-- aastore of an object of the array's own class -/
theorem sg_aast {s k kd n ci s2 k2 : Nat} {i : Int32} {q : vw_C} (pc' : Nat) (hd : decode μ.2.1 pc = .ok (.aastore, 1)) (hp : pc + 1 = pc') (hs : sk_shp s = .inr (kd, n)) (hq : vwCl[ci]? = some q) (hkt : sk_kt kd = .object q.1) (hkd : 4 ≤ kd ∧ kd < 9) (hl : sk_lv h s k) (hs2 : sk_shp s2 = .inl ci) (hl2 : sk_lv h s2 k2) (hb : sk_bi i n = true) (kk : sk_G l R μ Ex Z cn sn pc' ls st (sk_pr h s k i.toNatClampNeg (some (s2, k2)))) : sk_G l R μ Ex Z cn sn pc ls (.inr (.inr (some (s2, k2))) :: .inl i :: .inr (.inr (some (s, k))) :: st) h := by
  subst hp
  intro p e s0 m args below meth c H locs bb D kc la hH hE hR hS hB hL
  have hlt := sk_bi.lt hb
  have h0 : ¬ i < 0 := fun z => (sk_bi.v hb) (Or.inl z)
  have ha := sk_at_arr (kc := kc) (bb := bb) (h := h) hs hl
  rw [if_neg (show ¬ kd = 1 by omega), if_pos hkd.1] at ha
  obtain ⟨r', hr', cellV, g1, g2, g3, -⟩ := hR.2.2.2 _ _ (sk_at_obj (kc := kc) (bb := bb) hs2 hl2)
  have hcls := (hR.1.1 ci q hq).2
  have hk2 := (hR.1.2 kd _ (sk_ty_at hkd.2)).2
  rw [hkt] at hk2
  obtain ⟨kA, comp, k1, k2', k3, -⟩ := hk2
  have hcomp : comp = D.1 ci := Option.some.inj (k3.symm.trans hcls.1)
  subst hcomp
  obtain ⟨kC, hkC, -⟩ := hcls.2
  refine W.aast hH.1 hH.2.1 (hR.2.2.2 _ _ ha) (fun z w => by cases w) (fun w => by cases w) k1 k2' rfl hkC ⟨h0, by show _ < (arrV _ _ _).slots.size; rw [arrV_size]; exact hlt⟩ g1 (fun z w => by rw [g3] at w; cases w) (by rw [g2]; exact hkC) (by rw [g2]; exact va_assign hcls) rfl rfl hd fun H1 e1 e2 e3 => ?_
  refine kk p e s0 m args below meth c H1 _ bb D kc la hH hE (hR.set hl rfl (fun a ha => sk_ce_pr ha) ?_ e2 e3) (hS.put e2 e3 (sk_ad_ge hl)) hB hL
  have ec : sk_ce kc bb (sk_pr h s k i.toNatClampNeg (some (s2, k2))) (s, k) = .inl (kc kd, n, .inr (.inr (.inr (.inr (fun j => sk_ro bb (sk_up h.2.2.2 s k i.toNatClampNeg (some (s2, k2)) s k j)))))) := by
    unfold sk_ce
    rw [show sk_shp (s, k).1 = .inr (kd, n) from hs]
    show Sum.inl (kc kd, n, if kd = 1 then _ else if 4 ≤ kd then _ else _) = _
    rw [if_neg (show ¬ kd = 1 by omega), if_pos hkd.1]
    rfl
  rw [ec]
  show H1[sk_ad bb (s, k)]? = some (vp_cell _ _)
  rw [e1]
  rw [vp_cell_q, vp_cell_q, arrV_store]
  congr 2
  funext j
  by_cases hj : j = i.toNatClampNeg
  · subst hj
    simp [updV, sk_up, sk_ro, va_rf]
  · simp [updV, sk_up, hj]
theorem sl_aast {t s k kd n ci s2 k2 : Nat} {i : Int32} {q : vw_C} {L : List sc_T} (L' : List sc_T) (j pc' : Nat) (hL' : (s, k, j, .inr (some (s2, k2))) :: L = L') (hj : i.toNatClampNeg = j) (hd : decode μ.2.1 pc = .ok (.aastore, 1)) (hp : pc + 1 = pc') (hs : sk_shp s = .inr (kd, n)) (hq : vwCl[ci]? = some q) (hkt : sk_kt kd = .object q.1) (hkd : 4 ≤ kd ∧ kd < 9) (hl : sk_ref (sk_ord s k) = (s, k) ∧ sk_ord s k < t ∧ s < 9000) (hs2 : sk_shp s2 = .inl ci) (hl2 : sk_ref (sk_ord s2 k2) = (s2, k2) ∧ sk_ord s2 k2 < t ∧ s2 < 9000) (hb : sk_bi i n = true) (kk : sk_G l R μ Ex Z cn sn pc' ls st (sk_mW t L')) : sk_G l R μ Ex Z cn sn pc ls (.inr (.inr (some (s2, k2))) :: .inl i :: .inr (.inr (some (s, k))) :: st) (sk_mW t L) := by
  subst hL'; subst hj
  exact sg_aast pc' hd hp hs hq hkt hkd (sl_lv hl) hs2 (sl_lv hl2) hb kk
/-- getfield of a reference -/
theorem sl_getR {t idx s k ci f : Nat} {a : Nat × Nat} {L : List sc_T} (pc' : Nat) (hd : decode μ.2.1 pc = .ok (.getfield idx, 3)) (hp : pc + 3 = pc') (hk : sk_fl μ.1.cls idx ci f) (hs : sk_shp s = .inl ci) (hf : sk_fr ci f = true) (hl : sk_ref (sk_ord s k) = (s, k) ∧ sk_ord s k < t ∧ s < 9000) (ha : sc_r L s k f = some a) (kk : sk_G l R μ Ex Z cn sn pc' ls (.inr (.inr (some a)) :: st) (sk_mW t L)) : sk_G l R μ Ex Z cn sn pc ls (.inr (.inr (some (s, k))) :: st) (sk_mW t L) := sg_getR pc' hd hp hk hs hf (sl_lv hl) ha kk
/-- the references to rows, as multianewarray lays them -/
def sc_mw (so sr N : Nat) (L : List sc_T) : List sc_T := (List.range N).map (fun i => (so, 0, i, .inr (some (sr, i)))) ++ L
/-- multianewarray, as it is used here: N rows of 4 numbers *** proved in the last part but one, which wants the whole library -/
def sc_MN : Prop := ∀ (l : Launch) (R : Room) (μ : sk_MI) (Ex : sk_EX) (Z : sk_ZZ) (cn sn pc : Nat) (ls : List (Option sk_AV)) (st : List sk_AV) (idx t N so sr : Nat) (L : List sc_T) (n : Int32), decode μ.2.1 pc = .ok (.multianewarray idx 2, 4) → Cond.classLink μ.1.cls idx "[[I" ∈ sk_tg → Cond.arrayOver (.array .int) ∈ tables_1 → Cond.arrayClass .int ∈ sk_tg → t + 1 + N ≤ sk_N0 → sk_ref t = (so, 0) → (∀ i, i < N → sk_ref (t + 1 + i) = (sr, i)) → so ≠ sr → sk_shp so = .inr (4, N) → sk_shp sr = .inr (0, 4) → sc_no L so 0 = true → (∀ i, i < N → sc_no L sr i = true) → n.toNatClampNeg = N → ¬ n < 0 → N ≤ 100 → cn + (1 + N) ≤ R.cells → sn + (N + N * 4) ≤ R.slots →
  sk_G l R μ Ex Z (cn + 1 + N) (sn + N + N * 4) (pc + 4) ls (.inr (.inr (some (so, 0))) :: st) (sk_mW (t + 1 + N) (sc_mw so sr N L)) → sk_G l R μ Ex Z cn sn pc ls (.inl 4 :: .inl n :: st) (sk_mW t L)
theorem sl_mna (hmn : sc_MN) {idx t N so sr : Nat} {L : List sc_T} {n : Int32} (t' cn' sn' pc' : Nat) (hd : decode μ.2.1 pc = .ok (.multianewarray idx 2, 4)) (hp : pc + 4 = pc') (hw : Cond.classLink μ.1.cls idx "[[I" ∈ sk_tg) (ho : Cond.arrayOver (.array .int) ∈ tables_1) (ha : Cond.arrayClass .int ∈ sk_tg) (h0 : t + 1 + N = t') (h1 : cn + 1 + N = cn') (h2 : sn + N + N * 4 = sn') (ht : t' ≤ sk_N0) (hr : sk_ref t = (so, 0)) (hrr : ∀ i, i < N → sk_ref (t + 1 + i) = (sr, i)) (hne : so ≠ sr) (hs : sk_shp so = .inr (4, N)) (hsr : sk_shp sr = .inr (0, 4)) (hno : sc_no L so 0 = true) (hnr : ∀ i, i < N → sc_no L sr i = true) (hN : n.toNatClampNeg = N) (hn : ¬ n < 0) (h100 : N ≤ 100) (hc : cn' ≤ R.cells) (hsl : sn' ≤ R.slots)
    (kk : sk_G l R μ Ex Z cn' sn' pc' ls (.inr (.inr (some (so, 0))) :: st) (sk_mW t' (sc_mw so sr N L))) : sk_G l R μ Ex Z cn sn pc ls (.inl 4 :: .inl n :: st) (sk_mW t L) := by
  subst hp; subst h0; subst h1; subst h2
  exact hmn l R μ Ex Z cn sn pc ls st idx t N so sr L n hd hw ho ha ht hr hrr hne hs hsr hno hnr hN hn h100 (by omega) (by omega) kk
end SCR
