/-! FROM THE ENTRY TO THE LAW'S PURE FUNCTION *** by program (wip/p49/gen/start.py) -/
theorem kn_L_21 : sk_lkC RL 21 8 := ⟨_, rfl, (sk_in 42 (by decide +kernel) (by decide +kernel)), (sk_in 43 (by decide +kernel) (by decide +kernel)), (sk_in 30 (by decide +kernel) (by decide +kernel))⟩
theorem ki_L_99 : sk_lkI RL 99 m_X8_init := ⟨⟨by decide, by decide, by decide +kernel⟩, rfl, rfl, (sk_in 44 (by decide +kernel) (by decide +kernel)), (sk_in 45 (by decide +kernel) (by decide +kernel)), (sk_in 30 (by decide +kernel) (by decide +kernel)), (sk_in 46 (by decide +kernel) (by decide +kernel))⟩
section SKS
variable {l : Launch} {R : Room} {μ : sk_MI} {Ex : sk_EX} {Z : sk_ZZ} {cn sn pc : Nat} {ls : List (Option sk_AV)} {st : List sk_AV}
theorem sl_callI {μ' : sk_MI} {dp idx s k t t1 : Nat} {L L1 : List sc_T} (cn' sn' pc' : Nat) (hM : sk_M l dp μ' [.inr (.inr (some (s, k)))] (sk_mW t L) none (sk_mW t1 L1)) (hd : decode μ.2.1 pc = .ok (.invokespecial idx, 3)) (hp : pc + 3 = pc') (hk : sk_lkI μ.1.cls idx μ') (hr : sk_rmok dp μ' R cn sn) (h8 : sk_cat8 st ≤ 8) (h1 : cn + μ'.2.2.2.2.1 = cn') (h2 : sn + μ'.2.2.2.2.2 = sn')
    (kk : sk_G l R μ Ex Z cn' sn' pc' ls st (sk_mW t1 L1)) : sk_G l R μ Ex Z cn sn pc ls (.inr (.inr (some (s, k))) :: st) (sk_mW t L) := by
  subst h1; subst h2
  exact sg_callI pc' hM hd hp hk hr h8 kk
theorem sc_G0 (kk : sk_G l R μ Ex Z cn sn pc ls st (sk_mm sc_d0)) : sk_G l R μ Ex Z cn sn pc ls st (sk_mW 121 sc_F) := by
  intro p e s m args below meth c H locs bb D kc la hH hE hR hS hB hL
  exact kk p e s m args below meth c H locs bb D kc la hH hE (sc_RH0 hR) hS hB hL
end SKS
def sx_0 : sk_X := (0, fun _ => 0, fun _ _ => 0)
set_option maxRecDepth 100000 in
set_option maxHeartbeats 4000000 in
theorem law_0 (hmn : sc_MN) {l : Launch} {nm : String} {L : Nat} {xs : Nat → Int32} (hq : q_L_law_8 L xs 0 sc_d0 sx_0 = some 1) : sk_G l room_1 (m_L_law nm) (sx_E sx_El sx_0 L xs) (sx_Z sx_Zl) 0 0 0 [some (.inr (.inr (some (9999, 0)))), none, none, none, none, none, none, none, none, none, none, none, none] [] (sk_mW 0 []) := by
  refine sl_new (ci := 8) (s := 0) (k := 0) 1 1 14 3 (sk_td o_L_law 0 rfl) rfl kn_L_21 (by decide) (by decide +kernel) rfl (by decide +kernel) rfl rfl rfl (Nat.le_of_ble_eq_true rfl) (Nat.le_of_ble_eq_true rfl) ?_
  refine sg_dupR 4 (sk_td o_L_law 1 rfl) rfl ?_
  refine sl_callI 121 5601 7 (s_X8_init hmn) (sk_td o_L_law 2 rfl) rfl ki_L_99 ⟨Nat.le_of_ble_eq_true rfl, Nat.le_of_ble_eq_true rfl, Nat.le_of_ble_eq_true rfl, Nat.le_of_ble_eq_true rfl⟩ (Nat.le_of_ble_eq_true rfl) rfl rfl ?_
  refine sg_astore_n 8 [some (.inr (.inr (some (9999, 0)))), some (.inr (.inr (some (0, 0)))), none, none, none, none, none, none, none, none, none, none, none] (sk_td o_L_law 3 rfl) rfl rfl (Nat.le_of_ble_eq_true rfl) rfl ?_
  refine sc_G0 ?_
  exact t_L_law_8 hq ⟨Nat.le_refl _, Nat.zero_le _⟩ rfl
theorem law_mem {w : Cond} (h : w ∈ sk_tg) : w ∈ lw_tbl := (List.mem_filter.mp h).1
theorem law_kn {s : State} {args : Array Value} (hts : ∀ w ∈ lw_tbl, w.before args s = true) (own : String) (idx ci : Nat) (hk : sk_lkC own idx ci) : ∃ p : ClassId × (Nat → Nat), ∀ q, vwCl[ci]? = some q → u_Kn s q.1 q.2.1 q.2.2 p.1 p.2 := by
  obtain ⟨q, hq, w1, w2, w3⟩ := hk
  obtain ⟨cC, iS, h⟩ := u_known (ws := lw_tbl) hts (fun w hw => law_mem ((sk_cl ci q hq).1 w hw)) (hts _ (law_mem w2))
  exact ⟨(cC, iS), fun q2 h2 => by cases hq.symm.trans h2; exact h⟩
theorem law_D {s : State} {args : Array Value} (hts : ∀ w ∈ lw_tbl, w.before args s = true) : ∃ D : va_G, ∀ (c : Nat) (q : vw_C), vwCl[c]? = some q → u_Kn s q.1 q.2.1 q.2.2 (D.1 c) (D.2 c) := by
  have H : ∀ ci : Nat, ∃ p : ClassId × (Nat → Nat), ∀ q, vwCl[ci]? = some q → u_Kn s q.1 q.2.1 q.2.2 p.1 p.2 := by
    intro ci
    match ci with
    | 0 => exact law_kn hts _ _ _ kn_X8_15
    | 1 => exact law_kn hts _ _ _ kn_X8_21
    | 2 => exact law_kn hts _ _ _ kn_X8_27
    | 3 => exact law_kn hts _ _ _ kn_X8_37
    | 4 => exact law_kn hts _ _ _ kn_X8_9
    | 5 => exact law_kn hts _ _ _ kn_X8_58
    | 6 => exact law_kn hts _ _ _ kn_X8_51
    | 7 => exact law_kn hts _ _ _ kn_X8_44
    | 8 => exact law_kn hts _ _ _ kn_L_21
    | n + 9 => exact ⟨(0, fun _ => 0), fun q h => by simp [vwCl] at h⟩
  exact ⟨(fun ci => (Classical.choose (H ci)).1, fun ci => (Classical.choose (H ci)).2), fun c q h => Classical.choose_spec (H c) q h⟩
theorem law_at {s : State} {ty : FieldType} {cA comp : ClassId} {k : Class} (h2 : s.vm.classes[cA]? = some k) (h3 : k.kind = .array comp ty) : ArrOfT s cA ty := fun n z => ⟨fun k h => (by cases h), k, h2, comp, h3⟩
theorem law_prim {s : State} {args : Array Value} {ty : FieldType} (h : (Cond.arrayClass ty).before args s = true) : ∃ cA, ArrOfT s cA ty ∧ s.vm.findClass ("[" ++ ty.toString) = some cA := by
  obtain ⟨c, k, comp, h1, h2, h3⟩ := Cond.arrayClass_spec h
  exact ⟨c, law_at h2 h3, h1⟩
theorem law_objA {s : State} {args : Array Value} {C : String} (h : (Cond.arrayOver (.object C)).before args s = true) : ∃ cA, ArrOfT s cA (.object C) ∧ va_RA s cA (.object C) := by
  obtain ⟨comp, c, k, h1, h2, h3, h4, h5⟩ := Cond.arrayOver_spec h
  exact ⟨c, law_at h3 h4, k, comp, h3, h4, h1, h5⟩
theorem law_arrA {s : State} {args : Array Value} {t : FieldType} (h : (Cond.arrayOver (.array t)).before args s = true) : ∃ cA, ArrOfT s cA (.array t) ∧ va_RA s cA (.array t) := by
  obtain ⟨comp, c, k, h1, h2, h3, h4, h5⟩ := arrayOverA_spec h
  exact ⟨c, law_at h3 h4, h5⟩
theorem law_t1 {w : Cond} (h : w ∈ tables_1) : w ∈ lw_tbl := List.mem_append_right _ h
theorem law_kc {s : State} {args : Array Value} (hts : ∀ w ∈ lw_tbl, w.before args s = true) : ∃ kc : Nat → ClassId, ∀ kd, kd < 9 → ArrOfT s (kc kd) (sk_kt kd) ∧ va_RA s (kc kd) (sk_kt kd) := by
  have H : ∀ kd : Nat, ∃ cA : ClassId, kd < 9 → ArrOfT s cA (sk_kt kd) ∧ va_RA s cA (sk_kt kd) := by
    intro kd
    match kd with
    | 0 => obtain ⟨c, h1, h2⟩ := law_prim (ty := .int) (hts _ (law_mem kar_int)); exact ⟨c, fun _ => ⟨h1, h2⟩⟩
    | 1 => obtain ⟨c, h1, h2⟩ := law_prim (ty := .long) (hts _ (law_mem kar_long)); exact ⟨c, fun _ => ⟨h1, h2⟩⟩
    | 2 => obtain ⟨c, h1, h2⟩ := law_prim (ty := .boolean) (hts _ (law_mem kar_boolean)); exact ⟨c, fun _ => ⟨h1, h2⟩⟩
    | 3 => obtain ⟨c, h1, h2⟩ := law_prim (ty := .char) (hts _ (law_mem kar_char)); exact ⟨c, fun _ => ⟨h1, h2⟩⟩
    | 4 => obtain ⟨c, h1, h2⟩ := law_arrA (t := .int) (hts _ (law_t1 kov_int)); exact ⟨c, fun _ => ⟨h1, h2⟩⟩
    | 5 => obtain ⟨c, h1, h2⟩ := law_objA (hts _ (law_t1 kov_Pupil)); exact ⟨c, fun _ => ⟨h1, h2⟩⟩
    | 6 => obtain ⟨c, h1, h2⟩ := law_objA (hts _ (law_t1 kov_Group)); exact ⟨c, fun _ => ⟨h1, h2⟩⟩
    | 7 => obtain ⟨c, h1, h2⟩ := law_objA (hts _ (law_t1 kov_Instructor)); exact ⟨c, fun _ => ⟨h1, h2⟩⟩
    | 8 => obtain ⟨c, h1, h2⟩ := law_objA (hts _ (law_t1 kov_Lift)); exact ⟨c, fun _ => ⟨h1, h2⟩⟩
    | n + 9 => exact ⟨0, fun h => absurd h (by omega)⟩
  exact ⟨fun kd => Classical.choose (H kd), fun kd h => Classical.choose_spec (H kd) h⟩
theorem law_Nx {s : State} {args : Array Value} (hts : ∀ w ∈ lw_tbl, w.before args s = true) : sk_Nx s := by
  intro w hw
  obtain ⟨h1, h2⟩ := List.mem_filter.mp hw
  have h3 := hts w (law_t1 h1)
  cases w <;> first | exact va_Nw.of rfl h3 | exact (show va_Nw _ s from h3) | (simp [sk_nest] at h2; done)
set_option maxHeartbeats 4000000 in
theorem law_start (hmn : sc_MN) {p : Program} {e : Env} {s : State} {m : MethodId} {below : List Frame} {meth : Method} {c : Code} (l : Launch) {b L : Nat} {xs : Nat → Int32} (hq : q_L_law_8 L xs 0 sc_d0 sx_0 = some 1) (C0 : lw_At p s m meth c b L xs) : W p l e room_1 s m #[Value.ref b] below meth c s.heap [] 0 0 (lw_Z below #[Value.ref b] s) (entryFrame m ([Value.ref b] : List Value).toArray 13) := by
  obtain ⟨hx, hb, hr, hml, hown, hts, hX, hbl, hlocks, hgv⟩ := C0
  obtain ⟨D, hD⟩ := law_D hts
  obtain ⟨kc, hkc⟩ := law_kc hts
  have hK : va_K D vwCl (sk_ty kc) s := by
    refine ⟨hD, fun k q hk => ?_⟩
    have hlt : k < 9 := by
      have := (List.getElem?_eq_some_iff.mp hk).1
      unfold sk_ty at this
      rw [List.length_map, List.length_range] at this
      exact this
    rw [sk_ty_at hlt] at hk
    cases hk
    exact hkc k hlt
  have hl := lv_entry ([.ref b]) (n := 13) (Nat.le_of_ble_eq_true rfl)
  rw [lg_entry_eq]
  refine law_0 hmn (l := l) (nm := meth.name) (xs := xs) hq p e s m _ below meth c s.heap [] (s.heap.size, b, sx_0) D kc _ ⟨hx, hb, hr, hml, hown, fun w hw => hts w (law_mem hw), hlocks, rfl, law_Nx hts⟩ ⟨⟨rfl, rfl⟩, rfl, hX, hbl⟩ ⟨hK, ⟨rfl, fun _ => rfl⟩, Nat.zero_le _, fun k q hk => by cases hk⟩ va_S.rf (Nat.le_refl _) ⟨hl.1, hl.2.1, rfl, ?_⟩
  intro i v hi
  match i, hi with
  | 0, hi =>
    cases hi
    exact hl.2.2 (0, .ref b) (by simp [lv_args])
  | 1, hi | 2, hi | 3, hi | 4, hi | 5, hi | 6, hi | 7, hi | 8, hi | 9, hi | 10, hi | 11, hi | 12, hi => cases hi
  | n + 13, hi => cases hi
