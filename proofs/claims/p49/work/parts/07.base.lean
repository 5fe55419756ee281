/-! what the decompiled methods rest on -/
theorem sz_0 : 0 < sk_cnt 0 := by decide
theorem sz_1 : 0 < sk_cnt 1 := by decide
theorem sz_2 : 0 < sk_cnt 2 := by decide
theorem sz_3 : 0 < sk_cnt 3 := by decide
theorem sz_4 : 0 < sk_cnt 4 := by decide
theorem sz_5 : 0 < sk_cnt 5 := by decide
theorem sz_6 : 0 < sk_cnt 6 := by decide
theorem sz_7 : 0 < sk_cnt 7 := by decide
theorem sz_8 : 0 < sk_cnt 8 := by decide
theorem sz_9 : 0 < sk_cnt 9 := by decide
theorem sz_10 : 0 < sk_cnt 10 := by decide
theorem sz_11 : 0 < sk_cnt 11 := by decide
theorem sz_12 : 0 < sk_cnt 12 := by decide
theorem sz_13 : 0 < sk_cnt 13 := by decide
theorem sz_14 : 0 < sk_cnt 14 := by decide
theorem sz_15 : 0 < sk_cnt 15 := by decide
theorem sz_16 : 0 < sk_cnt 16 := by decide
theorem sz_17 : 0 < sk_cnt 17 := by decide
theorem sz_18 : 0 < sk_cnt 18 := by decide
theorem sz_19 : 0 < sk_cnt 19 := by decide
theorem sz_20 : 0 < sk_cnt 20 := by decide
theorem sz_21 : 0 < sk_cnt 21 := by decide
theorem sz_22 : 0 < sk_cnt 22 := by decide
theorem sz_23 : 0 < sk_cnt 23 := by decide
theorem sz_24 : 0 < sk_cnt 24 := by decide
theorem sz_25 : 0 < sk_cnt 25 := by decide
theorem sz_26 : 0 < sk_cnt 26 := by decide
theorem sz_27 : 0 < sk_cnt 27 := by decide
theorem sz_28 : 0 < sk_cnt 28 := by decide
theorem sz_29 : 0 < sk_cnt 29 := by decide
theorem sz_30 : 0 < sk_cnt 30 := by decide
theorem sz_31 : 0 < sk_cnt 31 := by decide
theorem sz_32 : 0 < sk_cnt 32 := by decide
theorem sz_33 : 0 < sk_cnt 33 := by decide
theorem sz_34 : 0 < sk_cnt 34 := by decide
theorem sz_35 : 0 < sk_cnt 35 := by decide
theorem sz_36 : 0 < sk_cnt 36 := by decide
theorem sz_37 : 0 < sk_cnt 37 := by decide
theorem sz_38 : 0 < sk_cnt 38 := by decide
theorem sz_39 : 0 < sk_cnt 39 := by decide
theorem sz_40 : 0 < sk_cnt 40 := by decide
theorem sz_41 : 0 < sk_cnt 41 := by decide
theorem sz_42 : 0 < sk_cnt 42 := by decide
theorem sz_43 : 0 < sk_cnt 43 := by decide
theorem sr_1 {f : Nat} (h : f < 20) : sk_dr 1 0 f = some (37, f) := if_pos h
theorem sr_2 {f : Nat} (h : f < 4) : sk_dr 2 0 f = some (39, f) := if_pos h
theorem sr_3 {f : Nat} (h : f < 8) : sk_dr 3 0 f = some (42, f) := if_pos h
theorem sr_4 {f : Nat} (h : f < 3) : sk_dr 4 0 f = some (43, f) := if_pos h
theorem sr_9 {f : Nat} (h : f < 20) : sk_dr 9 0 f = some (10, f) := if_pos h
theorem sr_32 {f : Nat} (h : f < 3) : sk_dr 32 0 f = some (33, f) := if_pos h
theorem sk_td {c : ByteArray} {t : List (Nat × Instr × Nat)} (h : t.all (fun q => decide (decode c q.1 = .ok q.2)) = true) (i : Nat) {pc : Nat} {ins : Instr} {n : Nat} (hi : t[i]? = some (pc, ins, n)) : decode c pc = .ok (ins, n) := by
  have h2 := List.all_eq_true.mp h (pc, ins, n) (List.mem_of_getElem? hi)
  simp only [decide_eq_true_eq] at h2
  exact h2
theorem sk_ifn {c : Prop} {hc : Decidable c} {β : Type} {x : Option β} {r : β} (h : (@ite _ c hc x none) = some r) : c ∧ x = some r := by
  by_cases q : c
  · rw [if_pos q] at h
    exact ⟨q, h⟩
  · rw [if_neg q] at h
    cases h
theorem sk_bnd {α β : Type} {o : Option α} {f : α → Option β} {r : β} (h : o.bind f = some r) : ∃ x, o = some x ∧ f x = some r := by
  cases o with
  | none => cases h
  | some x => exact ⟨x, rfl, h⟩
def sk_it {α β : Type} (body : (α → Option β) → α → Option β) : Nat → α → Option β
  | 0 => fun _ => none
  | n + 1 => fun a => body (sk_it body n) a
theorem sk_it_ind {α β : Type} {P : α → β → Prop} {body : (α → Option β) → α → Option β} (hb : ∀ rec : α → Option β, (∀ a r, rec a = some r → P a r) → ∀ a r, body rec a = some r → P a r) : ∀ (n : Nat) (a : α) (r : β), sk_it body n a = some r → P a r
  | 0, _, _, h => by cases h
  | n + 1, a, r, h => hb (sk_it body n) (fun a r h => sk_it_ind hb n a r h) a r h
def sk_fu : Nat := 20000
theorem sk_rok {dp ht : Nat} {μ' : sk_MI} (h1 : dp + 1 ≤ ht) (h2 : 8 + (μ'.2.2.1 + 11) + 60 * dp ≤ 60 * ht) (h3 : μ'.2.2.2.2.1 = 0) (h4 : μ'.2.2.2.2.2 = 0) : sk_rmok dp μ' (sk_rm ht 0 0) 0 0 := ⟨h1, h2, by rw [h3]; exact Nat.le_refl 0, by rw [h4]; exact Nat.le_refl 0⟩
def sk_nb (x : Int32) : Bool := decide (x = 0 ∨ x = 1)
theorem sk_nb.z {x : Int32} (h : sk_nb x = true) : narrow .boolean (.int x) = .int x := by
  rcases (of_decide_eq_true h : x = 0 ∨ x = 1) with rfl | rfl <;> decide
def sk_fi (d : sk_D) (s k n : Nat) (v : Int32) : sk_D := sk_wf d s k (fun j => if j < n then v else d.1 s k j)
def sk_lkM (own : String) (idx : Nat) (nm : MethodName) (cc : ByteArray) (n : Nat) : Prop := Cond.methodLink own idx nm ∈ sk_tg ∧ Cond.static nm ∈ sk_tg ∧ Cond.initialized "java/lang/Math" ∈ sk_tg ∧ Cond.code nm cc n (some .int) ∈ sk_tg
/-- locals that are looked at no more are let go -/
def sk_msk : List Bool → List (Option sk_AV) → List (Option sk_AV)
  | [], vs => vs
  | _ :: _, [] => []
  | true :: bs, v :: vs => v :: sk_msk bs vs
  | false :: bs, _ :: vs => none :: sk_msk bs vs
theorem sk_msk_len : ∀ (bs : List Bool) (vs : List (Option sk_AV)), (sk_msk bs vs).length = vs.length
  | [], _ => rfl
  | _ :: _, [] => rfl
  | true :: bs, _ :: vs => congrArg Nat.succ (sk_msk_len bs vs)
  | false :: bs, _ :: vs => congrArg Nat.succ (sk_msk_len bs vs)
theorem sk_msk_get : ∀ (bs : List Bool) (vs : List (Option sk_AV)) (i : Nat) (v : sk_AV), (sk_msk bs vs)[i]? = some (some v) → vs[i]? = some (some v)
  | [], _, _, _, h => h
  | _ :: _, [], _, _, h => h
  | true :: _, _ :: _, 0, _, h => h
  | true :: bs, _ :: vs, i + 1, v, h => sk_msk_get bs vs i v h
  | false :: _, _ :: _, 0, _, h => by cases h
  | false :: bs, _ :: vs, i + 1, v, h => sk_msk_get bs vs i v h
theorem sk_rok2 {dp ht : Nat} {μ' : sk_MI} (h1 : dp + 1 ≤ ht) (h2 : 8 + (μ'.2.2.1 + 11) + 60 * dp ≤ 60 * ht) (h3 : μ'.2.2.2.2.1 = 0) (h4 : μ'.2.2.2.2.2 = 0) : sk_rmok dp μ' (sk_rm ht 0 0) 0 0 := sk_rok h1 h2 h3 h4
section SMC
variable {l : Launch} {R : Room} {μ : sk_MI} {Ex : sk_EX} {Z : sk_ZZ} {pc : Nat} {ls : List (Option sk_AV)} {st : List sk_AV} {d : sk_D}
theorem sm_callV0i {μ' : sk_MI} {dp idx s k ci : Nat} {x : Int32} {h' : sk_Mem} (pc' : Nat) (hM : sk_M l dp μ' [.inr (.inr (some (s, k)))] (sk_mm d) (some (.inl x)) h') (hd : decode μ.2.1 pc = .ok (.invokevirtual idx, 3)) (hp : pc + 3 = pc') (hk : sk_lkV μ.1.cls idx μ' 0) (hz : μ'.2.2.2.2 = (0, 0)) (hs : sk_shp s = .inl ci) (hci : (vwCl[ci]?).map (fun q => q.1) = some μ'.1.cls) (hl : k < sk_cnt s) (hr : sk_rmok dp μ' R 0 0) (h8 : sk_cat8 st ≤ 8)
    (kk : sk_G l R μ Ex Z 0 0 pc' ls (.inl x :: st) h') : sk_G l R μ Ex Z 0 0 pc ls (.inr (.inr (some (s, k))) :: st) (sk_mm d) := by
  refine sg_callV (as := []) pc' hM hd hp hk rfl hs hci (sk_lvm hl) hr h8 ?_
  rw [hz]
  exact kk
theorem sm_callV0l {μ' : sk_MI} {dp idx s k ci : Nat} {x : Int64} {h' : sk_Mem} (pc' : Nat) (hM : sk_M l dp μ' [.inr (.inr (some (s, k)))] (sk_mm d) (some (.inr (.inl x))) h') (hd : decode μ.2.1 pc = .ok (.invokevirtual idx, 3)) (hp : pc + 3 = pc') (hk : sk_lkV μ.1.cls idx μ' 0) (hz : μ'.2.2.2.2 = (0, 0)) (hs : sk_shp s = .inl ci) (hci : (vwCl[ci]?).map (fun q => q.1) = some μ'.1.cls) (hl : k < sk_cnt s) (hr : sk_rmok dp μ' R 0 0) (h8 : sk_cat8 st ≤ 8)
    (kk : sk_G l R μ Ex Z 0 0 pc' ls (.inr (.inl x) :: st) h') : sk_G l R μ Ex Z 0 0 pc ls (.inr (.inr (some (s, k))) :: st) (sk_mm d) := by
  refine sg_callV (as := []) pc' hM hd hp hk rfl hs hci (sk_lvm hl) hr h8 ?_
  rw [hz]
  exact kk
theorem sm_callV0v {μ' : sk_MI} {dp idx s k ci : Nat} {h' : sk_Mem} (pc' : Nat) (hM : sk_M l dp μ' [.inr (.inr (some (s, k)))] (sk_mm d) none h') (hd : decode μ.2.1 pc = .ok (.invokevirtual idx, 3)) (hp : pc + 3 = pc') (hk : sk_lkV μ.1.cls idx μ' 0) (hz : μ'.2.2.2.2 = (0, 0)) (hs : sk_shp s = .inl ci) (hci : (vwCl[ci]?).map (fun q => q.1) = some μ'.1.cls) (hl : k < sk_cnt s) (hr : sk_rmok dp μ' R 0 0) (h8 : sk_cat8 st ≤ 8)
    (kk : sk_G l R μ Ex Z 0 0 pc' ls (st) h') : sk_G l R μ Ex Z 0 0 pc ls (.inr (.inr (some (s, k))) :: st) (sk_mm d) := by
  refine sg_callV (as := []) pc' hM hd hp hk rfl hs hci (sk_lvm hl) hr h8 ?_
  rw [hz]
  exact kk
theorem sm_callV1i {μ' : sk_MI} {dp idx s k ci : Nat} {a0 : sk_AV} {x : Int32} {h' : sk_Mem} (pc' : Nat) (hM : sk_M l dp μ' [.inr (.inr (some (s, k))), a0] (sk_mm d) (some (.inl x)) h') (hd : decode μ.2.1 pc = .ok (.invokevirtual idx, 3)) (hp : pc + 3 = pc') (hk : sk_lkV μ.1.cls idx μ' 1) (hz : μ'.2.2.2.2 = (0, 0)) (hs : sk_shp s = .inl ci) (hci : (vwCl[ci]?).map (fun q => q.1) = some μ'.1.cls) (hl : k < sk_cnt s) (hr : sk_rmok dp μ' R 0 0) (h8 : sk_cat8 st ≤ 8)
    (kk : sk_G l R μ Ex Z 0 0 pc' ls (.inl x :: st) h') : sk_G l R μ Ex Z 0 0 pc ls (a0 :: .inr (.inr (some (s, k))) :: st) (sk_mm d) := by
  refine sg_callV (as := [a0]) pc' hM hd hp hk rfl hs hci (sk_lvm hl) hr h8 ?_
  rw [hz]
  exact kk
theorem sm_callS1i {μ' : sk_MI} {dp idx : Nat} {a0 : sk_AV} {x : Int32} {h' : sk_Mem} (pc' : Nat) (hM : sk_M l dp μ' [a0] (sk_mm d) (some (.inl x)) h') (hd : decode μ.2.1 pc = .ok (.invokestatic idx, 3)) (hp : pc + 3 = pc') (hk : sk_lkS μ.1.cls idx μ' 1) (hz : μ'.2.2.2.2 = (0, 0)) (hr : sk_rmok dp μ' R 0 0) (h8 : sk_cat8 st ≤ 8)
    (kk : sk_G l R μ Ex Z 0 0 pc' ls (.inl x :: st) h') : sk_G l R μ Ex Z 0 0 pc ls (a0 :: st) (sk_mm d) := by
  refine sg_callS (as := [a0]) pc' hM hd hp hk rfl hr h8 ?_
  rw [hz]
  exact kk
theorem sm_callN1i {μ' : sk_MI} {dp idx : Nat} {a0 : sk_AV} {x : Int32} {h' : sk_Mem} (pc' : Nat) (hM : sk_M l dp μ' [a0] (sk_mm d) (some (.inl x)) h') (hd : decode μ.2.1 pc = .ok (.invokestatic idx, 3)) (hp : pc + 3 = pc') (hk : sk_lkN μ.1.cls idx "SkiSchool" μ' 1) (hz : μ'.2.2.2.2 = (0, 0)) (hr : sk_rmok dp μ' R 0 0) (h8 : sk_cat8 st ≤ 8)
    (kk : sk_G l R μ Ex Z 0 0 pc' ls (.inl x :: st) h') : sk_G l R μ Ex Z 0 0 pc ls (a0 :: st) (sk_mm d) := by
  refine sg_callN (as := [a0]) pc' hM hd hp hk rfl hr h8 ?_
  rw [hz]
  exact kk
theorem sm_callV1l {μ' : sk_MI} {dp idx s k ci : Nat} {a0 : sk_AV} {x : Int64} {h' : sk_Mem} (pc' : Nat) (hM : sk_M l dp μ' [.inr (.inr (some (s, k))), a0] (sk_mm d) (some (.inr (.inl x))) h') (hd : decode μ.2.1 pc = .ok (.invokevirtual idx, 3)) (hp : pc + 3 = pc') (hk : sk_lkV μ.1.cls idx μ' 1) (hz : μ'.2.2.2.2 = (0, 0)) (hs : sk_shp s = .inl ci) (hci : (vwCl[ci]?).map (fun q => q.1) = some μ'.1.cls) (hl : k < sk_cnt s) (hr : sk_rmok dp μ' R 0 0) (h8 : sk_cat8 st ≤ 8)
    (kk : sk_G l R μ Ex Z 0 0 pc' ls (.inr (.inl x) :: st) h') : sk_G l R μ Ex Z 0 0 pc ls (a0 :: .inr (.inr (some (s, k))) :: st) (sk_mm d) := by
  refine sg_callV (as := [a0]) pc' hM hd hp hk rfl hs hci (sk_lvm hl) hr h8 ?_
  rw [hz]
  exact kk
theorem sm_callS1l {μ' : sk_MI} {dp idx : Nat} {a0 : sk_AV} {x : Int64} {h' : sk_Mem} (pc' : Nat) (hM : sk_M l dp μ' [a0] (sk_mm d) (some (.inr (.inl x))) h') (hd : decode μ.2.1 pc = .ok (.invokestatic idx, 3)) (hp : pc + 3 = pc') (hk : sk_lkS μ.1.cls idx μ' 1) (hz : μ'.2.2.2.2 = (0, 0)) (hr : sk_rmok dp μ' R 0 0) (h8 : sk_cat8 st ≤ 8)
    (kk : sk_G l R μ Ex Z 0 0 pc' ls (.inr (.inl x) :: st) h') : sk_G l R μ Ex Z 0 0 pc ls (a0 :: st) (sk_mm d) := by
  refine sg_callS (as := [a0]) pc' hM hd hp hk rfl hr h8 ?_
  rw [hz]
  exact kk
theorem sm_callN1l {μ' : sk_MI} {dp idx : Nat} {a0 : sk_AV} {x : Int64} {h' : sk_Mem} (pc' : Nat) (hM : sk_M l dp μ' [a0] (sk_mm d) (some (.inr (.inl x))) h') (hd : decode μ.2.1 pc = .ok (.invokestatic idx, 3)) (hp : pc + 3 = pc') (hk : sk_lkN μ.1.cls idx "SkiSchool" μ' 1) (hz : μ'.2.2.2.2 = (0, 0)) (hr : sk_rmok dp μ' R 0 0) (h8 : sk_cat8 st ≤ 8)
    (kk : sk_G l R μ Ex Z 0 0 pc' ls (.inr (.inl x) :: st) h') : sk_G l R μ Ex Z 0 0 pc ls (a0 :: st) (sk_mm d) := by
  refine sg_callN (as := [a0]) pc' hM hd hp hk rfl hr h8 ?_
  rw [hz]
  exact kk
theorem sm_callV1v {μ' : sk_MI} {dp idx s k ci : Nat} {a0 : sk_AV} {h' : sk_Mem} (pc' : Nat) (hM : sk_M l dp μ' [.inr (.inr (some (s, k))), a0] (sk_mm d) none h') (hd : decode μ.2.1 pc = .ok (.invokevirtual idx, 3)) (hp : pc + 3 = pc') (hk : sk_lkV μ.1.cls idx μ' 1) (hz : μ'.2.2.2.2 = (0, 0)) (hs : sk_shp s = .inl ci) (hci : (vwCl[ci]?).map (fun q => q.1) = some μ'.1.cls) (hl : k < sk_cnt s) (hr : sk_rmok dp μ' R 0 0) (h8 : sk_cat8 st ≤ 8)
    (kk : sk_G l R μ Ex Z 0 0 pc' ls (st) h') : sk_G l R μ Ex Z 0 0 pc ls (a0 :: .inr (.inr (some (s, k))) :: st) (sk_mm d) := by
  refine sg_callV (as := [a0]) pc' hM hd hp hk rfl hs hci (sk_lvm hl) hr h8 ?_
  rw [hz]
  exact kk
theorem sm_callS1v {μ' : sk_MI} {dp idx : Nat} {a0 : sk_AV} {h' : sk_Mem} (pc' : Nat) (hM : sk_M l dp μ' [a0] (sk_mm d) none h') (hd : decode μ.2.1 pc = .ok (.invokestatic idx, 3)) (hp : pc + 3 = pc') (hk : sk_lkS μ.1.cls idx μ' 1) (hz : μ'.2.2.2.2 = (0, 0)) (hr : sk_rmok dp μ' R 0 0) (h8 : sk_cat8 st ≤ 8)
    (kk : sk_G l R μ Ex Z 0 0 pc' ls (st) h') : sk_G l R μ Ex Z 0 0 pc ls (a0 :: st) (sk_mm d) := by
  refine sg_callS (as := [a0]) pc' hM hd hp hk rfl hr h8 ?_
  rw [hz]
  exact kk
theorem sm_callN1v {μ' : sk_MI} {dp idx : Nat} {a0 : sk_AV} {h' : sk_Mem} (pc' : Nat) (hM : sk_M l dp μ' [a0] (sk_mm d) none h') (hd : decode μ.2.1 pc = .ok (.invokestatic idx, 3)) (hp : pc + 3 = pc') (hk : sk_lkN μ.1.cls idx "SkiSchool" μ' 1) (hz : μ'.2.2.2.2 = (0, 0)) (hr : sk_rmok dp μ' R 0 0) (h8 : sk_cat8 st ≤ 8)
    (kk : sk_G l R μ Ex Z 0 0 pc' ls (st) h') : sk_G l R μ Ex Z 0 0 pc ls (a0 :: st) (sk_mm d) := by
  refine sg_callN (as := [a0]) pc' hM hd hp hk rfl hr h8 ?_
  rw [hz]
  exact kk
theorem sm_callV2i {μ' : sk_MI} {dp idx s k ci : Nat} {a0 a1 : sk_AV} {x : Int32} {h' : sk_Mem} (pc' : Nat) (hM : sk_M l dp μ' [.inr (.inr (some (s, k))), a0, a1] (sk_mm d) (some (.inl x)) h') (hd : decode μ.2.1 pc = .ok (.invokevirtual idx, 3)) (hp : pc + 3 = pc') (hk : sk_lkV μ.1.cls idx μ' 2) (hz : μ'.2.2.2.2 = (0, 0)) (hs : sk_shp s = .inl ci) (hci : (vwCl[ci]?).map (fun q => q.1) = some μ'.1.cls) (hl : k < sk_cnt s) (hr : sk_rmok dp μ' R 0 0) (h8 : sk_cat8 st ≤ 8)
    (kk : sk_G l R μ Ex Z 0 0 pc' ls (.inl x :: st) h') : sk_G l R μ Ex Z 0 0 pc ls (a1 :: a0 :: .inr (.inr (some (s, k))) :: st) (sk_mm d) := by
  refine sg_callV (as := [a0, a1]) pc' hM hd hp hk rfl hs hci (sk_lvm hl) hr h8 ?_
  rw [hz]
  exact kk
theorem sm_callS2i {μ' : sk_MI} {dp idx : Nat} {a0 a1 : sk_AV} {x : Int32} {h' : sk_Mem} (pc' : Nat) (hM : sk_M l dp μ' [a0, a1] (sk_mm d) (some (.inl x)) h') (hd : decode μ.2.1 pc = .ok (.invokestatic idx, 3)) (hp : pc + 3 = pc') (hk : sk_lkS μ.1.cls idx μ' 2) (hz : μ'.2.2.2.2 = (0, 0)) (hr : sk_rmok dp μ' R 0 0) (h8 : sk_cat8 st ≤ 8)
    (kk : sk_G l R μ Ex Z 0 0 pc' ls (.inl x :: st) h') : sk_G l R μ Ex Z 0 0 pc ls (a1 :: a0 :: st) (sk_mm d) := by
  refine sg_callS (as := [a0, a1]) pc' hM hd hp hk rfl hr h8 ?_
  rw [hz]
  exact kk
theorem sm_callN2i {μ' : sk_MI} {dp idx : Nat} {a0 a1 : sk_AV} {x : Int32} {h' : sk_Mem} (pc' : Nat) (hM : sk_M l dp μ' [a0, a1] (sk_mm d) (some (.inl x)) h') (hd : decode μ.2.1 pc = .ok (.invokestatic idx, 3)) (hp : pc + 3 = pc') (hk : sk_lkN μ.1.cls idx "SkiSchool" μ' 2) (hz : μ'.2.2.2.2 = (0, 0)) (hr : sk_rmok dp μ' R 0 0) (h8 : sk_cat8 st ≤ 8)
    (kk : sk_G l R μ Ex Z 0 0 pc' ls (.inl x :: st) h') : sk_G l R μ Ex Z 0 0 pc ls (a1 :: a0 :: st) (sk_mm d) := by
  refine sg_callN (as := [a0, a1]) pc' hM hd hp hk rfl hr h8 ?_
  rw [hz]
  exact kk
theorem sm_callV2l {μ' : sk_MI} {dp idx s k ci : Nat} {a0 a1 : sk_AV} {x : Int64} {h' : sk_Mem} (pc' : Nat) (hM : sk_M l dp μ' [.inr (.inr (some (s, k))), a0, a1] (sk_mm d) (some (.inr (.inl x))) h') (hd : decode μ.2.1 pc = .ok (.invokevirtual idx, 3)) (hp : pc + 3 = pc') (hk : sk_lkV μ.1.cls idx μ' 2) (hz : μ'.2.2.2.2 = (0, 0)) (hs : sk_shp s = .inl ci) (hci : (vwCl[ci]?).map (fun q => q.1) = some μ'.1.cls) (hl : k < sk_cnt s) (hr : sk_rmok dp μ' R 0 0) (h8 : sk_cat8 st ≤ 8)
    (kk : sk_G l R μ Ex Z 0 0 pc' ls (.inr (.inl x) :: st) h') : sk_G l R μ Ex Z 0 0 pc ls (a1 :: a0 :: .inr (.inr (some (s, k))) :: st) (sk_mm d) := by
  refine sg_callV (as := [a0, a1]) pc' hM hd hp hk rfl hs hci (sk_lvm hl) hr h8 ?_
  rw [hz]
  exact kk
theorem sm_callS2l {μ' : sk_MI} {dp idx : Nat} {a0 a1 : sk_AV} {x : Int64} {h' : sk_Mem} (pc' : Nat) (hM : sk_M l dp μ' [a0, a1] (sk_mm d) (some (.inr (.inl x))) h') (hd : decode μ.2.1 pc = .ok (.invokestatic idx, 3)) (hp : pc + 3 = pc') (hk : sk_lkS μ.1.cls idx μ' 2) (hz : μ'.2.2.2.2 = (0, 0)) (hr : sk_rmok dp μ' R 0 0) (h8 : sk_cat8 st ≤ 8)
    (kk : sk_G l R μ Ex Z 0 0 pc' ls (.inr (.inl x) :: st) h') : sk_G l R μ Ex Z 0 0 pc ls (a1 :: a0 :: st) (sk_mm d) := by
  refine sg_callS (as := [a0, a1]) pc' hM hd hp hk rfl hr h8 ?_
  rw [hz]
  exact kk
theorem sm_callN2l {μ' : sk_MI} {dp idx : Nat} {a0 a1 : sk_AV} {x : Int64} {h' : sk_Mem} (pc' : Nat) (hM : sk_M l dp μ' [a0, a1] (sk_mm d) (some (.inr (.inl x))) h') (hd : decode μ.2.1 pc = .ok (.invokestatic idx, 3)) (hp : pc + 3 = pc') (hk : sk_lkN μ.1.cls idx "SkiSchool" μ' 2) (hz : μ'.2.2.2.2 = (0, 0)) (hr : sk_rmok dp μ' R 0 0) (h8 : sk_cat8 st ≤ 8)
    (kk : sk_G l R μ Ex Z 0 0 pc' ls (.inr (.inl x) :: st) h') : sk_G l R μ Ex Z 0 0 pc ls (a1 :: a0 :: st) (sk_mm d) := by
  refine sg_callN (as := [a0, a1]) pc' hM hd hp hk rfl hr h8 ?_
  rw [hz]
  exact kk
theorem sm_callV2v {μ' : sk_MI} {dp idx s k ci : Nat} {a0 a1 : sk_AV} {h' : sk_Mem} (pc' : Nat) (hM : sk_M l dp μ' [.inr (.inr (some (s, k))), a0, a1] (sk_mm d) none h') (hd : decode μ.2.1 pc = .ok (.invokevirtual idx, 3)) (hp : pc + 3 = pc') (hk : sk_lkV μ.1.cls idx μ' 2) (hz : μ'.2.2.2.2 = (0, 0)) (hs : sk_shp s = .inl ci) (hci : (vwCl[ci]?).map (fun q => q.1) = some μ'.1.cls) (hl : k < sk_cnt s) (hr : sk_rmok dp μ' R 0 0) (h8 : sk_cat8 st ≤ 8)
    (kk : sk_G l R μ Ex Z 0 0 pc' ls (st) h') : sk_G l R μ Ex Z 0 0 pc ls (a1 :: a0 :: .inr (.inr (some (s, k))) :: st) (sk_mm d) := by
  refine sg_callV (as := [a0, a1]) pc' hM hd hp hk rfl hs hci (sk_lvm hl) hr h8 ?_
  rw [hz]
  exact kk
theorem sm_callS2v {μ' : sk_MI} {dp idx : Nat} {a0 a1 : sk_AV} {h' : sk_Mem} (pc' : Nat) (hM : sk_M l dp μ' [a0, a1] (sk_mm d) none h') (hd : decode μ.2.1 pc = .ok (.invokestatic idx, 3)) (hp : pc + 3 = pc') (hk : sk_lkS μ.1.cls idx μ' 2) (hz : μ'.2.2.2.2 = (0, 0)) (hr : sk_rmok dp μ' R 0 0) (h8 : sk_cat8 st ≤ 8)
    (kk : sk_G l R μ Ex Z 0 0 pc' ls (st) h') : sk_G l R μ Ex Z 0 0 pc ls (a1 :: a0 :: st) (sk_mm d) := by
  refine sg_callS (as := [a0, a1]) pc' hM hd hp hk rfl hr h8 ?_
  rw [hz]
  exact kk
theorem sm_callN2v {μ' : sk_MI} {dp idx : Nat} {a0 a1 : sk_AV} {h' : sk_Mem} (pc' : Nat) (hM : sk_M l dp μ' [a0, a1] (sk_mm d) none h') (hd : decode μ.2.1 pc = .ok (.invokestatic idx, 3)) (hp : pc + 3 = pc') (hk : sk_lkN μ.1.cls idx "SkiSchool" μ' 2) (hz : μ'.2.2.2.2 = (0, 0)) (hr : sk_rmok dp μ' R 0 0) (h8 : sk_cat8 st ≤ 8)
    (kk : sk_G l R μ Ex Z 0 0 pc' ls (st) h') : sk_G l R μ Ex Z 0 0 pc ls (a1 :: a0 :: st) (sk_mm d) := by
  refine sg_callN (as := [a0, a1]) pc' hM hd hp hk rfl hr h8 ?_
  rw [hz]
  exact kk
theorem sm_callV3i {μ' : sk_MI} {dp idx s k ci : Nat} {a0 a1 a2 : sk_AV} {x : Int32} {h' : sk_Mem} (pc' : Nat) (hM : sk_M l dp μ' [.inr (.inr (some (s, k))), a0, a1, a2] (sk_mm d) (some (.inl x)) h') (hd : decode μ.2.1 pc = .ok (.invokevirtual idx, 3)) (hp : pc + 3 = pc') (hk : sk_lkV μ.1.cls idx μ' 3) (hz : μ'.2.2.2.2 = (0, 0)) (hs : sk_shp s = .inl ci) (hci : (vwCl[ci]?).map (fun q => q.1) = some μ'.1.cls) (hl : k < sk_cnt s) (hr : sk_rmok dp μ' R 0 0) (h8 : sk_cat8 st ≤ 8)
    (kk : sk_G l R μ Ex Z 0 0 pc' ls (.inl x :: st) h') : sk_G l R μ Ex Z 0 0 pc ls (a2 :: a1 :: a0 :: .inr (.inr (some (s, k))) :: st) (sk_mm d) := by
  refine sg_callV (as := [a0, a1, a2]) pc' hM hd hp hk rfl hs hci (sk_lvm hl) hr h8 ?_
  rw [hz]
  exact kk
theorem sm_callS3i {μ' : sk_MI} {dp idx : Nat} {a0 a1 a2 : sk_AV} {x : Int32} {h' : sk_Mem} (pc' : Nat) (hM : sk_M l dp μ' [a0, a1, a2] (sk_mm d) (some (.inl x)) h') (hd : decode μ.2.1 pc = .ok (.invokestatic idx, 3)) (hp : pc + 3 = pc') (hk : sk_lkS μ.1.cls idx μ' 3) (hz : μ'.2.2.2.2 = (0, 0)) (hr : sk_rmok dp μ' R 0 0) (h8 : sk_cat8 st ≤ 8)
    (kk : sk_G l R μ Ex Z 0 0 pc' ls (.inl x :: st) h') : sk_G l R μ Ex Z 0 0 pc ls (a2 :: a1 :: a0 :: st) (sk_mm d) := by
  refine sg_callS (as := [a0, a1, a2]) pc' hM hd hp hk rfl hr h8 ?_
  rw [hz]
  exact kk
theorem sm_callN3i {μ' : sk_MI} {dp idx : Nat} {a0 a1 a2 : sk_AV} {x : Int32} {h' : sk_Mem} (pc' : Nat) (hM : sk_M l dp μ' [a0, a1, a2] (sk_mm d) (some (.inl x)) h') (hd : decode μ.2.1 pc = .ok (.invokestatic idx, 3)) (hp : pc + 3 = pc') (hk : sk_lkN μ.1.cls idx "SkiSchool" μ' 3) (hz : μ'.2.2.2.2 = (0, 0)) (hr : sk_rmok dp μ' R 0 0) (h8 : sk_cat8 st ≤ 8)
    (kk : sk_G l R μ Ex Z 0 0 pc' ls (.inl x :: st) h') : sk_G l R μ Ex Z 0 0 pc ls (a2 :: a1 :: a0 :: st) (sk_mm d) := by
  refine sg_callN (as := [a0, a1, a2]) pc' hM hd hp hk rfl hr h8 ?_
  rw [hz]
  exact kk
theorem sm_callV3l {μ' : sk_MI} {dp idx s k ci : Nat} {a0 a1 a2 : sk_AV} {x : Int64} {h' : sk_Mem} (pc' : Nat) (hM : sk_M l dp μ' [.inr (.inr (some (s, k))), a0, a1, a2] (sk_mm d) (some (.inr (.inl x))) h') (hd : decode μ.2.1 pc = .ok (.invokevirtual idx, 3)) (hp : pc + 3 = pc') (hk : sk_lkV μ.1.cls idx μ' 3) (hz : μ'.2.2.2.2 = (0, 0)) (hs : sk_shp s = .inl ci) (hci : (vwCl[ci]?).map (fun q => q.1) = some μ'.1.cls) (hl : k < sk_cnt s) (hr : sk_rmok dp μ' R 0 0) (h8 : sk_cat8 st ≤ 8)
    (kk : sk_G l R μ Ex Z 0 0 pc' ls (.inr (.inl x) :: st) h') : sk_G l R μ Ex Z 0 0 pc ls (a2 :: a1 :: a0 :: .inr (.inr (some (s, k))) :: st) (sk_mm d) := by
  refine sg_callV (as := [a0, a1, a2]) pc' hM hd hp hk rfl hs hci (sk_lvm hl) hr h8 ?_
  rw [hz]
  exact kk
theorem sm_callS3l {μ' : sk_MI} {dp idx : Nat} {a0 a1 a2 : sk_AV} {x : Int64} {h' : sk_Mem} (pc' : Nat) (hM : sk_M l dp μ' [a0, a1, a2] (sk_mm d) (some (.inr (.inl x))) h') (hd : decode μ.2.1 pc = .ok (.invokestatic idx, 3)) (hp : pc + 3 = pc') (hk : sk_lkS μ.1.cls idx μ' 3) (hz : μ'.2.2.2.2 = (0, 0)) (hr : sk_rmok dp μ' R 0 0) (h8 : sk_cat8 st ≤ 8)
    (kk : sk_G l R μ Ex Z 0 0 pc' ls (.inr (.inl x) :: st) h') : sk_G l R μ Ex Z 0 0 pc ls (a2 :: a1 :: a0 :: st) (sk_mm d) := by
  refine sg_callS (as := [a0, a1, a2]) pc' hM hd hp hk rfl hr h8 ?_
  rw [hz]
  exact kk
theorem sm_callN3l {μ' : sk_MI} {dp idx : Nat} {a0 a1 a2 : sk_AV} {x : Int64} {h' : sk_Mem} (pc' : Nat) (hM : sk_M l dp μ' [a0, a1, a2] (sk_mm d) (some (.inr (.inl x))) h') (hd : decode μ.2.1 pc = .ok (.invokestatic idx, 3)) (hp : pc + 3 = pc') (hk : sk_lkN μ.1.cls idx "SkiSchool" μ' 3) (hz : μ'.2.2.2.2 = (0, 0)) (hr : sk_rmok dp μ' R 0 0) (h8 : sk_cat8 st ≤ 8)
    (kk : sk_G l R μ Ex Z 0 0 pc' ls (.inr (.inl x) :: st) h') : sk_G l R μ Ex Z 0 0 pc ls (a2 :: a1 :: a0 :: st) (sk_mm d) := by
  refine sg_callN (as := [a0, a1, a2]) pc' hM hd hp hk rfl hr h8 ?_
  rw [hz]
  exact kk
theorem sm_callV3v {μ' : sk_MI} {dp idx s k ci : Nat} {a0 a1 a2 : sk_AV} {h' : sk_Mem} (pc' : Nat) (hM : sk_M l dp μ' [.inr (.inr (some (s, k))), a0, a1, a2] (sk_mm d) none h') (hd : decode μ.2.1 pc = .ok (.invokevirtual idx, 3)) (hp : pc + 3 = pc') (hk : sk_lkV μ.1.cls idx μ' 3) (hz : μ'.2.2.2.2 = (0, 0)) (hs : sk_shp s = .inl ci) (hci : (vwCl[ci]?).map (fun q => q.1) = some μ'.1.cls) (hl : k < sk_cnt s) (hr : sk_rmok dp μ' R 0 0) (h8 : sk_cat8 st ≤ 8)
    (kk : sk_G l R μ Ex Z 0 0 pc' ls (st) h') : sk_G l R μ Ex Z 0 0 pc ls (a2 :: a1 :: a0 :: .inr (.inr (some (s, k))) :: st) (sk_mm d) := by
  refine sg_callV (as := [a0, a1, a2]) pc' hM hd hp hk rfl hs hci (sk_lvm hl) hr h8 ?_
  rw [hz]
  exact kk
theorem sm_callS3v {μ' : sk_MI} {dp idx : Nat} {a0 a1 a2 : sk_AV} {h' : sk_Mem} (pc' : Nat) (hM : sk_M l dp μ' [a0, a1, a2] (sk_mm d) none h') (hd : decode μ.2.1 pc = .ok (.invokestatic idx, 3)) (hp : pc + 3 = pc') (hk : sk_lkS μ.1.cls idx μ' 3) (hz : μ'.2.2.2.2 = (0, 0)) (hr : sk_rmok dp μ' R 0 0) (h8 : sk_cat8 st ≤ 8)
    (kk : sk_G l R μ Ex Z 0 0 pc' ls (st) h') : sk_G l R μ Ex Z 0 0 pc ls (a2 :: a1 :: a0 :: st) (sk_mm d) := by
  refine sg_callS (as := [a0, a1, a2]) pc' hM hd hp hk rfl hr h8 ?_
  rw [hz]
  exact kk
theorem sm_callN3v {μ' : sk_MI} {dp idx : Nat} {a0 a1 a2 : sk_AV} {h' : sk_Mem} (pc' : Nat) (hM : sk_M l dp μ' [a0, a1, a2] (sk_mm d) none h') (hd : decode μ.2.1 pc = .ok (.invokestatic idx, 3)) (hp : pc + 3 = pc') (hk : sk_lkN μ.1.cls idx "SkiSchool" μ' 3) (hz : μ'.2.2.2.2 = (0, 0)) (hr : sk_rmok dp μ' R 0 0) (h8 : sk_cat8 st ≤ 8)
    (kk : sk_G l R μ Ex Z 0 0 pc' ls (st) h') : sk_G l R μ Ex Z 0 0 pc ls (a2 :: a1 :: a0 :: st) (sk_mm d) := by
  refine sg_callN (as := [a0, a1, a2]) pc' hM hd hp hk rfl hr h8 ?_
  rw [hz]
  exact kk
theorem sm_callV4i {μ' : sk_MI} {dp idx s k ci : Nat} {a0 a1 a2 a3 : sk_AV} {x : Int32} {h' : sk_Mem} (pc' : Nat) (hM : sk_M l dp μ' [.inr (.inr (some (s, k))), a0, a1, a2, a3] (sk_mm d) (some (.inl x)) h') (hd : decode μ.2.1 pc = .ok (.invokevirtual idx, 3)) (hp : pc + 3 = pc') (hk : sk_lkV μ.1.cls idx μ' 4) (hz : μ'.2.2.2.2 = (0, 0)) (hs : sk_shp s = .inl ci) (hci : (vwCl[ci]?).map (fun q => q.1) = some μ'.1.cls) (hl : k < sk_cnt s) (hr : sk_rmok dp μ' R 0 0) (h8 : sk_cat8 st ≤ 8)
    (kk : sk_G l R μ Ex Z 0 0 pc' ls (.inl x :: st) h') : sk_G l R μ Ex Z 0 0 pc ls (a3 :: a2 :: a1 :: a0 :: .inr (.inr (some (s, k))) :: st) (sk_mm d) := by
  refine sg_callV (as := [a0, a1, a2, a3]) pc' hM hd hp hk rfl hs hci (sk_lvm hl) hr h8 ?_
  rw [hz]
  exact kk
theorem sm_callS4i {μ' : sk_MI} {dp idx : Nat} {a0 a1 a2 a3 : sk_AV} {x : Int32} {h' : sk_Mem} (pc' : Nat) (hM : sk_M l dp μ' [a0, a1, a2, a3] (sk_mm d) (some (.inl x)) h') (hd : decode μ.2.1 pc = .ok (.invokestatic idx, 3)) (hp : pc + 3 = pc') (hk : sk_lkS μ.1.cls idx μ' 4) (hz : μ'.2.2.2.2 = (0, 0)) (hr : sk_rmok dp μ' R 0 0) (h8 : sk_cat8 st ≤ 8)
    (kk : sk_G l R μ Ex Z 0 0 pc' ls (.inl x :: st) h') : sk_G l R μ Ex Z 0 0 pc ls (a3 :: a2 :: a1 :: a0 :: st) (sk_mm d) := by
  refine sg_callS (as := [a0, a1, a2, a3]) pc' hM hd hp hk rfl hr h8 ?_
  rw [hz]
  exact kk
theorem sm_callN4i {μ' : sk_MI} {dp idx : Nat} {a0 a1 a2 a3 : sk_AV} {x : Int32} {h' : sk_Mem} (pc' : Nat) (hM : sk_M l dp μ' [a0, a1, a2, a3] (sk_mm d) (some (.inl x)) h') (hd : decode μ.2.1 pc = .ok (.invokestatic idx, 3)) (hp : pc + 3 = pc') (hk : sk_lkN μ.1.cls idx "SkiSchool" μ' 4) (hz : μ'.2.2.2.2 = (0, 0)) (hr : sk_rmok dp μ' R 0 0) (h8 : sk_cat8 st ≤ 8)
    (kk : sk_G l R μ Ex Z 0 0 pc' ls (.inl x :: st) h') : sk_G l R μ Ex Z 0 0 pc ls (a3 :: a2 :: a1 :: a0 :: st) (sk_mm d) := by
  refine sg_callN (as := [a0, a1, a2, a3]) pc' hM hd hp hk rfl hr h8 ?_
  rw [hz]
  exact kk
theorem sm_callV4l {μ' : sk_MI} {dp idx s k ci : Nat} {a0 a1 a2 a3 : sk_AV} {x : Int64} {h' : sk_Mem} (pc' : Nat) (hM : sk_M l dp μ' [.inr (.inr (some (s, k))), a0, a1, a2, a3] (sk_mm d) (some (.inr (.inl x))) h') (hd : decode μ.2.1 pc = .ok (.invokevirtual idx, 3)) (hp : pc + 3 = pc') (hk : sk_lkV μ.1.cls idx μ' 4) (hz : μ'.2.2.2.2 = (0, 0)) (hs : sk_shp s = .inl ci) (hci : (vwCl[ci]?).map (fun q => q.1) = some μ'.1.cls) (hl : k < sk_cnt s) (hr : sk_rmok dp μ' R 0 0) (h8 : sk_cat8 st ≤ 8)
    (kk : sk_G l R μ Ex Z 0 0 pc' ls (.inr (.inl x) :: st) h') : sk_G l R μ Ex Z 0 0 pc ls (a3 :: a2 :: a1 :: a0 :: .inr (.inr (some (s, k))) :: st) (sk_mm d) := by
  refine sg_callV (as := [a0, a1, a2, a3]) pc' hM hd hp hk rfl hs hci (sk_lvm hl) hr h8 ?_
  rw [hz]
  exact kk
theorem sm_callS4l {μ' : sk_MI} {dp idx : Nat} {a0 a1 a2 a3 : sk_AV} {x : Int64} {h' : sk_Mem} (pc' : Nat) (hM : sk_M l dp μ' [a0, a1, a2, a3] (sk_mm d) (some (.inr (.inl x))) h') (hd : decode μ.2.1 pc = .ok (.invokestatic idx, 3)) (hp : pc + 3 = pc') (hk : sk_lkS μ.1.cls idx μ' 4) (hz : μ'.2.2.2.2 = (0, 0)) (hr : sk_rmok dp μ' R 0 0) (h8 : sk_cat8 st ≤ 8)
    (kk : sk_G l R μ Ex Z 0 0 pc' ls (.inr (.inl x) :: st) h') : sk_G l R μ Ex Z 0 0 pc ls (a3 :: a2 :: a1 :: a0 :: st) (sk_mm d) := by
  refine sg_callS (as := [a0, a1, a2, a3]) pc' hM hd hp hk rfl hr h8 ?_
  rw [hz]
  exact kk
theorem sm_callN4l {μ' : sk_MI} {dp idx : Nat} {a0 a1 a2 a3 : sk_AV} {x : Int64} {h' : sk_Mem} (pc' : Nat) (hM : sk_M l dp μ' [a0, a1, a2, a3] (sk_mm d) (some (.inr (.inl x))) h') (hd : decode μ.2.1 pc = .ok (.invokestatic idx, 3)) (hp : pc + 3 = pc') (hk : sk_lkN μ.1.cls idx "SkiSchool" μ' 4) (hz : μ'.2.2.2.2 = (0, 0)) (hr : sk_rmok dp μ' R 0 0) (h8 : sk_cat8 st ≤ 8)
    (kk : sk_G l R μ Ex Z 0 0 pc' ls (.inr (.inl x) :: st) h') : sk_G l R μ Ex Z 0 0 pc ls (a3 :: a2 :: a1 :: a0 :: st) (sk_mm d) := by
  refine sg_callN (as := [a0, a1, a2, a3]) pc' hM hd hp hk rfl hr h8 ?_
  rw [hz]
  exact kk
theorem sm_callV4v {μ' : sk_MI} {dp idx s k ci : Nat} {a0 a1 a2 a3 : sk_AV} {h' : sk_Mem} (pc' : Nat) (hM : sk_M l dp μ' [.inr (.inr (some (s, k))), a0, a1, a2, a3] (sk_mm d) none h') (hd : decode μ.2.1 pc = .ok (.invokevirtual idx, 3)) (hp : pc + 3 = pc') (hk : sk_lkV μ.1.cls idx μ' 4) (hz : μ'.2.2.2.2 = (0, 0)) (hs : sk_shp s = .inl ci) (hci : (vwCl[ci]?).map (fun q => q.1) = some μ'.1.cls) (hl : k < sk_cnt s) (hr : sk_rmok dp μ' R 0 0) (h8 : sk_cat8 st ≤ 8)
    (kk : sk_G l R μ Ex Z 0 0 pc' ls (st) h') : sk_G l R μ Ex Z 0 0 pc ls (a3 :: a2 :: a1 :: a0 :: .inr (.inr (some (s, k))) :: st) (sk_mm d) := by
  refine sg_callV (as := [a0, a1, a2, a3]) pc' hM hd hp hk rfl hs hci (sk_lvm hl) hr h8 ?_
  rw [hz]
  exact kk
theorem sm_callS4v {μ' : sk_MI} {dp idx : Nat} {a0 a1 a2 a3 : sk_AV} {h' : sk_Mem} (pc' : Nat) (hM : sk_M l dp μ' [a0, a1, a2, a3] (sk_mm d) none h') (hd : decode μ.2.1 pc = .ok (.invokestatic idx, 3)) (hp : pc + 3 = pc') (hk : sk_lkS μ.1.cls idx μ' 4) (hz : μ'.2.2.2.2 = (0, 0)) (hr : sk_rmok dp μ' R 0 0) (h8 : sk_cat8 st ≤ 8)
    (kk : sk_G l R μ Ex Z 0 0 pc' ls (st) h') : sk_G l R μ Ex Z 0 0 pc ls (a3 :: a2 :: a1 :: a0 :: st) (sk_mm d) := by
  refine sg_callS (as := [a0, a1, a2, a3]) pc' hM hd hp hk rfl hr h8 ?_
  rw [hz]
  exact kk
theorem sm_callN4v {μ' : sk_MI} {dp idx : Nat} {a0 a1 a2 a3 : sk_AV} {h' : sk_Mem} (pc' : Nat) (hM : sk_M l dp μ' [a0, a1, a2, a3] (sk_mm d) none h') (hd : decode μ.2.1 pc = .ok (.invokestatic idx, 3)) (hp : pc + 3 = pc') (hk : sk_lkN μ.1.cls idx "SkiSchool" μ' 4) (hz : μ'.2.2.2.2 = (0, 0)) (hr : sk_rmok dp μ' R 0 0) (h8 : sk_cat8 st ≤ 8)
    (kk : sk_G l R μ Ex Z 0 0 pc' ls (st) h') : sk_G l R μ Ex Z 0 0 pc ls (a3 :: a2 :: a1 :: a0 :: st) (sk_mm d) := by
  refine sg_callN (as := [a0, a1, a2, a3]) pc' hM hd hp hk rfl hr h8 ?_
  rw [hz]
  exact kk
theorem sm_callV5i {μ' : sk_MI} {dp idx s k ci : Nat} {a0 a1 a2 a3 a4 : sk_AV} {x : Int32} {h' : sk_Mem} (pc' : Nat) (hM : sk_M l dp μ' [.inr (.inr (some (s, k))), a0, a1, a2, a3, a4] (sk_mm d) (some (.inl x)) h') (hd : decode μ.2.1 pc = .ok (.invokevirtual idx, 3)) (hp : pc + 3 = pc') (hk : sk_lkV μ.1.cls idx μ' 5) (hz : μ'.2.2.2.2 = (0, 0)) (hs : sk_shp s = .inl ci) (hci : (vwCl[ci]?).map (fun q => q.1) = some μ'.1.cls) (hl : k < sk_cnt s) (hr : sk_rmok dp μ' R 0 0) (h8 : sk_cat8 st ≤ 8)
    (kk : sk_G l R μ Ex Z 0 0 pc' ls (.inl x :: st) h') : sk_G l R μ Ex Z 0 0 pc ls (a4 :: a3 :: a2 :: a1 :: a0 :: .inr (.inr (some (s, k))) :: st) (sk_mm d) := by
  refine sg_callV (as := [a0, a1, a2, a3, a4]) pc' hM hd hp hk rfl hs hci (sk_lvm hl) hr h8 ?_
  rw [hz]
  exact kk
theorem sm_callS5i {μ' : sk_MI} {dp idx : Nat} {a0 a1 a2 a3 a4 : sk_AV} {x : Int32} {h' : sk_Mem} (pc' : Nat) (hM : sk_M l dp μ' [a0, a1, a2, a3, a4] (sk_mm d) (some (.inl x)) h') (hd : decode μ.2.1 pc = .ok (.invokestatic idx, 3)) (hp : pc + 3 = pc') (hk : sk_lkS μ.1.cls idx μ' 5) (hz : μ'.2.2.2.2 = (0, 0)) (hr : sk_rmok dp μ' R 0 0) (h8 : sk_cat8 st ≤ 8)
    (kk : sk_G l R μ Ex Z 0 0 pc' ls (.inl x :: st) h') : sk_G l R μ Ex Z 0 0 pc ls (a4 :: a3 :: a2 :: a1 :: a0 :: st) (sk_mm d) := by
  refine sg_callS (as := [a0, a1, a2, a3, a4]) pc' hM hd hp hk rfl hr h8 ?_
  rw [hz]
  exact kk
theorem sm_callN5i {μ' : sk_MI} {dp idx : Nat} {a0 a1 a2 a3 a4 : sk_AV} {x : Int32} {h' : sk_Mem} (pc' : Nat) (hM : sk_M l dp μ' [a0, a1, a2, a3, a4] (sk_mm d) (some (.inl x)) h') (hd : decode μ.2.1 pc = .ok (.invokestatic idx, 3)) (hp : pc + 3 = pc') (hk : sk_lkN μ.1.cls idx "SkiSchool" μ' 5) (hz : μ'.2.2.2.2 = (0, 0)) (hr : sk_rmok dp μ' R 0 0) (h8 : sk_cat8 st ≤ 8)
    (kk : sk_G l R μ Ex Z 0 0 pc' ls (.inl x :: st) h') : sk_G l R μ Ex Z 0 0 pc ls (a4 :: a3 :: a2 :: a1 :: a0 :: st) (sk_mm d) := by
  refine sg_callN (as := [a0, a1, a2, a3, a4]) pc' hM hd hp hk rfl hr h8 ?_
  rw [hz]
  exact kk
theorem sm_callV5l {μ' : sk_MI} {dp idx s k ci : Nat} {a0 a1 a2 a3 a4 : sk_AV} {x : Int64} {h' : sk_Mem} (pc' : Nat) (hM : sk_M l dp μ' [.inr (.inr (some (s, k))), a0, a1, a2, a3, a4] (sk_mm d) (some (.inr (.inl x))) h') (hd : decode μ.2.1 pc = .ok (.invokevirtual idx, 3)) (hp : pc + 3 = pc') (hk : sk_lkV μ.1.cls idx μ' 5) (hz : μ'.2.2.2.2 = (0, 0)) (hs : sk_shp s = .inl ci) (hci : (vwCl[ci]?).map (fun q => q.1) = some μ'.1.cls) (hl : k < sk_cnt s) (hr : sk_rmok dp μ' R 0 0) (h8 : sk_cat8 st ≤ 8)
    (kk : sk_G l R μ Ex Z 0 0 pc' ls (.inr (.inl x) :: st) h') : sk_G l R μ Ex Z 0 0 pc ls (a4 :: a3 :: a2 :: a1 :: a0 :: .inr (.inr (some (s, k))) :: st) (sk_mm d) := by
  refine sg_callV (as := [a0, a1, a2, a3, a4]) pc' hM hd hp hk rfl hs hci (sk_lvm hl) hr h8 ?_
  rw [hz]
  exact kk
theorem sm_callS5l {μ' : sk_MI} {dp idx : Nat} {a0 a1 a2 a3 a4 : sk_AV} {x : Int64} {h' : sk_Mem} (pc' : Nat) (hM : sk_M l dp μ' [a0, a1, a2, a3, a4] (sk_mm d) (some (.inr (.inl x))) h') (hd : decode μ.2.1 pc = .ok (.invokestatic idx, 3)) (hp : pc + 3 = pc') (hk : sk_lkS μ.1.cls idx μ' 5) (hz : μ'.2.2.2.2 = (0, 0)) (hr : sk_rmok dp μ' R 0 0) (h8 : sk_cat8 st ≤ 8)
    (kk : sk_G l R μ Ex Z 0 0 pc' ls (.inr (.inl x) :: st) h') : sk_G l R μ Ex Z 0 0 pc ls (a4 :: a3 :: a2 :: a1 :: a0 :: st) (sk_mm d) := by
  refine sg_callS (as := [a0, a1, a2, a3, a4]) pc' hM hd hp hk rfl hr h8 ?_
  rw [hz]
  exact kk
theorem sm_callN5l {μ' : sk_MI} {dp idx : Nat} {a0 a1 a2 a3 a4 : sk_AV} {x : Int64} {h' : sk_Mem} (pc' : Nat) (hM : sk_M l dp μ' [a0, a1, a2, a3, a4] (sk_mm d) (some (.inr (.inl x))) h') (hd : decode μ.2.1 pc = .ok (.invokestatic idx, 3)) (hp : pc + 3 = pc') (hk : sk_lkN μ.1.cls idx "SkiSchool" μ' 5) (hz : μ'.2.2.2.2 = (0, 0)) (hr : sk_rmok dp μ' R 0 0) (h8 : sk_cat8 st ≤ 8)
    (kk : sk_G l R μ Ex Z 0 0 pc' ls (.inr (.inl x) :: st) h') : sk_G l R μ Ex Z 0 0 pc ls (a4 :: a3 :: a2 :: a1 :: a0 :: st) (sk_mm d) := by
  refine sg_callN (as := [a0, a1, a2, a3, a4]) pc' hM hd hp hk rfl hr h8 ?_
  rw [hz]
  exact kk
theorem sm_callV5v {μ' : sk_MI} {dp idx s k ci : Nat} {a0 a1 a2 a3 a4 : sk_AV} {h' : sk_Mem} (pc' : Nat) (hM : sk_M l dp μ' [.inr (.inr (some (s, k))), a0, a1, a2, a3, a4] (sk_mm d) none h') (hd : decode μ.2.1 pc = .ok (.invokevirtual idx, 3)) (hp : pc + 3 = pc') (hk : sk_lkV μ.1.cls idx μ' 5) (hz : μ'.2.2.2.2 = (0, 0)) (hs : sk_shp s = .inl ci) (hci : (vwCl[ci]?).map (fun q => q.1) = some μ'.1.cls) (hl : k < sk_cnt s) (hr : sk_rmok dp μ' R 0 0) (h8 : sk_cat8 st ≤ 8)
    (kk : sk_G l R μ Ex Z 0 0 pc' ls (st) h') : sk_G l R μ Ex Z 0 0 pc ls (a4 :: a3 :: a2 :: a1 :: a0 :: .inr (.inr (some (s, k))) :: st) (sk_mm d) := by
  refine sg_callV (as := [a0, a1, a2, a3, a4]) pc' hM hd hp hk rfl hs hci (sk_lvm hl) hr h8 ?_
  rw [hz]
  exact kk
theorem sm_callS5v {μ' : sk_MI} {dp idx : Nat} {a0 a1 a2 a3 a4 : sk_AV} {h' : sk_Mem} (pc' : Nat) (hM : sk_M l dp μ' [a0, a1, a2, a3, a4] (sk_mm d) none h') (hd : decode μ.2.1 pc = .ok (.invokestatic idx, 3)) (hp : pc + 3 = pc') (hk : sk_lkS μ.1.cls idx μ' 5) (hz : μ'.2.2.2.2 = (0, 0)) (hr : sk_rmok dp μ' R 0 0) (h8 : sk_cat8 st ≤ 8)
    (kk : sk_G l R μ Ex Z 0 0 pc' ls (st) h') : sk_G l R μ Ex Z 0 0 pc ls (a4 :: a3 :: a2 :: a1 :: a0 :: st) (sk_mm d) := by
  refine sg_callS (as := [a0, a1, a2, a3, a4]) pc' hM hd hp hk rfl hr h8 ?_
  rw [hz]
  exact kk
theorem sm_callN5v {μ' : sk_MI} {dp idx : Nat} {a0 a1 a2 a3 a4 : sk_AV} {h' : sk_Mem} (pc' : Nat) (hM : sk_M l dp μ' [a0, a1, a2, a3, a4] (sk_mm d) none h') (hd : decode μ.2.1 pc = .ok (.invokestatic idx, 3)) (hp : pc + 3 = pc') (hk : sk_lkN μ.1.cls idx "SkiSchool" μ' 5) (hz : μ'.2.2.2.2 = (0, 0)) (hr : sk_rmok dp μ' R 0 0) (h8 : sk_cat8 st ≤ 8)
    (kk : sk_G l R μ Ex Z 0 0 pc' ls (st) h') : sk_G l R μ Ex Z 0 0 pc ls (a4 :: a3 :: a2 :: a1 :: a0 :: st) (sk_mm d) := by
  refine sg_callN (as := [a0, a1, a2, a3, a4]) pc' hM hd hp hk rfl hr h8 ?_
  rw [hz]
  exact kk
theorem sm_callV6i {μ' : sk_MI} {dp idx s k ci : Nat} {a0 a1 a2 a3 a4 a5 : sk_AV} {x : Int32} {h' : sk_Mem} (pc' : Nat) (hM : sk_M l dp μ' [.inr (.inr (some (s, k))), a0, a1, a2, a3, a4, a5] (sk_mm d) (some (.inl x)) h') (hd : decode μ.2.1 pc = .ok (.invokevirtual idx, 3)) (hp : pc + 3 = pc') (hk : sk_lkV μ.1.cls idx μ' 6) (hz : μ'.2.2.2.2 = (0, 0)) (hs : sk_shp s = .inl ci) (hci : (vwCl[ci]?).map (fun q => q.1) = some μ'.1.cls) (hl : k < sk_cnt s) (hr : sk_rmok dp μ' R 0 0) (h8 : sk_cat8 st ≤ 8)
    (kk : sk_G l R μ Ex Z 0 0 pc' ls (.inl x :: st) h') : sk_G l R μ Ex Z 0 0 pc ls (a5 :: a4 :: a3 :: a2 :: a1 :: a0 :: .inr (.inr (some (s, k))) :: st) (sk_mm d) := by
  refine sg_callV (as := [a0, a1, a2, a3, a4, a5]) pc' hM hd hp hk rfl hs hci (sk_lvm hl) hr h8 ?_
  rw [hz]
  exact kk
theorem sm_callS6i {μ' : sk_MI} {dp idx : Nat} {a0 a1 a2 a3 a4 a5 : sk_AV} {x : Int32} {h' : sk_Mem} (pc' : Nat) (hM : sk_M l dp μ' [a0, a1, a2, a3, a4, a5] (sk_mm d) (some (.inl x)) h') (hd : decode μ.2.1 pc = .ok (.invokestatic idx, 3)) (hp : pc + 3 = pc') (hk : sk_lkS μ.1.cls idx μ' 6) (hz : μ'.2.2.2.2 = (0, 0)) (hr : sk_rmok dp μ' R 0 0) (h8 : sk_cat8 st ≤ 8)
    (kk : sk_G l R μ Ex Z 0 0 pc' ls (.inl x :: st) h') : sk_G l R μ Ex Z 0 0 pc ls (a5 :: a4 :: a3 :: a2 :: a1 :: a0 :: st) (sk_mm d) := by
  refine sg_callS (as := [a0, a1, a2, a3, a4, a5]) pc' hM hd hp hk rfl hr h8 ?_
  rw [hz]
  exact kk
theorem sm_callN6i {μ' : sk_MI} {dp idx : Nat} {a0 a1 a2 a3 a4 a5 : sk_AV} {x : Int32} {h' : sk_Mem} (pc' : Nat) (hM : sk_M l dp μ' [a0, a1, a2, a3, a4, a5] (sk_mm d) (some (.inl x)) h') (hd : decode μ.2.1 pc = .ok (.invokestatic idx, 3)) (hp : pc + 3 = pc') (hk : sk_lkN μ.1.cls idx "SkiSchool" μ' 6) (hz : μ'.2.2.2.2 = (0, 0)) (hr : sk_rmok dp μ' R 0 0) (h8 : sk_cat8 st ≤ 8)
    (kk : sk_G l R μ Ex Z 0 0 pc' ls (.inl x :: st) h') : sk_G l R μ Ex Z 0 0 pc ls (a5 :: a4 :: a3 :: a2 :: a1 :: a0 :: st) (sk_mm d) := by
  refine sg_callN (as := [a0, a1, a2, a3, a4, a5]) pc' hM hd hp hk rfl hr h8 ?_
  rw [hz]
  exact kk
theorem sm_callV6l {μ' : sk_MI} {dp idx s k ci : Nat} {a0 a1 a2 a3 a4 a5 : sk_AV} {x : Int64} {h' : sk_Mem} (pc' : Nat) (hM : sk_M l dp μ' [.inr (.inr (some (s, k))), a0, a1, a2, a3, a4, a5] (sk_mm d) (some (.inr (.inl x))) h') (hd : decode μ.2.1 pc = .ok (.invokevirtual idx, 3)) (hp : pc + 3 = pc') (hk : sk_lkV μ.1.cls idx μ' 6) (hz : μ'.2.2.2.2 = (0, 0)) (hs : sk_shp s = .inl ci) (hci : (vwCl[ci]?).map (fun q => q.1) = some μ'.1.cls) (hl : k < sk_cnt s) (hr : sk_rmok dp μ' R 0 0) (h8 : sk_cat8 st ≤ 8)
    (kk : sk_G l R μ Ex Z 0 0 pc' ls (.inr (.inl x) :: st) h') : sk_G l R μ Ex Z 0 0 pc ls (a5 :: a4 :: a3 :: a2 :: a1 :: a0 :: .inr (.inr (some (s, k))) :: st) (sk_mm d) := by
  refine sg_callV (as := [a0, a1, a2, a3, a4, a5]) pc' hM hd hp hk rfl hs hci (sk_lvm hl) hr h8 ?_
  rw [hz]
  exact kk
theorem sm_callS6l {μ' : sk_MI} {dp idx : Nat} {a0 a1 a2 a3 a4 a5 : sk_AV} {x : Int64} {h' : sk_Mem} (pc' : Nat) (hM : sk_M l dp μ' [a0, a1, a2, a3, a4, a5] (sk_mm d) (some (.inr (.inl x))) h') (hd : decode μ.2.1 pc = .ok (.invokestatic idx, 3)) (hp : pc + 3 = pc') (hk : sk_lkS μ.1.cls idx μ' 6) (hz : μ'.2.2.2.2 = (0, 0)) (hr : sk_rmok dp μ' R 0 0) (h8 : sk_cat8 st ≤ 8)
    (kk : sk_G l R μ Ex Z 0 0 pc' ls (.inr (.inl x) :: st) h') : sk_G l R μ Ex Z 0 0 pc ls (a5 :: a4 :: a3 :: a2 :: a1 :: a0 :: st) (sk_mm d) := by
  refine sg_callS (as := [a0, a1, a2, a3, a4, a5]) pc' hM hd hp hk rfl hr h8 ?_
  rw [hz]
  exact kk
theorem sm_callN6l {μ' : sk_MI} {dp idx : Nat} {a0 a1 a2 a3 a4 a5 : sk_AV} {x : Int64} {h' : sk_Mem} (pc' : Nat) (hM : sk_M l dp μ' [a0, a1, a2, a3, a4, a5] (sk_mm d) (some (.inr (.inl x))) h') (hd : decode μ.2.1 pc = .ok (.invokestatic idx, 3)) (hp : pc + 3 = pc') (hk : sk_lkN μ.1.cls idx "SkiSchool" μ' 6) (hz : μ'.2.2.2.2 = (0, 0)) (hr : sk_rmok dp μ' R 0 0) (h8 : sk_cat8 st ≤ 8)
    (kk : sk_G l R μ Ex Z 0 0 pc' ls (.inr (.inl x) :: st) h') : sk_G l R μ Ex Z 0 0 pc ls (a5 :: a4 :: a3 :: a2 :: a1 :: a0 :: st) (sk_mm d) := by
  refine sg_callN (as := [a0, a1, a2, a3, a4, a5]) pc' hM hd hp hk rfl hr h8 ?_
  rw [hz]
  exact kk
theorem sm_callV6v {μ' : sk_MI} {dp idx s k ci : Nat} {a0 a1 a2 a3 a4 a5 : sk_AV} {h' : sk_Mem} (pc' : Nat) (hM : sk_M l dp μ' [.inr (.inr (some (s, k))), a0, a1, a2, a3, a4, a5] (sk_mm d) none h') (hd : decode μ.2.1 pc = .ok (.invokevirtual idx, 3)) (hp : pc + 3 = pc') (hk : sk_lkV μ.1.cls idx μ' 6) (hz : μ'.2.2.2.2 = (0, 0)) (hs : sk_shp s = .inl ci) (hci : (vwCl[ci]?).map (fun q => q.1) = some μ'.1.cls) (hl : k < sk_cnt s) (hr : sk_rmok dp μ' R 0 0) (h8 : sk_cat8 st ≤ 8)
    (kk : sk_G l R μ Ex Z 0 0 pc' ls (st) h') : sk_G l R μ Ex Z 0 0 pc ls (a5 :: a4 :: a3 :: a2 :: a1 :: a0 :: .inr (.inr (some (s, k))) :: st) (sk_mm d) := by
  refine sg_callV (as := [a0, a1, a2, a3, a4, a5]) pc' hM hd hp hk rfl hs hci (sk_lvm hl) hr h8 ?_
  rw [hz]
  exact kk
theorem sm_callS6v {μ' : sk_MI} {dp idx : Nat} {a0 a1 a2 a3 a4 a5 : sk_AV} {h' : sk_Mem} (pc' : Nat) (hM : sk_M l dp μ' [a0, a1, a2, a3, a4, a5] (sk_mm d) none h') (hd : decode μ.2.1 pc = .ok (.invokestatic idx, 3)) (hp : pc + 3 = pc') (hk : sk_lkS μ.1.cls idx μ' 6) (hz : μ'.2.2.2.2 = (0, 0)) (hr : sk_rmok dp μ' R 0 0) (h8 : sk_cat8 st ≤ 8)
    (kk : sk_G l R μ Ex Z 0 0 pc' ls (st) h') : sk_G l R μ Ex Z 0 0 pc ls (a5 :: a4 :: a3 :: a2 :: a1 :: a0 :: st) (sk_mm d) := by
  refine sg_callS (as := [a0, a1, a2, a3, a4, a5]) pc' hM hd hp hk rfl hr h8 ?_
  rw [hz]
  exact kk
theorem sm_callN6v {μ' : sk_MI} {dp idx : Nat} {a0 a1 a2 a3 a4 a5 : sk_AV} {h' : sk_Mem} (pc' : Nat) (hM : sk_M l dp μ' [a0, a1, a2, a3, a4, a5] (sk_mm d) none h') (hd : decode μ.2.1 pc = .ok (.invokestatic idx, 3)) (hp : pc + 3 = pc') (hk : sk_lkN μ.1.cls idx "SkiSchool" μ' 6) (hz : μ'.2.2.2.2 = (0, 0)) (hr : sk_rmok dp μ' R 0 0) (h8 : sk_cat8 st ≤ 8)
    (kk : sk_G l R μ Ex Z 0 0 pc' ls (st) h') : sk_G l R μ Ex Z 0 0 pc ls (a5 :: a4 :: a3 :: a2 :: a1 :: a0 :: st) (sk_mm d) := by
  refine sg_callN (as := [a0, a1, a2, a3, a4, a5]) pc' hM hd hp hk rfl hr h8 ?_
  rw [hz]
  exact kk
theorem sm_min {idx : Nat} {x y : Int32} (pc' : Nat) (hd : decode μ.2.1 pc = .ok (.invokestatic idx, 3)) (hp : pc + 3 = pc') (hk : sk_lkM μ.1.cls idx Lib.Math.min.name Lib.Math.min.code 2) (hR1 : 1 ≤ R.frames) (hR2 : 40 ≤ R.locals) (h8 : sk_cat8 st ≤ 8)
    (kk : sk_G l R μ Ex Z 0 0 pc' ls (.inl (if y < x then y else x) :: st) (sk_mm d)) : sk_G l R μ Ex Z 0 0 pc ls (.inl y :: .inl x :: st) (sk_mm d) := by
  subst hp
  intro p e s0 m args below meth c H locs bb D kc la hH hE hR hS hB hL
  have hts := hH.2.2.2.2.2.1
  refine va_mmin hH.1 hH.2.1 (hH.2.2.2.1.trans hL.1.symm) hH.2.2.2.2.1 (hts _ hk.1) (hts _ hk.2.1) (hts _ hk.2.2.1) (hts _ hk.2.2.2) hR1 ?_ (Nat.zero_le _) (Nat.zero_le _) hd (kk p e s0 m args below meth c H locs bb D kc la hH hE hR hS hB hL)
  rw [sk_cat8_eq]
  omega
theorem sm_max {idx : Nat} {x y : Int32} (pc' : Nat) (hd : decode μ.2.1 pc = .ok (.invokestatic idx, 3)) (hp : pc + 3 = pc') (hk : sk_lkM μ.1.cls idx Lib.Math.max.name Lib.Math.max.code 2) (hR1 : 1 ≤ R.frames) (hR2 : 40 ≤ R.locals) (h8 : sk_cat8 st ≤ 8)
    (kk : sk_G l R μ Ex Z 0 0 pc' ls (.inl (if x < y then y else x) :: st) (sk_mm d)) : sk_G l R μ Ex Z 0 0 pc ls (.inl y :: .inl x :: st) (sk_mm d) := by
  subst hp
  intro p e s0 m args below meth c H locs bb D kc la hH hE hR hS hB hL
  have hts := hH.2.2.2.2.2.1
  refine va_mmax hH.1 hH.2.1 (hH.2.2.2.1.trans hL.1.symm) hH.2.2.2.2.1 (hts _ hk.1) (hts _ hk.2.1) (hts _ hk.2.2.1) (hts _ hk.2.2.2) hR1 ?_ (Nat.zero_le _) (Nat.zero_le _) hd (kk p e s0 m args below meth c H locs bb D kc la hH hE hR hS hB hL)
  rw [sk_cat8_eq]
  omega
theorem sm_abs {idx : Nat} {x : Int32} (pc' : Nat) (hd : decode μ.2.1 pc = .ok (.invokestatic idx, 3)) (hp : pc + 3 = pc') (hk : sk_lkM μ.1.cls idx Lib.Math.abs.name Lib.Math.abs.code 1) (hR1 : 1 ≤ R.frames) (hR2 : 40 ≤ R.locals) (h8 : sk_cat8 st ≤ 8)
    (kk : sk_G l R μ Ex Z 0 0 pc' ls (.inl (if 0 ≤ x then x else 0 - x) :: st) (sk_mm d)) : sk_G l R μ Ex Z 0 0 pc ls (.inl x :: st) (sk_mm d) := by
  subst hp
  intro p e s0 m args below meth c H locs bb D kc la hH hE hR hS hB hL
  have hts := hH.2.2.2.2.2.1
  refine va_mabs hH.1 hH.2.1 (hH.2.2.2.1.trans hL.1.symm) hH.2.2.2.2.1 (hts _ hk.1) (hts _ hk.2.1) (hts _ hk.2.2.1) (hts _ hk.2.2.2) hR1 ?_ (Nat.zero_le _) (Nat.zero_le _) hd (kk p e s0 m args below meth c H locs bb D kc la hH hE hR hS hB hL)
  rw [sk_cat8_eq]
  omega
theorem sk_wk (ms : List Bool) {ls' : List (Option sk_AV)} (hm : sk_msk ms ls = ls') (k : sk_G l R μ Ex Z 0 0 pc ls' st (sk_mm d)) : sk_G l R μ Ex Z 0 0 pc ls st (sk_mm d) := by
  subst hm
  intro p e s0 m args below meth c H locs bb D kc la hH hE hR hS hB hL
  exact k p e s0 m args below meth c H locs bb D kc la hH hE hR hS hB ⟨hL.1, hL.2.1, by rw [sk_msk_len]; exact hL.2.2.1, fun i v hi => hL.2.2.2 i v (sk_msk_get ms ls i v hi)⟩
end SMC
def m_J7_fill_53178 : sk_MI := (yJ7_fill_53178, cJ7_fill_53178, 4, none, 0, 0)
def tb_fill : List (Nat × Instr × Nat) := [(0, .iconst 0, 1), (1, .istore_n 2, 1), (2, .aload_n 0, 1), (3, .arraylength, 1), (4, .istore_n 3, 1), (5, .iload_n 2, 1), (6, .iload_n 3, 1), (7, .if_icmp .ge 13, 3), (10, .aload_n 0, 1), (11, .iload_n 2, 1), (12, .iload_n 1, 1), (13, .iastore, 1), (14, .iinc 2 1, 3), (17, .goto (-12), 3), (20, .return_, 1)]
theorem o_fill : tb_fill.all (fun q => decide (decode cJ7_fill_53178 q.1 = .ok q.2)) = true := by decide +kernel
theorem sk_fi_0 {d : sk_D} {s k : Nat} {v : Int32} : sk_fi d s k 0 v = d := by
  unfold sk_fi sk_wf
  refine Prod.ext ?_ rfl
  funext s' k'
  by_cases h : s' = s ∧ k' = k
  · obtain ⟨rfl, rfl⟩ := h
    funext j
    simp
  · simp [h]
theorem sk_fi_s {d : sk_D} {s k i : Nat} {v : Int32} : sk_wi (sk_fi d s k i v) s k i v = sk_fi d s k (i + 1) v := by
  unfold sk_fi sk_wf sk_wi sk_up
  refine Prod.ext ?_ rfl
  funext s' k' j
  by_cases h : s' = s ∧ k' = k
  · obtain ⟨rfl, rfl⟩ := h
    by_cases h2 : j = i
    · subst h2
      simp
    · by_cases h3 : j < i
      · simp [h2, h3, Nat.lt_succ_of_lt h3]
      · simp [h2, h3, show ¬ j < i + 1 by omega]
  · have h4 : ¬ (s' = s ∧ k' = k ∧ j = i) := fun q => h ⟨q.1, q.2.1⟩
    simp [h, h4]
set_option maxRecDepth 100000 in
set_option maxHeartbeats 4000000 in
theorem t_fill_5 {l : Launch} {d : sk_D} {s k n : Nat} {v : Int32} (hs : sk_shp s = .inr (0, n)) (hk : k < sk_cnt s) (hn : n < 2 ^ 31) : ∀ (m i : Nat), i + m = n →
    sk_G l (sk_rm 1 0 0) m_J7_fill_53178 sk_Ex0 (sk_Zm m_J7_fill_53178 none (sk_mm (sk_fi d s k n v))) 0 0 5 [some (.inr (.inr (some (s, k)))), some (.inl v), some (.inl (nI i)), some (.inl (nI n))] [] (sk_mm (sk_fi d s k i v))
  | 0, i, h => by
    have e : i = n := by omega
    subst e
    refine sg_iload_n 6 (sk_td o_fill 5 rfl) rfl rfl ?_
    refine sg_iload_n 7 (sk_td o_fill 6 rfl) rfl rfl ?_
    refine sg_ic_ge 20 10 (sk_td o_fill 7 rfl) (by decide) rfl (fun hc => ?_) (fun hc => ?_)
    · exact sg_vret (sk_td o_fill 14 rfl) rfl
    · exact absurd (nI_le (Nat.le_refl i) hn) hc
  | m + 1, i, h => by
    have hin : i < n := by omega
    refine sg_iload_n 6 (sk_td o_fill 5 rfl) rfl rfl ?_
    refine sg_iload_n 7 (sk_td o_fill 6 rfl) rfl rfl ?_
    refine sg_ic_ge 20 10 (sk_td o_fill 7 rfl) (by decide) rfl (fun hc => ?_) (fun hc => ?_)
    · exact absurd hc (nI_ge hin hn)
    · refine sg_aload_n 11 (sk_td o_fill 8 rfl) rfl rfl ?_
      refine sg_iload_n 12 (sk_td o_fill 9 rfl) rfl rfl ?_
      refine sg_iload_n 13 (sk_td o_fill 10 rfl) rfl rfl ?_
      have hb : sk_bi (nI i) n = true := by
        unfold sk_bi
        exact decide_eq_true (vp_in_nI hin hn)
      refine sm_iast 14 (sk_td o_fill 11 rfl) rfl hs hk hb ?_
      rw [nI_clamp (by omega), sk_fi_s]
      refine sg_iinc (nI (i + 1)) 17 [some (.inr (.inr (some (s, k)))), some (.inl v), some (.inl (nI (i + 1))), some (.inl (nI n))] (sk_td o_fill 12 rfl) rfl rfl (nI_1 i) rfl (Nat.le_of_ble_eq_true rfl) rfl ?_
      refine sg_goto 5 (sk_td o_fill 13 rfl) (by decide) ?_
      exact t_fill_5 hs hk hn m (i + 1) (by omega)
set_option maxRecDepth 100000 in
set_option maxHeartbeats 4000000 in
theorem s_J7_fill_53178 {l : Launch} {d : sk_D} {s k n : Nat} {v : Int32} (hs : sk_shp s = .inr (0, n)) (hk : k < sk_cnt s) (hn : n < 2 ^ 31) : sk_M l 1 m_J7_fill_53178 [.inr (.inr (some (s, k))), .inl v] (sk_mm d) none (sk_mm (sk_fi d s k n v)) := by
  refine sk_enter (by decide) (fun _ => Nat.le_of_ble_eq_true rfl) (Nat.le_of_ble_eq_true rfl) ?_
  show sk_G l (sk_rm 1 0 0) m_J7_fill_53178 sk_Ex0 (sk_Zm m_J7_fill_53178 none (sk_mm (sk_fi d s k n v))) 0 0 0 [some (.inr (.inr (some (s, k)))), some (.inl v), none, none] [] (sk_mm d)
  refine sg_iconst (v := (0 : Int32)) 1 (sk_td o_fill 0 rfl) rfl (by decide) ?_
  refine sg_istore_n 2 [some (.inr (.inr (some (s, k)))), some (.inl v), some (.inl 0), none] (sk_td o_fill 1 rfl) rfl rfl (Nat.le_of_ble_eq_true rfl) rfl ?_
  refine sg_aload_n 3 (sk_td o_fill 2 rfl) rfl rfl ?_
  refine sm_alen (nI n) 4 (sk_td o_fill 3 rfl) rfl hs (by decide) hk rfl ?_
  refine sg_istore_n 5 [some (.inr (.inr (some (s, k)))), some (.inl v), some (.inl 0), some (.inl (nI n))] (sk_td o_fill 4 rfl) rfl rfl (Nat.le_of_ble_eq_true rfl) rfl ?_
  have h := t_fill_5 (l := l) (d := d) (v := v) hs hk hn n 0 (by omega)
  rw [sk_fi_0] at h
  exact h
