/-! MULTIANEWARRAY, two dimensions, rows of four numbers *** by hand: the machine's own text, walked *** -/
section MNA
variable {p : Program} {l : Launch} {e : Env} {R : Room} {s U : State} {m : MethodId} {args : Array Value} {below : List Frame} {meth : Method} {c : Code} {locs : List Loc} {cells slots : Nat}
def mn_V (b i : Nat) : Nat → Value := fun j => if j < i then .ref (b + 1 + j) else .null
def mn_U (U : State) (cA comp : ClassId) (N : Nat) : Nat → State
  | 0 => U.pushCell (arrV cA N (fun _ => .null))
  | i + 1 => ((mn_U U cA comp N i).pushCell (arrV comp 4 (fun _ => .int 0))).setCell U.heap.size ((arrV cA N (mn_V U.heap.size i)).setSlot i (.ref (U.heap.size + 1 + i)))
theorem mn_V_s (cA : ClassId) (N b i : Nat) : (arrV cA N (mn_V b i)).setSlot i (.ref (b + 1 + i)) = arrV cA N (mn_V b (i + 1)) := by
  rw [arrV_store]
  congr 1
  funext j
  unfold updV mn_V
  by_cases h : j = i
  · subst h
    rw [if_pos rfl, if_pos (Nat.lt_succ_self j)]
  · rw [if_neg h]
    by_cases q : j < i
    · rw [if_pos q, if_pos (by omega)]
    · rw [if_neg q, if_neg (by omega)]
theorem mn_f (U : State) (cA comp : ClassId) (N : Nat) : ∀ i, (mn_U U cA comp N i).heap.size = U.heap.size + 1 + i ∧ (mn_U U cA comp N i).heap[U.heap.size]? = some (arrV cA N (mn_V U.heap.size i)) ∧ (mn_U U cA comp N i).vm = U.vm ∧ (∀ q : Nat, q < U.heap.size → (mn_U U cA comp N i).heap[q]? = U.heap[q]?) ∧ ∀ j : Nat, j < i → (mn_U U cA comp N i).heap[U.heap.size + 1 + j]? = some (arrV comp 4 (fun _ => .int 0))
  | 0 => by
    refine ⟨by simp [mn_U], ?_, rfl, fun q hq => State.heap_pushCell_of_lt _ _ hq, fun j hj => absurd hj (Nat.not_lt_zero j)⟩
    exact State.heap_pushCell_size _ _
  | i + 1 => by
    obtain ⟨f1, f2, f3, f4, f5⟩ := mn_f U cA comp N i
    have hlt : U.heap.size < (mn_U U cA comp N i).heap.size := by omega
    have hc : ((mn_U U cA comp N i).pushCell (arrV comp 4 (fun _ => .int 0))).heap[U.heap.size]? = some (arrV cA N (mn_V U.heap.size i)) := by
      rw [State.heap_pushCell_of_lt _ _ hlt]
      exact f2
    refine ⟨?_, ?_, ?_, fun q hq => ?_, fun j hj => ?_⟩
    · show (State.setCell _ _ _).heap.size = _
      simp [State.setCell, f1]
      omega
    · show (State.setCell _ _ _).heap[U.heap.size]? = _
      rw [State.heap_setCell_self hc, mn_V_s]
    · exact f3
    · show (State.setCell _ _ _).heap[q]? = _
      have hne : U.heap.size ≠ q := Nat.ne_of_gt hq
      rw [State.heap_setCell_other hne, State.heap_pushCell_of_lt _ _ (Nat.lt_trans hq hlt)]
      exact f4 q hq
    · show (State.setCell _ _ _).heap[U.heap.size + 1 + j]? = _
      have hne : U.heap.size ≠ U.heap.size + 1 + j := by omega
      rw [State.heap_setCell_other hne]
      by_cases q : j = i
      · subst q
        rw [← f1]
        exact State.heap_pushCell_size _ _
      · have hlt2 : U.heap.size + 1 + j < (mn_U U cA comp N i).heap.size := by omega
        rw [State.heap_pushCell_of_lt _ _ hlt2]
        exact f5 j (by omega)
theorem mn_top (U : State) (f : JFrame) (cA comp : ClassId) (N : Nat) : ∀ i, mn_U (U.setTop f) cA comp N i = (mn_U U cA comp N i).setTop f
  | 0 => rfl
  | i + 1 => by
    show ((mn_U (U.setTop f) cA comp N i).pushCell _).setCell (U.setTop f).heap.size _ = _
    rw [mn_top U f cA comp N i]
    rfl
theorem mn_X (X : Stand p l e R s m args below meth c U locs cells slots) (cA comp : ClassId) (N : Nat) : ∀ i, ∃ L : List Loc, (∀ q ∈ L, q.base = U.heap.size) ∧ Stand p l e R s m args below meth c (mn_U U cA comp N i) (locs ++ L) (cells + 1 + i) (slots + N + i * 4)
  | 0 => by
    have h := X.pushed (arrV cA N (fun _ => .null))
    rw [arrV_size] at h
    refine ⟨[], (fun q hq => by cases hq), ?_⟩
    rw [List.append_nil, Nat.zero_mul]
    exact h
  | i + 1 => by
    obtain ⟨L, hL, Xi⟩ := mn_X X cA comp N i
    obtain ⟨f1, f2, _⟩ := mn_f U cA comp N i
    have hlt : U.heap.size < (mn_U U cA comp N i).heap.size := by omega
    have hc : ((mn_U U cA comp N i).pushCell (arrV comp 4 (fun _ => .int 0))).heap[U.heap.size]? = some (arrV cA N (mn_V U.heap.size i)) := by
      rw [State.heap_pushCell_of_lt _ _ hlt]
      exact f2
    have h := (Xi.pushed (arrV comp 4 (fun _ => .int 0))).stored hc i (.ref (U.heap.size + 1 + i))
    rw [arrV_size, List.append_assoc] at h
    refine ⟨L ++ [⟨U.heap.size, i⟩], fun q hq => ?_, ?_⟩
    · rcases List.mem_append.mp hq with q1 | q1
      · exact hL q q1
      · rw [List.mem_singleton.mp q1]
    · rw [show slots + N + (i + 1) * 4 = slots + N + i * 4 + 4 by omega]
      exact h
theorem mn_1 {E : CtlPost} {d : Bool} {acts : List Action} {comp cc : ClassId} {kC : Class} (hkC : U.vm.classes[comp]? = some kC) (hC : kC.kind = .array cc .int) {k : Int32} (hk : ¬ k < 0) (hk4 : k.toNatClampNeg = 4) (hl : ¬ 4 > e.platform.arrayLengthLimit) (hh : ¬ 4 * componentBytes .int > e.platform.maxHeapBytes) (h1 : U.heap.size < e.platform.maxCells) (h2 : U.slotsUsed + 4 ≤ e.platform.maxSlots)
    {Q : Addr → Pre} (hq : ∀ acts', Q U.heap.size d acts' (U.pushCell (arrV comp 4 (fun _ => .int 0)))) : wp (multianewarray.make comp [k]) Q E e d acts U := by
  rw [multianewarray.make]
  simp only [wp_bind', Jvm.W.ite, hk, if_false, wp_pure', Jvm.W.theClass, hkC, hC, Option.some.injEq, exists_eq_left', hk4]
  refine Jvm.W.newArray_of hkC hC hl hh h1 h2 rfl (fun acts' => ?_)
  have := hq acts'
  rw [← arrV_new] at this
  exact this
theorem mn_wp {E : CtlPost} {d : Bool} {acts : List Action} {f : JFrame} (X : Stand p l e R s m args below meth c U locs cells slots) {cA comp cc : ClassId} {kA kC : Class} (hkA : U.vm.classes[cA]? = some kA) (hA : kA.kind = .array comp (.array .int)) (hkC : U.vm.classes[comp]? = some kC) (hC : kC.kind = .array cc .int) {n k : Int32} {N : Nat} (hn : ¬ n < 0) (hN : n.toNatClampNeg = N) (hk : ¬ k < 0) (hk4 : k.toNatClampNeg = 4) (h100 : N ≤ 100) (hc : cells + (1 + N) ≤ R.cells) (hs : slots + (N + N * 4) ≤ R.slots)
    {Q : Addr → Pre} (hq : ∀ d' acts', Q U.heap.size d' acts' ((mn_U U cA comp N N).setTop f)) : wp (multianewarray.make cA [n, k]) Q E e d acts (U.setTop f) := by
  have hfind : ([k].find? (· < 0)) = none := by simp [hk]
  have hl : ∀ j, j ≤ 100 → ¬ j > e.platform.arrayLengthLimit := fun j hj => by rw [Launch.admits_arrayLengthLimit X.admits]; omega
  have hb : ∀ j, j ≤ 100 → ¬ j * 4 > e.platform.maxHeapBytes := fun j hj => by rw [Launch.admits_maxHeapBytes X.admits]; omega
  obtain ⟨r1, r2⟩ := X.roomAbove hc hs
  rw [multianewarray.make]
  simp only [wp_bind', Jvm.W.ite, hn, if_false, wp_pure', Jvm.W.theClass, State.vm_setTop, hkA, hA, Option.some.injEq, exists_eq_left', hN]
  refine Jvm.W.newArray_of hkA hA (hl N h100) (hb N h100) (show U.heap.size < _ by omega) (show U.slotsUsed + N ≤ _ by omega) rfl (fun acts1 => ?_)
  simp only [hfind]
  rw [ite_self, wp_bind', Std.Legacy.Range.forIn_eq_forIn_range']
  have hsz : ([:N] : Std.Legacy.Range).size = N := by simp [Std.Legacy.Range.size]
  rw [hsz]
  show wp (forIn (List.range' 0 N 1) PUnit.unit _) _ E e d acts1 _
  have hfit : ∀ a : Addr, fits (.array .int) (.ref a) = true := fun _ => rfl
  refine wp_forIn_inv (fun rest s' => ∃ i, i ≤ N ∧ rest = List.range' i (N - i) ∧ s' = (mn_U U cA comp N i).setTop f) _ _ ⟨0, Nat.zero_le _, rfl, ?_⟩ ?_ ?_
  · show (U.setTop f).pushCell _ = (U.pushCell (arrV cA N (fun _ => Value.null))).setTop f
    rw [← arrV_new]
    rfl
  · rintro y rest s' d' acts' Q' ⟨i, hi, hr, rfl⟩ hnext
    have hlt : i < N := by
      rcases Nat.lt_or_ge i N with h | h
      · exact h
      · rw [show N - i = 0 by omega] at hr
        cases hr
    rw [show N - i = (N - (i + 1)) + 1 by omega, List.range'_succ] at hr
    obtain ⟨hy, hrest⟩ := List.cons.inj hr
    subst hy
    obtain ⟨f1, f2, f3, f4, f5⟩ := mn_f U cA comp N y
    obtain ⟨L, hL, Xi⟩ := mn_X X cA comp N y
    obtain ⟨q1, q2⟩ := Xi.roomAbove (a := 1) (b := 4) (by omega) (by omega)
    have hlt2 : U.heap.size < (mn_U U cA comp N y).heap.size := by omega
    have hcell : ((mn_U U cA comp N y).pushCell (arrV comp 4 (fun _ => .int 0))).heap[U.heap.size]? = some (arrV cA N (mn_V U.heap.size y)) := by
      rw [State.heap_pushCell_of_lt _ _ hlt2]
      exact f2
    simp only [wp_bind']
    refine mn_1 (U := (mn_U U cA comp N y).setTop f) (kC := kC) (by show (mn_U U cA comp N y).vm.classes[comp]? = _; rw [f3]; exact hkC) hC hk hk4 (hl 4 (by omega)) (hb 4 (by omega)) (by show (mn_U U cA comp N y).heap.size < _; omega) (by show (mn_U U cA comp N y).slotsUsed + 4 ≤ _; omega) (fun acts2 => ?_)
    have e1 : ((mn_U U cA comp N y).setTop f).heap.size = U.heap.size + 1 + y := f1
    rw [e1]
    simp only [wp_bind', Jvm.W.writeLoc, wp_pure']
    refine ⟨arrV cA N (mn_V U.heap.size y), hcell, (fun z => by cases z), (by rw [arrV_size]; exact hlt), ?_, hnext _ _ _ ⟨y + 1, hlt, hrest, rfl⟩⟩
    show State.fitsSlot _ cA .none y _ = true
    simp [State.fitsSlot, State.slotType?, f3, hkA, hA, hfit]
  · rintro s' d' acts' ⟨i, hi, hr, rfl⟩
    have hiN : i = N := by
      rcases Nat.lt_or_ge i N with h | h
      · rw [show N - i = (N - (i + 1)) + 1 by omega, List.range'_succ] at hr
        cases hr
      · omega
    subst hiN
    simp only [wp_pure']
    exact hq _ _
end MNA
