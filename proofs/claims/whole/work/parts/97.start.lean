/-! THE CLAIM OUT OF ONE WALK OF THE LAW'S BODY. Your part is whole_start (and what it stands on); all else here is the same for every law, but numbers. -/
def R_law : String := "CanvasRoomLaw"
def lw_P (b : Addr) (xs : List Int32) (args : Array Value) (s : State) : Prop := args = #[.ref b] ∧ s.IntsAt b xs ∧ xs.length ≤ 4096 ∧ (Jvm.Cond.and given_1 narrow_1).before args s = true
def lw_Q (_ : Array Value) (s : State) (o : Outcome) (t : State) : Prop := o = .returned (some (.int 1)) ∧ Framed s o t [] 601024 7293034
def lw_Z (below : List Frame) (a : Array Value) (s : State) : State → Prop := fun t => ∃ o, t.status = .running ∧ Ended t below o ∧ lw_Q a s o t
/-- the law's own end, with 1 on the stack, nothing written that was there before, its room as the claim has it -/
theorem lw_ret {p : Program} {l : Launch} {e : Env} {s : State} {m : MethodId} {below : List Frame} {meth : Method} {c : Code} {b : Nat} (hx : p.tables.exec = Jvm.exec) (hb : c.code = code) (hr : meth.sig.returnType = ret) (hlocks : meth.locks = false) {pc : Nat} {H : Heap} {ls : Array Slot} (hdg : decode code pc = .ok (.ireturn, 1)) : W p l e room_1 s m #[Value.ref b] below meth c H [] 601024 7293034 (lw_Z below #[Value.ref b] s) (F0 m pc ls [.int 1]) := by
  intro T hT X
  obtain ⟨fs, hret, hrun, hended, hW, hframe⟩ := X.leave (v := some (.int 1)) (hlocks := hlocks) (fun h => by rw [hr] at h; cases h)
  have hmeth' : T.vm.method? m = some meth := X.method'
  refine ⟨T.setFrames fs, ?_, .returned (some (.int 1)), hrun, hended, rfl, ⟨_, rfl⟩, hW, hframe⟩
  jvm_step X.here [X.here.top, hx, hb, hdg, hmeth', hr, ret, narrow_b1]
  (try refine ⟨rfl, ?_⟩); (try refine ⟨rfl, ?_⟩)
  first | (intro acts; rw [hret _ acts rfl rfl rfl]) | rw [hret _ _ rfl rfl rfl]
  exact Steps.refl _
/-- what holds at the law's entry: the machine, the code, the tables' words (any of lw_tbl by 'hts w (by decide +kernel)'), the script of L ints xs at the cell b, what the Statement gives of the start (any of its parts by flat_of_before) -/
def lw_At (p : Program) (s : State) (m : MethodId) (meth : Method) (c : Code) (b L : Nat) (xs : Nat → Int32) : Prop :=
  p.tables.exec = Jvm.exec ∧ c.code = code ∧ meth.sig.returnType = ret ∧ c.maxLocals = 8 ∧ s.vm.findClass R_law = some m.cls ∧ (∀ w ∈ lw_tbl, w.before #[Value.ref b] s = true) ∧ va_X b L xs s s.heap ∧ b < s.heap.size ∧ meth.locks = false ∧ (Jvm.Cond.and given_1 narrow_1).before #[Value.ref b] s = true
/-! the law's start -/
theorem st_rc {args : Array Value} {s : State} {t : FieldType} (h : (Cond.arrayClass t).before args s = true) (h2 : ∀ c : ClassId, s.vm.findClass ("[" ++ t.toString) = some c → va_RA s c t) : ∃ c : ClassId, ArrOfT s c t ∧ va_RA s c t := by
  obtain ⟨c, k, comp, h3, h4, h5⟩ := Cond.arrayClass_spec h
  exact ⟨c, fun N z => ⟨fun q hq => (by cases hq), k, h4, comp, h5⟩, h2 c h3⟩
theorem st_rcO {args : Array Value} {s : State} {n : String} (h : (Cond.arrayOver (.object n)).before args s = true) : ∃ c : ClassId, ArrOfT s c (.object n) ∧ va_RA s c (.object n) := by
  obtain ⟨comp, c, k, h3, -, h4, h5, h6⟩ := Cond.arrayOver_spec h
  exact ⟨c, fun N z => ⟨fun q hq => (by cases hq), k, h4, comp, h5⟩, k, comp, h4, h5, h3, h6⟩
theorem st_empty {args : Array Value} {s : State} {tm : Term} {ty : FieldType} (harr : (Cond.arrayOf tm ty).before args s = true) (hlen : (Cond.eq (.length tm) (.int 0)).before args s = true) : ∃ (t : Nat) (cell : Cell), tm.eval args s none [] s = some (.ref t) ∧ s.heap[t]? = some cell ∧ s.isArrayOf cell ty ∧ cell.vm ≠ .unknown ∧ cell.slots.size = 0 := by
  have hv := va_eqt hlen
  obtain ⟨t, cell, ht, hat, hz⟩ := Term.length_spec hv
  have hsz : cell.slots.size < 2 ^ 31 := by
    simp only [Term.eval, ht, hat, Option.bind_eq_bind, Option.bind_some] at hv
    by_cases hlt : cell.slots.size < 2147483648
    · exact hlt
    · simp [hlt] at hv
  obtain ⟨hcell, hkn, -, -⟩ := State.arrayAt?_spec hat
  have h0 : cell.slots.size.toInt32 = 0 := by injection hz with hz; exact hz.symm
  have h1 : cell.slots.size = 0 := by
    have h2 := Int32.toNatClampNeg_ofNat_of_lt hsz
    rw [show Int32.ofNat cell.slots.size = 0 from h0] at h2
    exact h2.symm
  exact ⟨t, cell, ht, hcell, (Cond.arrayOf_spec harr ht hcell).1, hkn, h1⟩
theorem st_strs : ∀ q ∈ g_strs, Cond.stringRef q.1 q.2.1 q.2.2 ∈ lw_tbl ∧ Cond.exactly (.string q.1 q.2.1) "java/lang/String" ∈ flatC (Jvm.Cond.and given_1 narrow_1) := by decide +kernel
theorem st_ncs : ∀ q ∈ g_ncs, Cond.not (.castable q.1 q.2) ∈ flatC (Jvm.Cond.and given_1 narrow_1) := by decide +kernel
theorem st_cls : ∀ (k : Nat) (q : vw_C), vwCl[k]? = some q → (∀ w ∈ u_ws q.1 q.2.1 q.2.2, w ∈ TW) ∧ Cond.instantiable q.1 q.2.2 ∈ TW := by
  intro k q hq
  match k, hq with
  | 0, hq => cases hq; exact ⟨gcl0_in, tw94⟩
  | 1, hq => cases hq; exact ⟨gcl_1.2.2.1, tw428⟩
  | 2, hq => cases hq; exact ⟨gcl_2.2.2.1, tw120⟩
  | 3, hq => cases hq; exact ⟨gcl_3.2.2.1, tw830⟩
  | 4, hq => cases hq; exact ⟨gcl_4.2.2.1, tw778⟩
  | 5, hq => cases hq; exact ⟨gcl_5.2.2.1, tw935⟩
  | 6, hq => cases hq; exact ⟨gcl_6.2.2.1, tw337⟩
  | 7, hq => cases hq; exact ⟨gcl_7.2.2.1, tw727⟩
  | 8, hq => cases hq; exact ⟨gcl_8.2.2.1, tw86⟩
  | 9, hq => cases hq; exact ⟨gcl_9.2.2.1, tw1054⟩
  | k + 10, hq => simp [vwCl] at hq
theorem st_K {args : Array Value} {s : State} (h417 : (Cond.arrayOver (.object "java/lang/Object")).before args s = true) (hts : ∀ w ∈ TW, w.before args s = true) : ∃ (D : va_G) (dA : Nat → ClassId), va_K D vwCl (g_tys dA) s := by
  have hcl : ∀ k : Nat, ∃ (cC : ClassId) (iS : Nat → Nat), ∀ q : vw_C, vwCl[k]? = some q → u_Kn s q.1 q.2.1 q.2.2 cC iS := by
    intro k
    cases e : vwCl[k]? with
    | none =>
      obtain ⟨c, -, -⟩ := st_rc (hts _ tw161) (fun c h => h)
      exact ⟨c, id, fun q h => by cases h⟩
    | some q =>
      obtain ⟨h1, h2⟩ := st_cls k q e
      obtain ⟨cC, iS, h⟩ := u_known hts h1 (hts _ h2)
      exact ⟨cC, iS, fun q' h' => by cases h'; exact h⟩
  obtain ⟨c0, a0, b0⟩ := st_rc (hts _ tw161) (fun c h => h)
  obtain ⟨c1, a1, b1⟩ := st_rc (hts _ tw824) (fun c h => h)
  obtain ⟨c2, a2, b2⟩ := st_rc (hts _ tw162) (fun c h => h)
  obtain ⟨c3, a3, b3⟩ := st_rcO h417
  refine ⟨(fun k => Classical.choose (hcl k), fun k => Classical.choose (Classical.choose_spec (hcl k))), (fun k => if k = 0 then c0 else if k = 1 then c1 else if k = 2 then c2 else c3), fun k q hq => Classical.choose_spec (Classical.choose_spec (hcl k)) q hq, fun k q hq => ?_⟩
  match k, hq with
  | 0, hq => cases hq; exact ⟨a0, b0⟩
  | 1, hq => cases hq; exact ⟨a1, b1⟩
  | 2, hq => cases hq; exact ⟨a2, b2⟩
  | 3, hq => cases hq; exact ⟨a3, b3⟩
  | k + 4, hq => simp at hq
theorem whole_from (hall : ∀ (sc : Nat → Int32) (L : Nat), L ≤ 4096 → wp_law sc L (fun _ => none)) {p : Program} {e : Env} {s : State} {m : MethodId} {below : List Frame} {meth : Method} {c : Code} (l : Launch) (hflags : l.flags = flags0) {b L : Nat} {xs : Nat → Int32} (hL : L ≤ 4096) (C0 : lw_At p s m meth c b L xs) : W p l e room_1 s m #[Value.ref b] below meth c s.heap [] 0 0 (lw_Z below #[Value.ref b] s) (entryFrame m ([Value.ref b] : List Value).toArray 8) := by
  obtain ⟨hx, hb, hr, hml, hown, hts, hX, hbl, hlk, hgv⟩ := C0
  have hs := flat_of_before _ hgv
  have htw : ∀ w ∈ TW, w.before #[Value.ref b] s = true := fun w hw => hts w (tw_tbl hw)
  obtain ⟨D, dA, hK⟩ := st_K (hts (.arrayOver (.object "java/lang/Object")) (by decide +kernel)) htw
  have hA : ∀ a : Nat, a < s.heap.size → ¬ gA s.heap.size a := fun a h9 => Nat.not_le.mpr h9
  obtain ⟨E0, cell, hE1, hE2, hE3, hE4, hE5⟩ := st_empty (hs (.arrayOf (.static "java/util/ArrayList" "DEFAULTCAPACITY_EMPTY_ELEMENTDATA" "[Ljava/lang/Object;") (.object "java/lang/Object")) (by decide +kernel)) (hs (.eq (.length (.static "java/util/ArrayList" "DEFAULTCAPACITY_EMPTY_ELEMENTDATA" "[Ljava/lang/Object;")) (.int 0)) (by decide +kernel))
  have hZ0 := va_Zof (A := gA s.heap.size) (hts (.laysStatic "java/util/ArrayList" "DEFAULTCAPACITY_EMPTY_ELEMENTDATA" "[Ljava/lang/Object;") (by decide +kernel)) (hts (.initialized "java/util/ArrayList") (by decide +kernel)) hE1 hA
  have hZ1 := vx_Zqof (A := gA s.heap.size) (hts (.laysStatic "java/lang/Throwable" "UNASSIGNED_STACK" "[Ljava/lang/StackTraceElement;") (by decide +kernel)) (hts (.initialized "java/lang/Throwable") (by decide +kernel)) (hs (.isRef (.static "java/lang/Throwable" "UNASSIGNED_STACK" "[Ljava/lang/StackTraceElement;")) (by decide +kernel)) hA
  have hZ2 := vx_Zqof (A := gA s.heap.size) (hts (.laysStatic "java/lang/Throwable" "SUPPRESSED_SENTINEL" "Ljava/util/List;") (by decide +kernel)) (hts (.initialized "java/lang/Throwable") (by decide +kernel)) (hs (.isRef (.static "java/lang/Throwable" "SUPPRESSED_SENTINEL" "Ljava/util/List;")) (by decide +kernel)) hA
  have hS9 : ∀ q ∈ g_strs, ∃ sa, vk_R q.1 q.2.1 q.2.2 sa s := fun q hq => by
    obtain ⟨h1, h2⟩ := st_strs q hq
    obtain ⟨a, c, cA, kA, q1, -⟩ := Cond.exactly_spec (args := #[Value.ref b]) (first := s) (o := none) (s := s) (idx := []) (t := .string q.1 q.2.1) (cls := "java/lang/String") (hs _ h2)
    exact ⟨a, vk_R.of (hts _ h1) q1⟩
  have hMi := va_Mi.of (hs (.isRef (.mirror "[Ljava/lang/Object;")) (by decide +kernel))
  have hAO : va_AO "java/lang/Object" s := va_AO.of (hts (.arrayOver (.object "java/lang/Object")) (by decide +kernel))
  have hNc : ∀ q ∈ g_ncs, va_Nc q.1 q.2 s := fun q hq => va_Nc.of (hs _ (st_ncs q hq))
  have hgo : ∀ w ∈ TW, w.before #[] s = true := fun w hw => g_ok_go (s := s) (U := s) (State.WarmedH.refl _) (List.mem_filter.mp hw).2 (htw w hw)
  have hE : gE D dA E0 s.heap.size s := ⟨hK, hgo, hS9, hZ1, hZ2, hZ0, ⟨some_lt hE2, cell, hE2, hE3, hE4, hE5⟩, ⟨hMi, hAO, hNc⟩, Nat.le_refl _⟩
  have hlt : l.stackTraces = false := by
    unfold Launch.stackTraces
    rw [hflags]
    decide +kernel
  let X : gCx := ((l, D, dA, E0, s.heap.size), p, e, room_1, s, m, #[Value.ref b], below, meth, c, lw_Z below #[Value.ref b] s, 8)
  have C : gC X cL_law RL (some .boolean) room_1 := ⟨hx, hb, hml, hown, hr, hlk, hE, rfl⟩
  have hret : ∀ (mc ms : Nat) (loc : List (Nat × Value)) (g : GH), mc ≤ room_1.cells ∧ ms ≤ room_1.slots → gX X mc ms 2440 loc [.int 1] g := fun mc ms loc g h H locs ls hS _ _ =>
    W.widen h.1 h.2 (va_forget (fun q hq => hS.2.2 q hq) (lw_ret hx hb hr hlk dL_law_2440))
  have k := m_law (X := X) (b := b) (L := L) (sc := xs) C rfl hlt hX ⟨hbl, hbl⟩ hret (hall xs L hL)
  have hG0 : yW (xY X) (fun _ => none) s.heap := ⟨fun _ => (0, 0), fun a ci o h => by cases h⟩
  have k2 := k s.heap [] _ va_S.rf hG0 (lv_entry [Value.ref b] (Nat.le_of_ble_eq_true rfl : (lg_sl [Value.ref b]).length ≤ 8))
  rw [show ([Value.ref b] : List Value).toArray = ([Value.ref b] : List Value).toArray from rfl, lg_entry_eq]
  exact k2
