theorem g_v_sI {a : Nat} {o : FO} {k j : Nat} {x : Int32} {q : gK} (h : j ≠ k) : g_v a (sI o k x) j q = g_v a o j q := by
  unfold g_v; split <;> simp [fI, fL, fR, sI, va_up, h]
theorem g_v_sL {a : Nat} {o : FO} {k j : Nat} {x : Int64} {q : gK} (h : j ≠ k) : g_v a (sL o k x) j q = g_v a o j q := by
  unfold g_v; split <;> simp [fI, fL, fR, sL, va_up, h]
theorem g_v_sA {a : Nat} {o : FO} {k i j : Nat} {x : Int32} {q : gK} : g_v a (sA o k i x) j q = g_v a o j q := rfl
theorem g_v_sB {a : Nat} {o : FO} {k i j : Nat} {x : Int64} {q : gK} : g_v a (sB o k i x) j q = g_v a o j q := rfl
theorem g_arr_sA {dA : Nat → ClassId} {o : FO} {k i j : Nat} {x : Int32} {q : gK} (h : j ≠ k) : g_arr dA (sA o k i x) j q = g_arr dA o j q := by
  unfold g_arr; split <;> simp [fA, fB, sA, va_up, h]
theorem g_arr_sB {dA : Nat → ClassId} {o : FO} {k i j : Nat} {x : Int64} {q : gK} (h : j ≠ k) : g_arr dA (sB o k i x) j q = g_arr dA o j q := by
  unfold g_arr; split <;> simp [fA, fB, sB, va_up, h]
section GROWS3
variable {X : gCx} {cc : ByteArray} {own : String} {ret : Option FieldType} {rm : Room} {mc ms pc : Nat} {loc : List (Nat × Value)} {stk : List Value} {h : GH}
theorem r_put (C : gC X cc own ret rm) {ci a k index N : Nat} {Cn ref : String} {T : u_T} {ty : Nat → FieldType} {o o' : FO} {q : gK} {v : Value} {h' : GH} (hB : gCl ci Cn T N ty) (hd : decode cc pc = .ok (.putfield index, 3)) (hq : (g_tab ci)[k]? = some q) (hl1 : Cond.fieldLink own index ref (T k).2.1 (T k).2.2.1 ∈ TW) (hr : (T k).1 = ref) (hfin : (T k).2.2.2 = false ∨ ((T k).2.2.2 = true ∧ (xh X).name = "<init>" ∧ (T k).1 = own)) (hg : h a = some (ci, o)) (hn : narrow (ty k) v = v) (hf : fits (ty k) v = true)
    (hv : g_v a o' k q = v) (ho : ∀ j qj, j ≠ k → g_v a o' j qj = g_v a o j qj) (hrr : ∀ j qj, g_arr (ydA (xY X)) o' j qj = g_arr (ydA (xY X)) o j qj) (hh : h' = hu h a (ci, o')) (kk : gX X mc ms (pc + 3) loc stk h') : gX X mc ms pc loc (v :: .ref a :: stk) h := fun H locs ls hS hG hl => by
  obtain ⟨c1, c2, c3, c4, c5, c6⟩ := hB
  subst hr hh
  have hb0 := C.2.2.2.2.2.2.1
  have hob := (g_ob hG c6 hg).1
  have hB0 : yB0 (xY X) ≤ a := by obtain ⟨tag, hG⟩ := hG; exact (hG a ci o hg).1
  have hk : k < N := by rw [c2]; exact (List.getElem?_eq_some_iff.mp hq).1
  have hap := va_apart (own := own) C.hts c3 ty c4 c5 C.K c1
  obtain ⟨cell, q1, q2, q3, q4⟩ := hob
  obtain ⟨hSl, hfc, kC, hkC, hkind⟩ := C.K.1 ci _ c1
  obtain ⟨cf, kf, fi, f, hi, hsl⟩ := hSl k hk
  have hlay := C.hts _ (c3 _ (u_in_lay hk))
  unfold u_lay at hlay
  have hst := (u_facts hfc hkC (u_lays C.hts c3 hk) hi).1
  have hslot : f.slot < cell.slots.size := by rw [hsl]; exact k2_hasslot (q4 k (by rw [← c2]; exact hk))
  have fin : ∀ H' : Heap, H'[a]? = some (cell.setSlot f.slot v) → H'.size = H.size → (∀ q, q ≠ a → H'[q]? = H[q]?) → gV X H' (locs ++ [⟨a, f.slot⟩]) mc ms (F0 (xm X) (pc + 3) ls stk) := fun H' e1 e2 e3 =>
    kk H' _ ls (hS.put e2 e3 hB0) (g_put hG c6 hg hq (fun x y hx hy => hap x y (by rw [c2]; exact hx) (by rw [c2]; exact hy)) q1 hsl e1 e3 hv (fun j qj e _ => ho j qj e) (fun j qj _ _ => hrr j qj)) hl
  rcases hfin with hfin | ⟨hfin, hin2, hdecl⟩
  · rw [if_neg (by rw [hfin]; decide)] at hlay
    have h6 := u_store hfc hkC hkind hlay hi (c4 k hk) hn hf
    exact W.putK C.1 C.2.1 (f := f) ⟨C.2.2.2.1, C.ht hl1, ⟨_, _, _, hi⟩, hst⟩ (by rw [q2]; exact h6) q1 q3 hslot rfl rfl hd fin
  · rw [if_pos hfin] at hlay
    have hcf : (xm X).cls = cf := by
      obtain ⟨_, _, c', _, _, _, -, -, hf', -, -, -, hown2, -⟩ := Cond.laysFinal_spec hlay
      have e1 : c' = cf := by have := hi.symm.trans hf'; simp at this; exact this.1.symm
      rw [hdecl] at hown2
      rw [← e1]; exact Option.some.inj (C.2.2.2.1.symm.trans hown2)
    have h6 := u_fits hfc hkC hkind (Or.inr hlay) hi (c4 k hk) hn hf
    exact W.putFinK C.1 C.2.1 C.2.2.2.1 (C.ht hl1) hi hst hcf hin2 (by rw [q2]; exact h6) q1 q3 hslot rfl rfl hd fin
theorem r_putI (C : gC X cc own ret rm) {ci a k index N : Nat} {Cn ref : String} {T : u_T} {ty : Nat → FieldType} {o o' : FO} {x : Int32} {h' : GH} (hB : gCl ci Cn T N ty) (hd : decode cc pc = .ok (.putfield index, 3)) (hq : (g_tab ci)[k]? = some (0, 0, 0)) (hl1 : Cond.fieldLink own index ref (T k).2.1 (T k).2.2.1 ∈ TW) (hr : (T k).1 = ref) (hfin : (T k).2.2.2 = false ∨ ((T k).2.2.2 = true ∧ (xh X).name = "<init>" ∧ (T k).1 = own)) (hn : narrow (ty k) (.int x) = .int x) (hf : fits (ty k) (.int x) = true) (hg : h a = some (ci, o)) (ho : o' = sI o k x) (hh : h' = hu h a (ci, o')) (kk : gX X mc ms (pc + 3) loc stk h') : gX X mc ms pc loc (.int x :: .ref a :: stk) h := by
  subst ho
  exact r_put C hB hd hq hl1 hr hfin hg hn hf (by simp [g_v, fI, sI, va_up]) (fun j qj e => g_v_sI e) (fun j qj => rfl) hh kk
theorem r_putL (C : gC X cc own ret rm) {ci a k index N : Nat} {Cn ref : String} {T : u_T} {ty : Nat → FieldType} {o o' : FO} {x : Int64} {h' : GH} (hB : gCl ci Cn T N ty) (hd : decode cc pc = .ok (.putfield index, 3)) (hq : (g_tab ci)[k]? = some (1, 0, 0)) (hl1 : Cond.fieldLink own index ref (T k).2.1 (T k).2.2.1 ∈ TW) (hr : (T k).1 = ref) (hfin : (T k).2.2.2 = false ∨ ((T k).2.2.2 = true ∧ (xh X).name = "<init>" ∧ (T k).1 = own)) (hn : narrow (ty k) (.long x) = .long x) (hf : fits (ty k) (.long x) = true) (hg : h a = some (ci, o)) (ho : o' = sL o k x) (hh : h' = hu h a (ci, o')) (kk : gX X mc ms (pc + 3) loc stk h') : gX X mc ms pc loc (.long x :: .ref a :: stk) h := by
  subst ho
  exact r_put C hB hd hq hl1 hr hfin hg hn hf (by simp [g_v, fL, sL, va_up]) (fun j qj e => g_v_sL e) (fun j qj => rfl) hh kk
theorem g_B0 {X : gCx} {h : GH} {H : Heap} {a ci : Nat} {o : FO} (hG : yW (xY X) h H) (hg : h a = some (ci, o)) : yB0 (xY X) ≤ a := by obtain ⟨tag, hG⟩ := hG; exact (hG a ci o hg).1
theorem r_iast (C : gC X cc own ret rm) {ci a k n off : Nat} {o o' : FO} {i x : Int32} {h' : GH} (hd : decode cc pc = .ok (.iastore, 1)) (hn : g_nice ci = true) (hq : (g_tab ci)[k]? = some (3, n, off)) (hg : h a = some (ci, o)) (hin : vp_in i n) (ho : o' = sA o k i.toNatClampNeg x) (hh : h' = hu h a (ci, o')) (kk : gX X mc ms (pc + 1) loc stk h') : gX X mc ms pc loc (.int x :: .int i :: .ref (a + off) :: stk) h := fun H locs ls hS hG hl => by
  subst ho hh
  have h1 := g_arrW hG hn hg hq (Nat.le_refl 3)
  refine W.iast C.1 C.2.1 h1 ((C.K.2 0 _ rfl).1 n (fun j => .int (fA o k j))) (fun q => by cases q) (by show ¬ (i < 0 ∨ (arrV _ _ _).slots.size ≤ _); rw [arrV_size]; exact hin) rfl rfl hd fun H1 e z oq => ?_
  refine kk H1 _ ls (hS.put z oq (Nat.le_trans (g_B0 hG hg) (Nat.le_add_right a off))) (g_ast hG hn hg hq (Nat.le_refl 3) ?_ oq (fun j qj _ => g_v_sA) (fun j qj e _ _ => g_arr_sA e)) hl
  rw [e]
  rw [show g_arr (ydA (xY X)) o k (3, n, off) = arrV ((ydA (xY X)) 0) n (fun j => .int (fA o k j)) from rfl, show g_arr (ydA (xY X)) (sA o k i.toNatClampNeg x) k (3, n, off) = arrV ((ydA (xY X)) 0) n (fun j => .int (fA (sA o k i.toNatClampNeg x) k j)) from rfl, arrV_store]
  congr 2
  funext j
  by_cases hj : j = i.toNatClampNeg
  · subst hj; simp [updV, fA, sA, va_up]
  · simp [updV, fA, sA, va_up, hj]
theorem r_zast (C : gC X cc own ret rm) {ci a k n off : Nat} {o o' : FO} {i x : Int32} {h' : GH} (hd : decode cc pc = .ok (.bastore, 1)) (hn : g_nice ci = true) (hq : (g_tab ci)[k]? = some (4, n, off)) (hg : h a = some (ci, o)) (hin : vp_in i n) (ho : o' = sA o k i.toNatClampNeg (vp_nar .boolean x)) (hh : h' = hu h a (ci, o')) (kk : gX X mc ms (pc + 1) loc stk h') : gX X mc ms pc loc (.int x :: .int i :: .ref (a + off) :: stk) h := fun H locs ls hS hG hl => by
  subst ho hh
  have h1 := g_arrW hG hn hg hq (by decide : 3 ≤ 4)
  refine W.zast C.1 C.2.1 h1 ((C.K.2 1 _ rfl).1 n (fun j => .int (fA o k j))) (fun q => by cases q) (by show ¬ (i < 0 ∨ (arrV _ _ _).slots.size ≤ _); rw [arrV_size]; exact hin) rfl rfl hd fun H1 e z oq => ?_
  refine kk H1 _ ls (hS.put z oq (Nat.le_trans (g_B0 hG hg) (Nat.le_add_right a off))) (g_ast hG hn hg hq (by decide : 3 ≤ 4) ?_ oq (fun j qj _ => g_v_sA) (fun j qj e _ _ => g_arr_sA e)) hl
  rw [e]
  rw [show g_arr (ydA (xY X)) o k (4, n, off) = arrV ((ydA (xY X)) 1) n (fun j => .int (fA o k j)) from rfl, show g_arr (ydA (xY X)) (sA o k i.toNatClampNeg (vp_nar .boolean x)) k (4, n, off) = arrV ((ydA (xY X)) 1) n (fun j => .int (fA (sA o k i.toNatClampNeg (vp_nar .boolean x)) k j)) from rfl, arrV_store]
  congr 2
  funext j
  by_cases hj : j = i.toNatClampNeg
  · subst hj; simp [updV, fA, sA, va_up, vp_nar]; try rfl
  · simp [updV, fA, sA, va_up, hj]
theorem r_last (C : gC X cc own ret rm) {ci a k n off : Nat} {o o' : FO} {i : Int32} {x : Int64} {h' : GH} (hd : decode cc pc = .ok (.lastore, 1)) (hn : g_nice ci = true) (hq : (g_tab ci)[k]? = some (5, n, off)) (hg : h a = some (ci, o)) (hin : vp_in i n) (ho : o' = sB o k i.toNatClampNeg x) (hh : h' = hu h a (ci, o')) (kk : gX X mc ms (pc + 1) loc stk h') : gX X mc ms pc loc (.long x :: .int i :: .ref (a + off) :: stk) h := fun H locs ls hS hG hl => by
  subst ho hh
  have h1 := g_arrW hG hn hg hq (by decide : 3 ≤ 5)
  refine W.last C.1 C.2.1 h1 ((C.K.2 2 _ rfl).1 n (fun j => .long (fB o k j))) (fun q => by cases q) (by show ¬ (i < 0 ∨ (arrV _ _ _).slots.size ≤ _); rw [arrV_size]; exact hin) rfl rfl hd fun H1 e z oq => ?_
  refine kk H1 _ ls (hS.put z oq (Nat.le_trans (g_B0 hG hg) (Nat.le_add_right a off))) (g_ast hG hn hg hq (by decide : 3 ≤ 5) ?_ oq (fun j qj _ => g_v_sB) (fun j qj e _ _ => g_arr_sB e)) hl
  rw [e]
  rw [show g_arr (ydA (xY X)) o k (5, n, off) = arrV ((ydA (xY X)) 2) n (fun j => .long (fB o k j)) from rfl, show g_arr (ydA (xY X)) (sB o k i.toNatClampNeg x) k (5, n, off) = arrV ((ydA (xY X)) 2) n (fun j => .long (fB (sB o k i.toNatClampNeg x) k j)) from rfl, arrV_store]
  congr 2
  funext j
  by_cases hj : j = i.toNatClampNeg
  · subst hj; simp [updV, fB, sB, va_up]
  · simp [updV, fB, sB, va_up, hj]
theorem r_new (C : gC X cc own ret rm) {ci index N : Nat} {Cn : String} {T : u_T} {ty : Nat → FieldType} (hB : gCl ci Cn T N ty) (hd : decode cc pc = .ok (.new index, 3)) (hw : Cond.classLink own index Cn ∈ TW ∧ Cond.instantiable Cn N ∈ TW ∧ Cond.initialized Cn ∈ TW) (hsm : ∀ (k : Nat) (q : gK), (g_tab ci)[k]? = some q → q.1 < 3 ∧ ∀ a : Nat, defaultValue (ty k) = g_v a fo0 k q) (hcs : mc + 1 ≤ rm.cells ∧ ms + N ≤ rm.slots)
    (kk : ∀ a : Nat, h a = none → yB0 (xY X) ≤ a → gX X (mc + 1) (ms + N) (pc + 3) loc (.ref a :: stk) (hu h a (ci, fo0))) : gX X mc ms pc loc stk h := fun H locs ls hS hG hl => by
  obtain ⟨c1, c2, c3, c4, c5, c6⟩ := hB
  have hKn := C.K.1 ci _ c1
  have hR := C.2.2.2.2.2.2.2
  have hsz : yB0 (xY X) ≤ H.size := by
    obtain ⟨-, -, -, -, -, -, -, -, h13⟩ := C.2.2.2.2.2.2.1
    exact Nat.le_trans h13 hS.1
  refine W.newcK C.1 C.2.1 C.2.2.2.1 (C.ht hw.1) (C.ht hw.2.1) (C.ht hw.2.2) rfl hd (by rw [hR]; exact hcs.1) (by rw [hR]; exact hcs.2) hKn.2.1 rfl fun H1 kC hkC e1 z1 o1 => ?_
  obtain ⟨tag, hG⟩ := hG
  have hnone : h H.size = none := by
    cases e : h H.size with
    | none => rfl
    | some x => exact absurd (hG.lt (ci := x.1) (o := x.2) e) (Nat.lt_irrefl _)
  refine kk H.size hnone hsz H1 locs ls ⟨by rw [z1]; exact Nat.le_trans hS.1 (Nat.le_succ _), fun x h1 h2 => (o1 x (Nat.lt_of_lt_of_le h1 hS.1)).trans (hS.2.1 x h1 h2), hS.2.2⟩ ?_ hl
  refine ⟨fun q => if q = H.size then (H.size, 0) else tag q, hG.upd hsz (if_pos rfl) (fun q h1 _ => ⟨o1 q h1, if_neg (Nat.ne_of_lt h1)⟩) ?_⟩
  rw [g_pic_nice c6]
  refine ⟨?_, fun k q hq h3 => absurd (hsm k q hq).1 (Nat.not_lt.mpr h3)⟩
  have hb := (u_born ty C.hts c3 hKn hkC e1 c4).to (V' := vp_V (g_fs ci H.size fo0)) (fun j hj => by
    have hj2 : (g_tab ci)[j]? = some ((g_tab ci)[j]'(by rw [← c2]; exact hj)) := List.getElem?_eq_getElem _
    rw [g_fs_V hj2]
    exact (hsm j _ hj2).2 H.size)
  rw [c2] at hb
  exact hb
end GROWS3
/-! calls, entries, ends -/
def gPre (Y : gWx) (av : List Value) (h : GH) : Array Value → State → Prop := va_Pc av (fun U => yW Y h U.heap ∧ yE Y U)
abbrev gQv (Y : gWx) (post : GH → Prop) := va_Qv (S := GH) post (fun g t => yW Y g t.heap) (gA (yB0 Y))
abbrev gQi (Y : gWx) (post : Int32 → GH → Prop) := va_Qi (S := GH) post (fun g t => yW Y g t.heap) (gA (yB0 Y))
abbrev gQl (Y : gWx) (post : Int64 → GH → Prop) := va_Ql (S := GH) post (fun g t => yW Y g t.heap) (gA (yB0 Y))
abbrev gQr (Y : gWx) (post : Nat → GH → Prop) := va_Qr (S := Nat × GH) (fun u => post u.1 u.2) (fun u a t => a = u.1 ∧ yW Y u.2 t.heap) (gA (yB0 Y))
def gXC (Y : gWx) (px : String → GH → Prop) : String → State → State → Prop := vx_X (S := String × GH) (fun u => px u.1 u.2) (fun E u t => E = u.1 ∧ yW Y u.2 t.heap) (gA (yB0 Y))
/-- a method's contract: it returns -/
def gMet (Y : gWx) (y : MethodName) (bytes : ByteArray) (maxL : Nat) (ret : Option FieldType) (rm : Room) (av : List Value) (h : GH) (Qc : Array Value → State → Outcome → State → Prop) (mc ms : Nat) : Prop := Met (yl Y) y [Cond.code y bytes maxL ret] rm (gPre Y av h) Qc mc ms (gA (yB0 Y))
/-- a method's contract: it returns or throws -/
def gMex (Y : gWx) (y : MethodName) (bytes : ByteArray) (maxL : Nat) (ret : Option FieldType) (rm : Room) (av : List Value) (h : GH) (Qc : Array Value → State → Outcome → State → Prop) (px : String → GH → Prop) (mc ms : Nat) : Prop := vx_Met (yl Y) y [Cond.code y bytes maxL ret] rm (gPre Y av h) Qc (gXC Y px) mc ms (gA (yB0 Y))
/-- what the tables say of a method that is called -/
def gMt (y : MethodName) (bytes : ByteArray) (maxL : Nat) (ret : Option FieldType) (n : Nat) : Prop := Cond.code y bytes maxL ret ∈ TW ∧ Cond.initialized y.cls ∈ TW ∧ (y.cls ≠ "java/lang/invoke/MethodHandle" ∧ y.cls ≠ "java/lang/invoke/VarHandle" ∧ (parseMethodDescriptor y.desc).map (fun d => d.parameters.length) = some n)
theorem g_blind {Y : gWx} {av : List Value} {h : GH} : FrameBlind (gPre Y av h) := fun a U g mk q => ⟨q.1, q.2.1, gE_go q.2.2 va_S.rf rfl (State.WarmedH.refl U)⟩
theorem g_good {y : MethodName} {bytes : ByteArray} {maxL : Nat} {ret : Option FieldType} (h : Cond.code y bytes maxL ret ∈ TW) : GoodIn TW [Cond.code y bytes maxL ret] := fun w hw => by
  rw [List.mem_singleton.mp hw]; exact ⟨h, Or.inl rfl⟩
theorem g_recv {X : gCx} {h : GH} {H : Heap} {b ci N : Nat} {o : FO} {Cn : String} {T : u_T} (hK : va_K (yD (xY X)) vwCl (g_tys (ydA (xY X))) (xs X)) (hG : yW (xY X) h H) (hc : vwCl[ci]? = some (Cn, T, N)) (hg : h b = some (ci, o)) : ∃ cell : Cell, H[b]? = some cell ∧ cell.vm.isStatics = false ∧ (xs X).vm.findClass Cn = some cell.cls := by
  obtain ⟨tag, hG⟩ := hG
  have h3 := (hG b ci o hg).2.2
  have hfc := (hK.1 ci _ hc).2.1
  have fin : ∀ {N : Nat} {V : Nat → Value}, t_OB b ((yD (xY X)).1 ci) N ((yD (xY X)).2 ci) H V → ∃ cell : Cell, H[b]? = some cell ∧ cell.vm.isStatics = false ∧ (xs X).vm.findClass Cn = some cell.cls := fun z => by
    obtain ⟨cell, q1, q2, q3, -⟩ := z
    exact ⟨cell, q1, by rw [q3]; rfl, by rw [q2]; exact hfc⟩
  unfold g_pic at h3
  split at h3
  · obtain ⟨_, _, _, _, _, z, -⟩ := h3
    exact fin z
  · simp [vwCl] at hc
  · exact fin h3.1
section GCALLS
variable {X : gCx} {cc : ByteArray} {own : String} {ret : Option FieldType} {rm : Room} {mc ms pc : Nat} {loc : List (Nat × Value)} {stk st0 : List Value} {h : GH}
variable {y : MethodName} {bytes : ByteArray} {maxL n index mc' ms' : Nat} {rt : Option FieldType} {rm' : Room} {As : List Value} {b : Nat} {Qc : Array Value → State → Outcome → State → Prop} {px : String → GH → Prop}
/-- a call that is made here -/
def gRun (X : gCx) (mc ms pc : Nat) (loc : List (Nat × Value)) (st0 stk : List Value) (h : GH) (mc' ms' : Nat) (Qa : State → Outcome → State → Prop) : Prop := ∀ (H : Heap) (locs : List Loc) (ls : Array Slot), va_S (gA (yB0 (xY X))) (xs X).heap H locs → yW (xY X) h H → lv_has ls (xn X) loc → va_Run (xp X) (yl (xY X)) (xe X) (xR X) (xs X) (xm X) (xa X) (xb X) (xh X) (xc X) H locs mc ms mc' ms' (F0 (xm X) pc ls st0) stk Qa (gA (yB0 (xY X)))
def gRux (X : gCx) (mc ms pc : Nat) (loc : List (Nat × Value)) (st0 stk : List Value) (h : GH) (mc' ms' : Nat) (Qa : State → Outcome → State → Prop) (px : String → GH → Prop) : Prop := ∀ (H : Heap) (locs : List Loc) (ls : Array Slot), va_S (gA (yB0 (xY X))) (xs X).heap H locs → yW (xY X) h H → lv_has ls (xn X) loc → vx_Run (xp X) (yl (xY X)) (xe X) (xR X) (xs X) (xm X) (xa X) (xb X) (xh X) (xc X) H locs mc ms mc' ms' (F0 (xm X) pc ls st0) stk Qa (gXC (xY X) px) (gA (yB0 (xY X)))
abbrev gFit (rm rm' : Room) (maxL mc ms mc' ms' : Nat) : Prop := rm'.cells = mc' ∧ rm'.slots = ms' ∧ (rm'.frames + 1 ≤ rm.frames ∧ 8 + (maxL + 11) + rm'.locals ≤ rm.locals) ∧ (mc + mc' ≤ rm.cells ∧ ms + ms' ≤ rm.slots)
theorem g_callB (C : gC X cc own ret rm) (hm : gMt y bytes maxL rt n) (hl : Cond.methodLink own index y ∈ TW) (hf : gFit rm rm' maxL mc ms mc' ms') : CallB (xR X) (xs X) (xa X) own index y bytes maxL rt [Cond.code y bytes maxL rt] rm' mc' ms' n :=
  callB_of n C.hts (g_good hm.1) rfl hf.1 hf.2.1 (C.ht hm.2.1) (C.ht hl) hm.2.2 (by rw [C.2.2.2.2.2.2.2]; exact hf.2.2.1)
theorem g_callN {host : String} (C : gC X cc own ret rm) (hm : gMt y bytes maxL rt n) (hl : Cond.methodLinkNest own index y host ∈ TW) (hf : gFit rm rm' maxL mc ms mc' ms') : va_CN (xR X) (xs X) (xa X) own index y host bytes maxL rt [Cond.code y bytes maxL rt] rm' mc' ms' n :=
  va_cnB n C.hts (g_good hm.1) rfl hf.1 hf.2.1 (va_Nw.of rfl (C.ht hl)) (C.ht hm.2.1) hm.2.2 (by rw [C.2.2.2.2.2.2.2]; exact hf.2.2.1)
theorem g_preS (C : gC X cc own ret rm) {av : List Value} {H : Heap} {locs : List Loc} (hS : va_S (gA (yB0 (xY X))) (xs X).heap H locs) (hG : yW (xY X) h H) : PreS (xs X) H (gPre (xY X) av h) av := ⟨g_blind, fun U hU hW => ⟨rfl, by rw [hU]; exact hG, gE_go C.2.2.2.2.2.2.1 hS hU hW⟩⟩
theorem r_runV (C : gC X cc own ret rm) {ci N : Nat} {o : FO} {T : u_T} (hd : decode cc pc = .ok (.invokevirtual index, 3)) (hM : gMet (xY X) y bytes maxL rt rm' (.ref b :: As) h Qc mc' ms') (hm : gMt y bytes maxL rt n) (hl : Cond.methodLink own index y ∈ TW) (hi : Cond.instanceMethod y ∈ TW) (hs : Cond.selects y.cls y y ∈ TW) (hc : vwCl[ci]? = some (y.cls, T, N)) (hg : h b = some (ci, o)) (hn : As.length = n) (hst : st0 = As.reverse ++ .ref b :: stk) (hW : (stk.map fun v => v.category).sum ≤ 8) (hf : gFit rm rm' maxL mc ms mc' ms') : gRun X mc ms pc loc st0 stk h mc' ms' (Qc (Value.ref b :: As).toArray) := fun H locs ls hS hG hl0 =>
  va_runV (C := y.cls) (As := As) (rest := stk) ⟨C.1, C.2.1, C.2.2.1, C.2.2.2.1, C.hts⟩ hM ⟨g_callB C hm hl hf, C.ht hi, C.ht hs⟩ ⟨(g_preS C hS hG).1, g_recv C.K hG hc hg, (g_preS C hS hG).2⟩ rfl hn hl0.1 hst (lv_room hW) hd (by rw [C.2.2.2.2.2.2.2]; exact hf.2.2.2)
theorem r_runS (C : gC X cc own ret rm) (hd : decode cc pc = .ok (.invokestatic index, 3)) (hM : gMet (xY X) y bytes maxL rt rm' As h Qc mc' ms') (hm : gMt y bytes maxL rt n) (hl : Cond.methodLink own index y ∈ TW) (hi : Cond.static y ∈ TW) (hn : As.length = n) (hst : st0 = As.reverse ++ stk) (hW : (stk.map fun v => v.category).sum ≤ 8) (hf : gFit rm rm' maxL mc ms mc' ms') : gRun X mc ms pc loc st0 stk h mc' ms' (Qc As.toArray) := fun H locs ls hS hG hl0 =>
  va_runS (As := As) (rest := stk) ⟨C.1, C.2.1, C.2.2.1, C.2.2.2.1, C.hts⟩ hM ⟨g_callB C hm hl hf, C.ht hi⟩ (g_preS C hS hG) rfl hn hl0.1 hst (lv_room hW) hd (by rw [C.2.2.2.2.2.2.2]; exact hf.2.2.2)
theorem r_runSN {host : String} (C : gC X cc own ret rm) (hd : decode cc pc = .ok (.invokestatic index, 3)) (hM : gMet (xY X) y bytes maxL rt rm' As h Qc mc' ms') (hm : gMt y bytes maxL rt n) (hl : Cond.methodLinkNest own index y host ∈ TW) (hi : Cond.static y ∈ TW) (hn : As.length = n) (hst : st0 = As.reverse ++ stk) (hW : (stk.map fun v => v.category).sum ≤ 8) (hf : gFit rm rm' maxL mc ms mc' ms') : gRun X mc ms pc loc st0 stk h mc' ms' (Qc As.toArray) := fun H locs ls hS hG hl0 =>
  va_runSN (As := As) (rest := stk) ⟨C.1, C.2.1, C.2.2.1, C.2.2.2.1, C.hts⟩ hM ⟨g_callN C hm hl hf, C.ht hi, True.intro⟩ (g_preS C hS hG) rfl hn hl0.1 hst (lv_room hW) hd (by rw [C.2.2.2.2.2.2.2]; exact hf.2.2.2)
theorem r_runI (C : gC X cc own ret rm) (hd : decode cc pc = .ok (.invokespecial index, 3)) (hM : gMet (xY X) y bytes maxL none rm' (.ref b :: As) h Qc mc' ms') (hm : gMt y bytes maxL none n) (hl : Cond.methodLink own index y ∈ TW) (hi : Cond.instanceMethod y ∈ TW) (hy : y.name = "<init>") (hn : As.length = n) (hst : st0 = As.reverse ++ .ref b :: stk) (hW : (stk.map fun v => v.category).sum ≤ 8) (hf : gFit rm rm' maxL mc ms mc' ms') : gRun X mc ms pc loc st0 stk h mc' ms' (Qc (Value.ref b :: As).toArray) := fun H locs ls hS hG hl0 =>
  va_runI (As := As) (rest := stk) ⟨C.1, C.2.1, C.2.2.1, C.2.2.2.1, C.hts⟩ hM ⟨g_callB C hm hl hf, hy, C.ht hi⟩ (g_preS C hS hG) rfl hn hl0.1 hst (lv_room hW) hd (by rw [C.2.2.2.2.2.2.2]; exact hf.2.2.2)
theorem r_runIN {host : String} (C : gC X cc own ret rm) (hd : decode cc pc = .ok (.invokespecial index, 3)) (hM : gMet (xY X) y bytes maxL none rm' (.ref b :: As) h Qc mc' ms') (hm : gMt y bytes maxL none n) (hl : Cond.methodLinkNest own index y host ∈ TW) (hi : Cond.instanceMethod y ∈ TW) (hy : y.name = "<init>") (hn : As.length = n) (hst : st0 = As.reverse ++ .ref b :: stk) (hW : (stk.map fun v => v.category).sum ≤ 8) (hf : gFit rm rm' maxL mc ms mc' ms') : gRun X mc ms pc loc st0 stk h mc' ms' (Qc (Value.ref b :: As).toArray) := fun H locs ls hS hG hl0 =>
  va_runIN (As := As) (rest := stk) ⟨C.1, C.2.1, C.2.2.1, C.2.2.2.1, C.hts⟩ hM ⟨g_callN C hm hl hf, hy, C.ht hi⟩ (g_preS C hS hG) rfl hn hl0.1 hst (lv_room hW) hd (by rw [C.2.2.2.2.2.2.2]; exact hf.2.2.2)
theorem r_ruxV (C : gC X cc own ret rm) {ci N : Nat} {o : FO} {T : u_T} (hd : decode cc pc = .ok (.invokevirtual index, 3)) (hM : gMex (xY X) y bytes maxL rt rm' (.ref b :: As) h Qc px mc' ms') (hm : gMt y bytes maxL rt n) (hl : Cond.methodLink own index y ∈ TW) (hi : Cond.instanceMethod y ∈ TW) (hs : Cond.selects y.cls y y ∈ TW) (hc : vwCl[ci]? = some (y.cls, T, N)) (hg : h b = some (ci, o)) (hn : As.length = n) (hst : st0 = As.reverse ++ .ref b :: stk) (hW : (stk.map fun v => v.category).sum ≤ 8) (hf : gFit rm rm' maxL mc ms mc' ms') : gRux X mc ms pc loc st0 stk h mc' ms' (Qc (Value.ref b :: As).toArray) px := fun H locs ls hS hG hl0 =>
  vx_runV (C := y.cls) (As := As) (rest := stk) ⟨C.1, C.2.1, C.2.2.1, C.2.2.2.1, C.hts⟩ hM ⟨g_callB C hm hl hf, C.ht hi, C.ht hs⟩ ⟨(g_preS C hS hG).1, g_recv C.K hG hc hg, (g_preS C hS hG).2⟩ rfl hn hl0.1 hst (lv_room hW) hd (by rw [C.2.2.2.2.2.2.2]; exact hf.2.2.2)
theorem r_ruxS (C : gC X cc own ret rm) (hd : decode cc pc = .ok (.invokestatic index, 3)) (hM : gMex (xY X) y bytes maxL rt rm' As h Qc px mc' ms') (hm : gMt y bytes maxL rt n) (hl : Cond.methodLink own index y ∈ TW) (hi : Cond.static y ∈ TW) (hn : As.length = n) (hst : st0 = As.reverse ++ stk) (hW : (stk.map fun v => v.category).sum ≤ 8) (hf : gFit rm rm' maxL mc ms mc' ms') : gRux X mc ms pc loc st0 stk h mc' ms' (Qc As.toArray) px := fun H locs ls hS hG hl0 =>
  vx_runS (As := As) (rest := stk) ⟨C.1, C.2.1, C.2.2.1, C.2.2.2.1, C.hts⟩ hM ⟨g_callB C hm hl hf, C.ht hi⟩ (g_preS C hS hG) rfl hn hl0.1 hst (lv_room hW) hd (by rw [C.2.2.2.2.2.2.2]; exact hf.2.2.2)
variable {a9 : Array Value}
theorem r_gov {post : GH → Prop} (hr : gRun X mc ms pc loc st0 stk h mc' ms' (gQv (xY X) post a9)) (kk : ∀ g, post g → gX X (mc + mc') (ms + ms') (pc + 3) loc stk g) : gX X mc ms pc loc st0 h := fun H locs ls hS hG hl =>
  va_callv (hr H locs ls hS hG hl) hS (fun _ _ z => z) (fun _ z => z) (fun u t H1 locs1 ht hvm hp hB hz hk hS1 => kk u hp H1 locs1 ls hS1 (by rw [← ht]; exact hB) hl)
theorem r_goi {post : Int32 → GH → Prop} (hr : gRun X mc ms pc loc st0 stk h mc' ms' (gQi (xY X) post a9)) (kk : ∀ r g, post r g → gX X (mc + mc') (ms + ms') (pc + 3) loc (.int r :: stk) g) : gX X mc ms pc loc st0 h := fun H locs ls hS hG hl =>
  va_calli (hr H locs ls hS hG hl) hS (fun _ _ z => z) (fun _ z => z) (fun r u t H1 locs1 ht hvm hp hB hz hk hS1 => kk r u hp H1 locs1 ls hS1 (by rw [← ht]; exact hB) hl)
theorem r_gol {post : Int64 → GH → Prop} (hr : gRun X mc ms pc loc st0 stk h mc' ms' (gQl (xY X) post a9)) (kk : ∀ r g, post r g → gX X (mc + mc') (ms + ms') (pc + 3) loc (.long r :: stk) g) : gX X mc ms pc loc st0 h := fun H locs ls hS hG hl =>
  va_calll (hr H locs ls hS hG hl) hS (fun _ _ z => z) (fun _ z => z) (fun r u t H1 locs1 ht hvm hp hB hz hk hS1 => kk r u hp H1 locs1 ls hS1 (by rw [← ht]; exact hB) hl)
theorem r_gor {post : Nat → GH → Prop} (hr : gRun X mc ms pc loc st0 stk h mc' ms' (gQr (xY X) post a9)) (kk : ∀ r g, post r g → gX X (mc + mc') (ms + ms') (pc + 3) loc (.ref r :: stk) g) : gX X mc ms pc loc st0 h := fun H locs ls hS hG hl =>
  va_callr (hr H locs ls hS hG hl) hS (fun _ _ z => z) (fun _ z => z) (fun u ra t H1 locs1 ht hvm hp hB hz hk hS1 => by
    obtain ⟨rfl, hB⟩ := hB
    exact kk u.1 u.2 hp H1 locs1 ls hS1 (by rw [← ht]; exact hB) hl)
/-- the machine with an exception over this frame -/
def gY (X : gCx) (mc ms pc : Nat) (loc : List (Nat × Value)) (stk : List Value) (h : GH) (E : String) : Prop :=
  ∀ (H : Heap) (locs : List Loc) (ls : Array Slot) (q : Nat) (ce : Cell), va_S (gA (yB0 (xY X))) (xs X).heap H locs → yW (xY X) h H → lv_has ls (xn X) loc → H[q]? = some ce → ce.vm = .none → (xs X).vm.findClass E = some ce.cls → vx_W (xp X) (yl (xY X)) (xe X) (xR X) (xs X) (xm X) (xa X) (xb X) (xh X) (xc X) H locs mc ms (xQ X) (F0 (xm X) pc ls stk) q
theorem r_gxv {post : GH → Prop} (hr : gRux X mc ms pc loc st0 stk h mc' ms' (gQv (xY X) post a9) px) (kx : ∀ E g, px E g → gY X (mc + mc') (ms + ms') pc loc stk g E) (kk : ∀ g, post g → gX X (mc + mc') (ms + ms') (pc + 3) loc stk g) : gX X mc ms pc loc st0 h := fun H locs ls hS hG hl =>
  vx_callv (hr H locs ls hS hG hl) hS (fun _ _ z => z) (fun _ z => z) (fun _ _ z => z) (fun E ce q9 u t H1 locs1 ht hvm hp hB hz hk hS1 g1 g2 g3 => by
    obtain ⟨rfl, hB⟩ := hB
    exact kx u.1 u.2 hp H1 locs1 ls q9 ce hS1 (by rw [← ht]; exact hB) hl g1 g2 g3) (fun u t H1 locs1 ht hvm hp hB hz hk hS1 => kk u hp H1 locs1 ls hS1 (by rw [← ht]; exact hB) hl)
theorem r_gxi {post : Int32 → GH → Prop} (hr : gRux X mc ms pc loc st0 stk h mc' ms' (gQi (xY X) post a9) px) (kx : ∀ E g, px E g → gY X (mc + mc') (ms + ms') pc loc stk g E) (kk : ∀ r g, post r g → gX X (mc + mc') (ms + ms') (pc + 3) loc (.int r :: stk) g) : gX X mc ms pc loc st0 h := fun H locs ls hS hG hl =>
  vx_calli (hr H locs ls hS hG hl) hS (fun _ _ z => z) (fun _ z => z) (fun _ _ z => z) (fun E ce q9 u t H1 locs1 ht hvm hp hB hz hk hS1 g1 g2 g3 => by
    obtain ⟨rfl, hB⟩ := hB
    exact kx u.1 u.2 hp H1 locs1 ls q9 ce hS1 (by rw [← ht]; exact hB) hl g1 g2 g3) (fun r u t H1 locs1 ht hvm hp hB hz hk hS1 => kk r u hp H1 locs1 ls hS1 (by rw [← ht]; exact hB) hl)
theorem r_gxl {post : Int64 → GH → Prop} (hr : gRux X mc ms pc loc st0 stk h mc' ms' (gQl (xY X) post a9) px) (kx : ∀ E g, px E g → gY X (mc + mc') (ms + ms') pc loc stk g E) (kk : ∀ r g, post r g → gX X (mc + mc') (ms + ms') (pc + 3) loc (.long r :: stk) g) : gX X mc ms pc loc st0 h := fun H locs ls hS hG hl =>
  vx_calll (hr H locs ls hS hG hl) hS (fun _ _ z => z) (fun _ z => z) (fun _ _ z => z) (fun E ce q9 u t H1 locs1 ht hvm hp hB hz hk hS1 g1 g2 g3 => by
    obtain ⟨rfl, hB⟩ := hB
    exact kx u.1 u.2 hp H1 locs1 ls q9 ce hS1 (by rw [← ht]; exact hB) hl g1 g2 g3) (fun r u t H1 locs1 ht hvm hp hB hz hk hS1 => kk r u hp H1 locs1 ls hS1 (by rw [← ht]; exact hB) hl)
/-- where the method ends -/
def gRet (X : gCx) (Qc : Array Value → State → Outcome → State → Prop) (mcT msT : Nat) : Prop := xQ X = MQ (xb X) Qc (xa X) (xs X) mcT msT (gA (yB0 (xY X)))
def gRex (X : gCx) (Qc : Array Value → State → Outcome → State → Prop) (px : String → GH → Prop) (mcT msT : Nat) : Prop := xQ X = vx_MQ (xb X) Qc (gXC (xY X) px) (xa X) (xs X) mcT msT (gA (yB0 (xY X)))
end GCALLS
section GENDS
variable {X : gCx} {cc : ByteArray} {own : String} {ret : Option FieldType} {rm : Room} {mc ms pc mcT msT : Nat} {loc : List (Nat × Value)} {stk : List Value} {h : GH} {px : String → GH → Prop}
theorem g_any {Qc : Array Value → State → Outcome → State → Prop} (hQ : gRet X Qc mcT msT ∨ gRex X Qc px mcT msT) {H : Heap} {locs : List Loc} {g : JFrame} (k : W (xp X) (yl (xY X)) (xe X) (xR X) (xs X) (xm X) (xa X) (xb X) (xh X) (xc X) H locs mc ms (MQ (xb X) Qc (xa X) (xs X) mcT msT (gA (yB0 (xY X)))) g) : gV X H locs mc ms g := by
  rcases hQ with hQ | hQ
  · unfold gRet at hQ; rw [gV, hQ]; exact k
  · unfold gRex at hQ; rw [gV, hQ]; exact vx_ret k
theorem r_iret {post : Int32 → GH → Prop} (C : gC X cc own ret rm) (hQ : gRet X (gQi (xY X) post) mcT msT ∨ gRex X (gQi (xY X) post) px mcT msT) (hd : decode cc pc = .ok (.ireturn, 1)) {ty : FieldType} (hr : ret = some ty) {v : Int32} (hn : narrow ty (.int v) = .int v) (hc : mc ≤ mcT ∧ ms ≤ msT) (hp : post v h) : gX X mc ms pc loc [.int v] h := fun H locs ls hS hG hl =>
  g_any hQ (W.widen hc.1 hc.2 (W.zret C.1 C.2.1 (by rw [C.2.2.2.2.1, hr]) hn (fun t ht hW => ⟨⟨v, h, rfl, hp, by show yW _ _ t.heap; rw [ht]; exact hG⟩, hS.F ht⟩) hS.2.2 hd C.2.2.2.2.2.1))
theorem r_vret {post : GH → Prop} (C : gC X cc own ret rm) (hQ : gRet X (gQv (xY X) post) mcT msT ∨ gRex X (gQv (xY X) post) px mcT msT) (hd : decode cc pc = .ok (.return_, 1)) (hr : ret = none) (hc : mc ≤ mcT ∧ ms ≤ msT) (hp : post h) : gX X mc ms pc loc [] h := fun H locs ls hS hG hl =>
  g_any hQ (W.widen hc.1 hc.2 (W.vret C.1 C.2.1 (by rw [C.2.2.2.2.1, hr]) (fun t ht hW => ⟨⟨h, rfl, hp, by show yW _ _ t.heap; rw [ht]; exact hG⟩, hS.F ht⟩) hS.2.2 hd C.2.2.2.2.2.1))
theorem r_lret {post : Int64 → GH → Prop} (C : gC X cc own ret rm) (hQ : gRet X (gQl (xY X) post) mcT msT ∨ gRex X (gQl (xY X) post) px mcT msT) (hd : decode cc pc = .ok (.lreturn, 1)) (hr : ret = some .long) {v : Int64} (hc : mc ≤ mcT ∧ ms ≤ msT) (hp : post v h) : gX X mc ms pc loc [.long v] h := fun H locs ls hS hG hl =>
  g_any hQ (W.widen hc.1 hc.2 (W.lret C.1 C.2.1 (by rw [C.2.2.2.2.1, hr]) (fun t ht hW => ⟨⟨v, h, rfl, hp, by show yW _ _ t.heap; rw [ht]; exact hG⟩, hS.F ht⟩) hS.2.2 hd C.2.2.2.2.2.1))
theorem r_aret {post : Nat → GH → Prop} (C : gC X cc own ret rm) (hQ : gRet X (gQr (xY X) post) mcT msT ∨ gRex X (gQr (xY X) post) px mcT msT) (hd : decode cc pc = .ok (.areturn, 1)) {ty : FieldType} (hr : ret = some ty) (hrt : (∃ n, ty = .object n) ∨ ∃ t, ty = .array t) {v : Nat} (hc : mc ≤ mcT ∧ ms ≤ msT) (hp : post v h) : gX X mc ms pc loc [.ref v] h := fun H locs ls hS hG hl =>
  g_any hQ (W.widen hc.1 hc.2 (W.aret C.1 C.2.1 (by rw [C.2.2.2.2.1, hr]) hrt (Or.inr ⟨v, rfl⟩) (fun t ht hW => ⟨⟨(v, h), v, rfl, hp, rfl, by show yW _ _ t.heap; rw [ht]; exact hG⟩, hS.F ht⟩) hS.2.2 hd C.2.2.2.2.2.1))
/-- an exception that leaves the method -/
theorem r_out {Qc : Array Value → State → Outcome → State → Prop} {E : String} (C : gC X cc own ret rm) (hQ : gRex X Qc px mcT msT) (hno : ∀ x ∈ (xc X).exceptionTable.toList, covers x pc = false) (hc : mc ≤ mcT ∧ ms ≤ msT) (hp : px E h) : gY X mc ms pc loc stk h E := fun H locs ls q ce hS hG hl g1 g2 g3 => by
  unfold gRex at hQ
  rw [hQ]
  exact vx_out hno C.2.2.2.2.2.1 g1 g2 g3 (fun t ht hW => ⟨(E, h), hp, ⟨rfl, by show yW _ _ t.heap; rw [ht]; exact hG⟩, hS.F ht⟩) hS.2.2 hc.1 hc.2
/-- throw new E("text") -/
theorem r_throw {Qc : Array Value → State → Outcome → State → Prop} {E text : String} {names : List String} {ik is ic : Nat} (C : gC X cc own ret rm) (hQ : gRex X Qc px mcT msT) (hl : (yl (xY X)).stackTraces = false) (hno : ∀ x ∈ (xc X).exceptionTable.toList, covers x (pc + 9) = false)
    (hcls : Bundle.fit E = true) (hnames : ∀ n ∈ names, Bundle.fit n = true) (hk : Cond.classLink own ik E ∈ TW) (hini : Cond.initialized E ∈ TW) (hstr : (own, is, text) ∈ g_strs) (hat : ∀ w ∈ vx_atS own ic E names, w ∈ TW)
    (hgood : ∀ w ∈ Cond.classLink own ik E :: Cond.initialized E :: vx_atS own ic E names, vx_ot w = true)
    (d0 : decode cc pc = .ok (.new ik, 3)) (d3 : decode cc (pc + 3) = .ok (.dup, 1)) (d4 : decode cc (pc + 4) = .ok (.ldc is, 2)) (d6 : decode cc (pc + 6) = .ok (.invokespecial ic, 3)) (d9 : decode cc (pc + 9) = .ok (.athrow, 1))
    (hR : names.length + 3 < rm.frames ∧ (stk.map fun v => v.category).sum + (13 * (names.length + 1) + 43) ≤ rm.locals ∧ mc + 1 ≤ rm.cells ∧ ms + 6 ≤ rm.slots) (hc : mc + 1 ≤ mcT ∧ ms + 6 ≤ msT) (hp : px E h) : gX X mc ms pc loc stk h := fun H locs ls hS hG hl0 => by
  have hE := C.2.2.2.2.2.2.1
  have hRm := C.2.2.2.2.2.2.2
  obtain ⟨e1, e2, e3, e4, e5, -⟩ := hE
  obtain ⟨sa, hsa⟩ := e3 _ hstr
  unfold gRex at hQ
  rw [gV, hQ]
  refine vx_throwS C.1 C.2.1 hl C.2.2.2.1 hcls hnames (C.ht hk) (C.ht hini) hsa (fun w hw => C.ht (hat w hw)) hgood e4 e5 hS (hl0.1.trans C.2.2.1.symm) d0 d3 d4 d6 d9 hno (by rw [hRm]; exact hR.1) (by rw [hRm]; exact hR.2.1) (by rw [hRm]; exact hR.2.2.1) (by rw [hRm]; exact hR.2.2.2) C.2.2.2.2.2.1 (fun t hvm hz hk => ?_) hS.2.2 hc.1 hc.2
  obtain ⟨tag, hG⟩ := hG
  exact ⟨(E, h), hp, ⟨rfl, tag, hG.kept fun q hq => ⟨hk q hq, rfl⟩⟩, ⟨Nat.le_trans hS.1 hz, fun q h1 h2 => (hk q (Nat.lt_of_lt_of_le h1 hS.1)).trans (hS.2.1 q h1 h2)⟩⟩
end GENDS
/-- a method's body, from its entry -/
theorem gm_of {Y : gWx} {y : MethodName} {bytes : ByteArray} {maxL : Nat} {rt : Option FieldType} {rm : Room} {av : List Value} {h : GH} {Qc : Array Value → State → Outcome → State → Prop} {mc ms : Nat} (hy : plainName y.cls = true) (hlen : (lg_sl av).length ≤ maxL)
    (body : ∀ X : gCx, xY X = Y → xn X = maxL → gC X bytes y.cls rt rm → (xh X).name = y.name → gRet X Qc mc ms → gX X 0 0 0 (lv_args 0 av) [] h) : gMet Y y bytes maxL rt rm av h Qc mc ms := by
  refine Met.ofW (cc := bytes) (maxL := maxL) (ret := rt) hy rfl ?_
  intro p e s m args below meth c s₁ B hml hv
  obtain ⟨rfl, hG, hE⟩ := hv
  have k := body (Y, p, e, rm, s, m, av.toArray, below, meth, c, MQ below Qc av.toArray s mc ms (gA (yB0 Y)), maxL) rfl rfl ⟨B.exec, B.bytes, hml, findClass_of_methodNamed B.named, B.returns, B.notSynchronized, hE, rfl⟩ (name_of_methodNamed B.named B.method).1 rfl
  rw [lg_entry_eq]
  exact k s.heap [] _ va_S.rf hG (lv_entry av hlen)
theorem gm_ofx {Y : gWx} {y : MethodName} {bytes : ByteArray} {maxL : Nat} {rt : Option FieldType} {rm : Room} {av : List Value} {h : GH} {Qc : Array Value → State → Outcome → State → Prop} {px : String → GH → Prop} {mc ms : Nat} (hy : plainName y.cls = true) (hlen : (lg_sl av).length ≤ maxL)
    (body : ∀ X : gCx, xY X = Y → xn X = maxL → gC X bytes y.cls rt rm → (∀ x ∈ (xc X).exceptionTable.toList, False) → gRex X Qc px mc ms → gX X 0 0 0 (lv_args 0 av) [] h) : gMex Y y bytes maxL rt rm av h Qc px mc ms := by
  refine vx_ofW (cc := bytes) (maxL := maxL) (ret := rt) hy rfl ?_
  intro p e s m args below meth c s₁ B hml hno hv
  obtain ⟨rfl, hG, hE⟩ := hv
  have k := body (Y, p, e, rm, s, m, av.toArray, below, meth, c, vx_MQ below Qc (gXC Y px) av.toArray s mc ms (gA (yB0 Y)), maxL) rfl rfl ⟨B.exec, B.bytes, hml, findClass_of_methodNamed B.named, B.returns, B.notSynchronized, hE, rfl⟩ hno rfl
  rw [lg_entry_eq]
  exact k s.heap [] _ va_S.rf hG (lv_entry av hlen)
