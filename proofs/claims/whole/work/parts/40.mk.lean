theorem tw60 : Cond.initialized "java/util/AbstractCollection" ∈ TW := tw_in 60 (by decide +kernel) (by decide +kernel)
theorem tw61 : Cond.initialized "java/util/AbstractList" ∈ TW := tw_in 61 (by decide +kernel) (by decide +kernel)
theorem tw89 : Cond.code ⟨"CanvasRoom","<init>","()V"⟩ prog_1_method_1_code 1 none ∈ TW := tw_in 89 (by decide +kernel) (by decide +kernel)
theorem tw90 : Cond.methodLink "CanvasRoom" 1 ⟨"java/lang/Object","<init>","()V"⟩ ∈ TW := tw_in 90 (by decide +kernel) (by decide +kernel)
theorem tw93 : Cond.classLink "CanvasRoom" 7 "java/util/ArrayList" ∈ TW := tw_in 93 (by decide +kernel) (by decide +kernel)
theorem tw94 : Cond.instantiable "java/util/ArrayList" 3 ∈ TW := tw_in 94 (by decide +kernel) (by decide +kernel)
theorem tw95 : Cond.methodLink "CanvasRoom" 9 ⟨"java/util/ArrayList","<init>","()V"⟩ ∈ TW := tw_in 95 (by decide +kernel) (by decide +kernel)
theorem tw96 : Cond.instanceMethod ⟨"java/util/ArrayList","<init>","()V"⟩ ∈ TW := tw_in 96 (by decide +kernel) (by decide +kernel)
theorem tw97 : Cond.code ⟨"java/util/ArrayList","<init>","()V"⟩ prog_27_method_2_code 1 none ∈ TW := tw_in 97 (by decide +kernel) (by decide +kernel)
theorem tw98 : Cond.methodLink "java/util/ArrayList" 1 ⟨"java/util/AbstractList","<init>","()V"⟩ ∈ TW := tw_in 98 (by decide +kernel) (by decide +kernel)
theorem tw99 : Cond.instanceMethod ⟨"java/util/AbstractList","<init>","()V"⟩ ∈ TW := tw_in 99 (by decide +kernel) (by decide +kernel)
theorem tw100 : Cond.code ⟨"java/util/AbstractList","<init>","()V"⟩ prog_26_method_1_code 1 none ∈ TW := tw_in 100 (by decide +kernel) (by decide +kernel)
theorem tw101 : Cond.methodLink "java/util/AbstractList" 1 ⟨"java/util/AbstractCollection","<init>","()V"⟩ ∈ TW := tw_in 101 (by decide +kernel) (by decide +kernel)
theorem tw102 : Cond.instanceMethod ⟨"java/util/AbstractCollection","<init>","()V"⟩ ∈ TW := tw_in 102 (by decide +kernel) (by decide +kernel)
theorem tw103 : Cond.code ⟨"java/util/AbstractCollection","<init>","()V"⟩ prog_25_method_1_code 1 none ∈ TW := tw_in 103 (by decide +kernel) (by decide +kernel)
theorem tw104 : Cond.methodLink "java/util/AbstractCollection" 1 ⟨"java/lang/Object","<init>","()V"⟩ ∈ TW := tw_in 104 (by decide +kernel) (by decide +kernel)
theorem tw109 : Cond.fieldLink "java/util/AbstractList" 7 "java/util/AbstractList" "modCount" "I" ∈ TW := tw_in 109 (by decide +kernel) (by decide +kernel)
theorem tw119 : Cond.classLink "CanvasRoom" 25 "CanvasRoom$Board" ∈ TW := tw_in 119 (by decide +kernel) (by decide +kernel)
theorem tw120 : Cond.instantiable "CanvasRoom$Board" 10 ∈ TW := tw_in 120 (by decide +kernel) (by decide +kernel)
theorem tw121 : Cond.methodLinkNest "CanvasRoom" 27 ⟨"CanvasRoom$Board","<init>","()V"⟩ "CanvasRoom" ∈ TW := tw_in 121 (by decide +kernel) (by decide +kernel)
theorem tw122 : Cond.instanceMethod ⟨"CanvasRoom$Board","<init>","()V"⟩ ∈ TW := tw_in 122 (by decide +kernel) (by decide +kernel)
theorem tw123 : Cond.code ⟨"CanvasRoom$Board","<init>","()V"⟩ prog_3_method_1_code 1 none ∈ TW := tw_in 123 (by decide +kernel) (by decide +kernel)
theorem tw124 : Cond.methodLink "CanvasRoom$Board" 3 ⟨"java/lang/Object","<init>","()V"⟩ ∈ TW := tw_in 124 (by decide +kernel) (by decide +kernel)
theorem tw161 : Cond.arrayClass .int ∈ TW := tw_in 161 (by decide +kernel) (by decide +kernel)
theorem tw162 : Cond.arrayClass .long ∈ TW := tw_in 162 (by decide +kernel) (by decide +kernel)
theorem tw781 : Cond.code ⟨"CanvasRoom$Edition","<init>","(ILCanvasRoom$Window;I)V"⟩ prog_5_method_1_code 4 none ∈ TW := tw_in 781 (by decide +kernel) (by decide +kernel)
theorem tw782 : Cond.methodLink "CanvasRoom$Edition" 3 ⟨"java/lang/Object","<init>","()V"⟩ ∈ TW := tw_in 782 (by decide +kernel) (by decide +kernel)
theorem tw783 : Cond.classLink "CanvasRoom$Edition" 9 "CanvasRoom$Board" ∈ TW := tw_in 783 (by decide +kernel) (by decide +kernel)
theorem tw784 : Cond.methodLinkNest "CanvasRoom$Edition" 11 ⟨"CanvasRoom$Board","<init>","()V"⟩ "CanvasRoom" ∈ TW := tw_in 784 (by decide +kernel) (by decide +kernel)
theorem tw785 : Cond.classLink "CanvasRoom$Edition" 26 "java/util/ArrayList" ∈ TW := tw_in 785 (by decide +kernel) (by decide +kernel)
theorem tw786 : Cond.methodLink "CanvasRoom$Edition" 28 ⟨"java/util/ArrayList","<init>","()V"⟩ ∈ TW := tw_in 786 (by decide +kernel) (by decide +kernel)
theorem tw788 : Cond.fieldLink "CanvasRoom$Edition" 37 "CanvasRoom$Edition" "window" "LCanvasRoom$Window;" ∈ TW := tw_in 788 (by decide +kernel) (by decide +kernel)
theorem tw790 : Cond.fieldLink "CanvasRoom$Edition" 41 "CanvasRoom$Edition" "price" "I" ∈ TW := tw_in 790 (by decide +kernel) (by decide +kernel)
theorem tw792 : Cond.fieldLink "CanvasRoom$Edition" 12 "CanvasRoom$Edition" "kept" "LCanvasRoom$Board;" ∈ TW := tw_in 792 (by decide +kernel) (by decide +kernel)
theorem tw824 : Cond.arrayClass .boolean ∈ TW := tw_in 824 (by decide +kernel) (by decide +kernel)
/-! objects that are being made -/
def PS (Y : gWx) (ci a : Nat) (fs : List Value) (rs : List (Nat × Cell)) (H : Heap) : Prop := t_OB a ((yD Y).1 ci) (g_tab ci).length ((yD Y).2 ci) H (vp_V fs) ∧ ∀ x ∈ rs, 1 ≤ x.1 ∧ H[a + x.1]? = some x.2
def PF (Y : gWx) (ci a : Nat) (o : FO) (H : Heap) : Prop := t_OB a ((yD Y).1 ci) (g_tab ci).length ((yD Y).2 ci) H (vp_V (g_fs ci a o)) ∧ ∀ (k : Nat) (q : gK), (g_tab ci)[k]? = some q → 3 ≤ q.1 → H[a + q.2.2]? = some (g_arr (ydA Y) o k q)
/-- a list that was just made -/
def PL (Y : gWx) (a : Nat) (H : Heap) : Prop := t_OB a ((yD Y).1 0) 3 ((yD Y).2 0) H (vp_V [.int 0, .ref (yE0 Y), .int 0])
theorem PS.kept {Y : gWx} {ci a : Nat} {fs : List Value} {rs : List (Nat × Cell)} {H H' : Heap} (h : PS Y ci a fs rs H) (hq : ∀ q, q < H.size → H'[q]? = H[q]?) : PS Y ci a fs rs H' := ⟨h.1.kept (hq a (t_OB_lt h.1)), fun x hx => ⟨(h.2 x hx).1, (hq _ (some_lt (h.2 x hx).2)).trans (h.2 x hx).2⟩⟩
theorem PF.kept {Y : gWx} {ci a : Nat} {o : FO} {H H' : Heap} (h : PF Y ci a o H) (hq : ∀ q, q < H.size → a ≤ q → H'[q]? = H[q]?) : PF Y ci a o H' := ⟨h.1.kept (hq a (t_OB_lt h.1) (Nat.le_refl a)), fun k q h1 h2 => (hq _ (some_lt (h.2 k q h1 h2)) (Nat.le_add_right _ _)).trans (h.2 k q h1 h2)⟩
theorem PL.kept {Y : gWx} {a : Nat} {H H' : Heap} (h : PL Y a H) (hq : ∀ q, q < H.size → a ≤ q → H'[q]? = H[q]?) : PL Y a H' := t_OB.kept h (hq a (t_OB_lt h) (Nat.le_refl a))
theorem PS.full {Y : gWx} {ci a : Nat} {fs : List Value} {rs : List (Nat × Cell)} {H : Heap} {o : FO} (h : PS Y ci a fs rs H) (hf : fs = g_fs ci a o) (hr : ∀ (k : Nat) (q : gK), (g_tab ci)[k]? = some q → 3 ≤ q.1 → (q.2.2, g_arr (ydA Y) o k q) ∈ rs) : PF Y ci a o H := by
  subst hf
  exact ⟨h.1, fun k q h1 h2 => (h.2 _ (hr k q h1 h2)).2⟩
section VO
variable {X : gCx} {cc : ByteArray} {own : String} {ret : Option FieldType} {rm : Room} {mc ms pc : Nat} {stk : List Value} {H : Heap} {locs : List Loc} {ls : Array Slot} {A : Nat → Prop}
theorem v_oset (C : gC X cc own ret rm) {ci a k index N : Nat} {Cn ref : String} {T : u_T} {ty : Nat → FieldType} {fs fs' : List Value} {rs : List (Nat × Cell)} {v : Value} (hB : gCl ci Cn T N ty) (hd : decode cc pc = .ok (.putfield index, 3)) (hk : k < N) (hl1 : Cond.fieldLink own index ref (T k).2.1 (T k).2.2.1 ∈ TW) (hr : (T k).1 = ref) (hfin : (T k).2.2.2 = false ∨ ((T k).2.2.2 = true ∧ (xh X).name = "<init>" ∧ (T k).1 = own)) (hfl : fs.length = N) (hn : narrow (ty k) v = v) (hf : fits (ty k) v = true) (hfs : fs.set k v = fs') (hP : PS (xY X) ci a fs rs H) (hA : A a) (hS : va_S A (xs X).heap H locs)
    (kk : ∀ (H' : Heap) (locs' : List Loc), PS (xY X) ci a fs' rs H' → H'.size = H.size → (∀ q, q ≠ a → H'[q]? = H[q]?) → va_S A (xs X).heap H' locs' → gV X H' locs' mc ms (F0 (xm X) (pc + 3) ls stk)) : gV X H locs mc ms (F0 (xm X) pc ls (v :: .ref a :: stk)) := by
  obtain ⟨c1, c2, c3, c4, c5, c6⟩ := hB
  subst hr hfs
  have hap := va_apart (own := own) C.hts c3 ty c4 c5 C.K c1
  obtain ⟨⟨cell, q1, q2, q3, q4⟩, hrs⟩ := hP
  obtain ⟨hSl, hfc, kC, hkC, hkind⟩ := C.K.1 ci _ c1
  obtain ⟨cf, kf, fi, f, hi, hsl⟩ := hSl k hk
  have hlay := C.hts _ (c3 _ (u_in_lay hk))
  unfold u_lay at hlay
  have hst := (u_facts hfc hkC (u_lays C.hts c3 hk) hi).1
  have hslot : f.slot < cell.slots.size := by rw [hsl]; exact k2_hasslot (q4 k (by rw [← c2]; exact hk))
  have fin : ∀ H' : Heap, H'[a]? = some (cell.setSlot f.slot v) → H'.size = H.size → (∀ q, q ≠ a → H'[q]? = H[q]?) → gV X H' (locs ++ [⟨a, f.slot⟩]) mc ms (F0 (xm X) (pc + 3) ls stk) := fun H' e1 e2 e3 => by
    rw [hsl] at e1 ⊢
    refine kk H' _ ⟨t_OB.to (V := updV (vp_V fs) k v) ⟨_, e1, q2, q3, t_set q4 (fun x y hx hy => hap x y (by rw [c2]; exact hx) (by rw [c2]; exact hy)) (by rw [← c2]; exact hk) v⟩ (fun j _ => vp_updV_set (by rw [hfl]; exact hk) v j), fun x hx => ⟨(hrs x hx).1, ?_⟩⟩ e2 e3 (hS.put e2 e3 hA)
    rw [e3 _ (by have := (hrs x hx).1; omega)]
    exact (hrs x hx).2
  rcases hfin with hfin | ⟨hfin, hin2, hdecl⟩
  · rw [if_neg (by rw [hfin]; decide)] at hlay
    have h6 := u_store hfc hkC hkind hlay hi (c4 k hk) hn hf
    exact W.putK C.1 C.2.1 (f := f) ⟨C.2.2.2.1, C.ht hl1, ⟨_, _, _, hi⟩, hst⟩ (by rw [q2]; exact h6) q1 q3 hslot rfl rfl hd fin
  · rw [if_pos hfin] at hlay
    have hcf : (xm X).cls = cf := by
      obtain ⟨_, _, c', _, _, _, -, -, hf', -, -, -, hown2, -⟩ := Cond.laysFinal_spec hlay
      have e1 : c' = cf := by have := hi.symm.trans hf'; simp at this; exact this.1.symm
      rw [hdecl] at hown2
      rw [← e1]; exact Option.some.inj (C.2.2.2.1.symm.trans hown2)
    have h6 := u_fits hfc hkC hkind (Or.inr hlay) hi (c4 k hk) hn hf
    exact W.putFinK C.1 C.2.1 C.2.2.2.1 (C.ht hl1) hi hst hcf hin2 (by rw [q2]; exact h6) q1 q3 hslot rfl rfl hd fin
/-- a new row of numbers, behind its object -/
theorem v_onew (C : gC X cc own ret rm) {atype : ArrayType} {ty : FieldType} {i N ci a off : Nat} {fs : List Value} {rs : List (Nat × Cell)} (hd : decode cc pc = .ok (.newarray atype, 2)) (harr : Cond.arrayClass (newarray.typeOf atype) ∈ TW) (hty : newarray.typeOf atype = ty) (hi : (g_tys (ydA (xY X)))[i]? = some ((ydA (xY X)) i, ty)) (hra : ∀ (U : State) (c : ClassId), va_RA U c ty = (U.vm.findClass ("[" ++ ty.toString) = some c)) (hN : N ≤ 5000) (hb8 : componentBytes ty ≤ 8) (hc : mc + 1 ≤ rm.cells ∧ ms + N ≤ rm.slots) (hP : PS (xY X) ci a fs rs H) (hsz : H.size = a + off) (h1 : 1 ≤ off) (hA : ∀ q, a ≤ q → A q) (hS : va_S A (xs X).heap H locs)
    (kk : ∀ (H' : Heap), PS (xY X) ci a fs (rs ++ [(off, arrV ((ydA (xY X)) i) N (fun _ => defaultValue ty))]) H' → H'.size = a + (off + 1) → (∀ q, q < H.size → H'[q]? = H[q]?) → va_S A (xs X).heap H' locs → gV X H' locs (mc + 1) (ms + N) (F0 (xm X) (pc + 2) ls (.ref (a + off) :: stk))) : gV X H locs mc ms (F0 (xm X) pc ls (.int (nI N) :: stk)) := by
  subst hty
  have hR := C.2.2.2.2.2.2.2
  have hcl : (nI N).toNatClampNeg = N := nI_clamp (by omega)
  refine va_newaK C.1 C.2.1 (C.ht harr) rfl hd rfl (nI_pos (by omega)) hcl (by have : N * componentBytes (newarray.typeOf atype) ≤ 5000 * 8 := Nat.mul_le_mul hN hb8; omega) (by rw [hR]; exact hc.1) (by rw [hR]; exact hc.2) hsz fun H1 cA e1 z1 o1 hAr hNm => ?_
  have hcA : cA = (ydA (xY X)) i := by
    have h2 := (C.K.2 i _ hi).2
    rw [hra] at h2
    exact Option.some.inj (hNm.symm.trans h2)
  subst hcA
  have o1 : ∀ q, q < H.size → H1[q]? = H[q]? := fun q hq => o1 q (by rw [← hsz]; exact hq)
  have hk := hP.kept o1
  refine kk H1 ⟨hk.1, fun x hx => ?_⟩ (by rw [z1]; omega) o1 ⟨Nat.le_trans hS.1 (by omega), fun x h1 h2 => (o1 x (Nat.lt_of_lt_of_le h1 hS.1)).trans (hS.2.1 x h1 h2), hS.2.2⟩
  rcases List.mem_append.mp hx with h | h
  · exact hk.2 x h
  · rw [List.mem_singleton.mp h]
    exact ⟨h1, e1⟩
/-- a new object, to be made by its constructor -/
theorem v_new (C : gC X cc own ret rm) {ci index N : Nat} {Cn : String} {T : u_T} {ty : Nat → FieldType} {fs : List Value} (hd : decode cc pc = .ok (.new index, 3)) (c1 : vwCl[ci]? = some (Cn, T, N)) (c2 : N = (g_tab ci).length) (c3 : ∀ w ∈ u_ws Cn T N, w ∈ TW) (c4 : ∀ k, k < N → parseFieldDescriptor (T k).2.2.1 = some (ty k)) (hw : Cond.classLink own index Cn ∈ TW ∧ Cond.instantiable Cn N ∈ TW ∧ Cond.initialized Cn ∈ TW) (hdef : ∀ j, j < N → defaultValue (ty j) = vp_V fs j) (hcs : mc + 1 ≤ rm.cells ∧ ms + N ≤ rm.slots) {a : Nat} (ha : H.size = a) (hA : A a) (hS : va_S A (xs X).heap H locs)
    (kk : ∀ (H' : Heap), PS (xY X) ci a fs [] H' → H'.size = a + 1 → (∀ q, q < H.size → H'[q]? = H[q]?) → va_S A (xs X).heap H' locs → gV X H' locs (mc + 1) (ms + N) (F0 (xm X) (pc + 3) ls (.ref a :: stk))) : gV X H locs mc ms (F0 (xm X) pc ls stk) := by
  have hKn := C.K.1 ci _ c1
  have hR := C.2.2.2.2.2.2.2
  subst ha
  refine W.newcK C.1 C.2.1 C.2.2.2.1 (C.ht hw.1) (C.ht hw.2.1) (C.ht hw.2.2) rfl hd (by rw [hR]; exact hcs.1) (by rw [hR]; exact hcs.2) hKn.2.1 rfl fun H1 kC hkC e1 z1 o1 => ?_
  have hb := (u_born ty C.hts c3 hKn hkC e1 c4).to (V' := vp_V fs) hdef
  rw [c2] at hb
  exact kk H1 ⟨hb, fun x hx => by cases hx⟩ z1 o1 ⟨Nat.le_trans hS.1 (by omega), fun x h1 h2 => (o1 x (Nat.lt_of_lt_of_le h1 hS.1)).trans (hS.2.1 x h1 h2), hS.2.2⟩
end VO
/-- what a constructor's start holds -/
abbrev PK (Y : gWx) (ci a : Nat) (fs : List Value) (U : State) : Prop := U.heap.size = a + 1 ∧ yB0 Y ≤ a ∧ PS Y ci a fs [] U.heap
theorem va_S.to9 {a B0 : Nat} {H0 H : Heap} {locs : List Loc} (h : va_S (fun q => a ≤ q) H0 H locs) (hB : B0 ≤ a) : va_S (gA B0) H0 H locs := ⟨h.1, fun q h1 h2 => h.2.1 q h1 (fun z => h2 (Nat.le_trans hB z)), fun l hl => Nat.le_trans hB (h.2.2 l hl)⟩
theorem PS.low {Y : gWx} {ci a off : Nat} {fs : List Value} {rs : List (Nat × Cell)} {H H1 : Heap} (h : PS Y ci a fs rs H) (hq : ∀ q, q < a + off → H1[q]? = H[q]?) (h0 : 1 ≤ off) (hr : rs.all (fun x => decide (x.1 < off)) = true) : PS Y ci a fs rs H1 := ⟨h.1.kept (hq a (by omega)), fun x hx => ⟨(h.2 x hx).1, (hq _ (by have := List.all_eq_true.mp hr x hx; have := of_decide_eq_true this; omega)).trans (h.2 x hx).2⟩⟩
theorem tab2_le : ∀ (k : Nat) (q : gK), (g_tab 2)[k]? = some q → q.2.2 ≤ 7 := by
  intro k q h
  have : ∀ q ∈ g_tab 2, q.2.2 ≤ 7 := by decide
  exact this q (List.mem_of_getElem? h)
theorem PF.lowB {Y : gWx} {b m : Nat} {o : FO} {H H1 : Heap} (h : PF Y 2 b o H) (hq : ∀ q, q < m → H1[q]? = H[q]?) (hm : b + 8 ≤ m) : PF Y 2 b o H1 := ⟨h.1.kept (hq b (by omega)), fun k q h1 h2 => (hq _ (by have := tab2_le k q h1; omega)).trans (h.2 k q h1 h2)⟩
theorem PL.low {Y : gWx} {b m : Nat} {H H1 : Heap} (h : PL Y b H) (hq : ∀ q, q < m → H1[q]? = H[q]?) (hm : b < m) : PL Y b H1 := t_OB.kept h (hq b hm)
theorem PF.ne {Y : gWx} {ci a b : Nat} {o : FO} {H H1 : Heap} (h : PF Y ci b o H) (hq : ∀ q, q ≠ a → H1[q]? = H[q]?) (hm : a < b) : PF Y ci b o H1 := h.kept (fun q _ h2 => hq q (by omega))
theorem PL.ne {Y : gWx} {a b : Nat} {H H1 : Heap} (h : PL Y b H) (hq : ∀ q, q ≠ a → H1[q]? = H[q]?) (hm : a < b) : PL Y b H1 := h.kept (fun q _ h2 => hq q (by omega))
theorem gm_ofQ {Y : gWx} {y : MethodName} {bytes : ByteArray} {maxL : Nat} {rt : Option FieldType} {rm : Room} {av : List Value} {P : State → Prop} {Qc : Array Value → State → Outcome → State → Prop} {mc ms : Nat} {free : Nat → Prop} (hy : plainName y.cls = true) (hlen : (lg_sl av).length ≤ maxL)
    (body : ∀ X : gCx, xY X = Y → xn X = maxL → gC X bytes y.cls rt rm → xQ X = MQ (xb X) Qc (xa X) (xs X) mc ms free → P (xs X) → (xh X).name = y.name → ∀ ls, lv_has ls maxL (lv_args 0 av) → gV X (xs X).heap [] 0 0 (F0 (xm X) 0 ls [])) : Met (yl Y) y [Cond.code y bytes maxL rt] rm (va_Pc av (fun U => P U ∧ yE Y U)) Qc mc ms free := by
  refine Met.ofW (cc := bytes) (maxL := maxL) (ret := rt) hy rfl ?_
  intro p e s m args below meth c s₁ B hml hv
  obtain ⟨rfl, hP, hE⟩ := hv
  rw [lg_entry_eq]
  exact body (Y, p, e, rm, s, m, av.toArray, below, meth, c, MQ below Qc av.toArray s mc ms free, maxL) rfl rfl ⟨B.exec, B.bytes, hml, findClass_of_methodNamed B.named, B.returns, B.notSynchronized, hE, rfl⟩ rfl hP (name_of_methodNamed B.named B.method).1 _ (lv_entry av hlen)
/-- a store into a list's own slot, from any class -/
theorem v_lsetG {X : gCx} {cc : ByteArray} {own : String} {ret : Option FieldType} {rm : Room} {mc ms pc : Nat} {stk : List Value} {H : Heap} {locs : List Loc} {ls : Array Slot} {A : Nat → Prop} (C : gC X cc own ret rm) {b k index : Nat} {ref : String} {fs fs' : List Value} {v : Value} (hd : decode cc pc = .ok (.putfield index, 3)) (hk : k < 3) (hl1 : Cond.fieldLink own index ref (TJx4a65c k).2.1 (TJx4a65c k).2.2.1 ∈ TW) (hr : (TJx4a65c k).1 = ref) (hfl : fs.length = 3) (hob : t_OB b ((yD (xY X)).1 0) 3 ((yD (xY X)).2 0) H (vp_V fs)) (hn : narrow (tyJx4a65c k) v = v) (hf : fits (tyJx4a65c k) v = true) (hfs : fs.set k v = fs') (hbB : A b) (hS : va_S A (xs X).heap H locs)
    (kk : ∀ (H' : Heap) (locs' : List Loc), t_OB b ((yD (xY X)).1 0) 3 ((yD (xY X)).2 0) H' (vp_V fs') → H'.size = H.size → (∀ q, q ≠ b → H'[q]? = H[q]?) → va_S A (xs X).heap H' locs' → gV X H' locs' mc ms (F0 (xm X) (pc + 3) ls stk)) : gV X H locs mc ms (F0 (xm X) pc ls (v :: .ref b :: stk)) := by
  subst hr hfs
  have c1 : vwCl[0]? = some (RJx4a65c, TJx4a65c, 3) := rfl
  have hap := va_apart (own := own) C.hts gcl0_in tyJx4a65c tyJx4a65c_ok nmJx4a65c C.K c1
  obtain ⟨cell, q1, q2, q3, q4⟩ := hob
  obtain ⟨hSl, hfc, kC, hkC, hkind⟩ := C.K.1 0 _ c1
  obtain ⟨cf, kf, fi, f, hi, hsl⟩ := hSl k hk
  have hlay := C.hts _ (gcl0_in _ (u_in_lay hk))
  unfold u_lay at hlay
  have hfin : (TJx4a65c k).2.2.2 = false := by
    match k, hk with
    | 0, _ => rfl
    | 1, _ => rfl
    | 2, _ => rfl
  rw [if_neg (by rw [hfin]; decide)] at hlay
  have hst := (u_facts hfc hkC (u_lays C.hts gcl0_in hk) hi).1
  have h6 := u_store hfc hkC hkind hlay hi (tyJx4a65c_ok k hk) hn hf
  refine W.putK C.1 C.2.1 (f := f) ⟨C.2.2.2.1, C.ht hl1, ⟨_, _, _, hi⟩, hst⟩ (by rw [q2]; exact h6) q1 q3 (by rw [hsl]; exact k2_hasslot (q4 k hk)) rfl rfl hd fun H' e1 e2 e3 => ?_
  rw [hsl] at e1
  exact kk H' _ (t_OB.to (V := updV (vp_V fs) k v) ⟨_, e1, q2, q3, t_set q4 hap hk v⟩ (fun j _ => vp_updV_set (by rw [hfl]; exact hk) v j)) e2 e3 (hS.put e2 e3 hbB)
theorem PK.blind {Y : gWx} {ci a : Nat} {fs : List Value} {av : List Value} : FrameBlind (va_Pc av (fun U => PK Y ci a fs U ∧ yE Y U)) := fun a U g mk q => ⟨q.1, q.2.1, gE_go q.2.2 va_S.rf rfl (State.WarmedH.refl U)⟩
theorem ra_I (U : State) (c : ClassId) : va_RA U c .int = (U.vm.findClass ("[" ++ FieldType.int.toString) = some c) := rfl
theorem ra_Z (U : State) (c : ClassId) : va_RA U c .boolean = (U.vm.findClass ("[" ++ FieldType.boolean.toString) = some c) := rfl
theorem ra_J (U : State) (c : ClassId) : va_RA U c .long = (U.vm.findClass ("[" ++ FieldType.long.toString) = some c) := rfl
abbrev bl_Jx4a65c : List Value := [.int 0, .null, .int 0]
theorem mt_Jxa1e45_init_da8c8 : gMt yJxa1e45_init_da8c8 cJxa1e45_init_da8c8 1 none 0 := ⟨tw103, tw60, by decide +kernel, by decide +kernel, by decide +kernel⟩
theorem mt_Jxc12de_init_da8c8 : gMt yJxc12de_init_da8c8 cJxc12de_init_da8c8 1 none 0 := ⟨tw100, tw61, by decide +kernel, by decide +kernel, by decide +kernel⟩
theorem mt_Jx4a65c_init_da8c8 : gMt yJx4a65c_init_da8c8 cJx4a65c_init_da8c8 1 none 0 := ⟨tw97, tw62, by decide +kernel, by decide +kernel, by decide +kernel⟩
def rm_i1 : Room := { frames := 1, cells := 0, slots := 0, locals := 20 }
def rm_i2 : Room := { frames := 2, cells := 0, slots := 0, locals := 60 }
def rm_i3 : Room := { frames := 3, cells := 0, slots := 0, locals := 100 }
set_option maxHeartbeats 4000000 in
set_option maxRecDepth 100000 in
theorem k_ac {Y : gWx} {a sz : Nat} : Met (yl Y) yJxa1e45_init_da8c8 [Cond.code yJxa1e45_init_da8c8 cJxa1e45_init_da8c8 1 none] rm_i1 (va_Pc [.ref a] (fun U => U.heap.size = sz ∧ yE Y U)) (va_Qv (S := Unit) (fun _ => True) (fun _ t => t.heap.size = sz) (fun _ => False)) 0 0 (fun _ => False) := by
  refine gm_ofQ (P := fun U => U.heap.size = sz) rfl (Nat.le_of_ble_eq_true rfl) ?_
  intro X hY hxn C hQ hsz hnm ls hl
  subst hY
  have C : gC X cJxa1e45_init_da8c8 RJxa1e45 none rm_i1 := C
  have hl : lv_has ls 1 [(0, .ref a)] := hl
  have hx := C.1
  have hb := C.2.1
  have hR := C.2.2.2.2.2.2.2
  have hS : va_S (fun _ => False) (xs X).heap (xs X).heap [] := va_S.rf
  refine lv_aload_n hx hb dJxa1e45_init_da8c8_0 rfl (lv_at hl 0 rfl) ?_
  refine W.objInit hx hb C.2.2.2.1 (C.ht tw104) (C.ht tw91) (C.ht tw92) rfl (by rw [C.2.2.1]; exact hl.1.trans hxn.symm) rfl dJxa1e45_init_da8c8_1 (by rw [hR]; exact Nat.le_of_ble_eq_true rfl) (by rw [hR]; exact Nat.le_of_ble_eq_true rfl) ?_
  refine W.eq (g2 := F0 (xm X) 4 ls []) rfl ?_
  rw [hQ]
  exact W.vret hx hb C.2.2.2.2.1 (fun t ht hW => ⟨⟨(), rfl, True.intro, by show t.heap.size = sz; rw [ht]; exact hsz⟩, hS.F ht⟩) hS.2.2 dJxa1e45_init_da8c8_4 C.2.2.2.2.2.1
set_option maxHeartbeats 4000000 in
set_option maxRecDepth 100000 in
theorem k_al {Y : gWx} {a : Nat} : Met (yl Y) yJxc12de_init_da8c8 [Cond.code yJxc12de_init_da8c8 cJxc12de_init_da8c8 1 none] rm_i2 (va_Pc [.ref a] (fun U => PK Y 0 a bl_Jx4a65c U ∧ yE Y U)) (va_Qv (S := Unit) (fun _ => True) (fun _ t => t.heap.size = a + 1 ∧ PS Y 0 a bl_Jx4a65c [] t.heap) (fun q => a ≤ q)) 0 0 (fun q => a ≤ q) := by
  refine gm_ofQ (P := fun U => PK Y 0 a bl_Jx4a65c U) rfl (Nat.le_of_ble_eq_true rfl) ?_
  intro X hY hxn C hQ hP hnm ls hl
  subst hY
  obtain ⟨hsz, hB9, hP⟩ := hP
  have C : gC X cJxc12de_init_da8c8 RJxc12de none rm_i2 := C
  have hl : lv_has ls 1 [(0, .ref a)] := hl
  have hx := C.1
  have hb := C.2.1
  have hR := C.2.2.2.2.2.2.2
  have hS : va_S (fun q => a ≤ q) (xs X).heap (xs X).heap [] := va_S.rf
  refine lv_aload_n hx hb dJxc12de_init_da8c8_0 rfl (lv_at hl 0 rfl) ?_
  refine va_callv (va_runI (As := []) (rest := []) ⟨hx, hb, C.2.2.1.trans hxn, C.2.2.2.1, C.hts⟩ (k_ac (Y := xY X) (a := a) (sz := a + 1)) ⟨g_callB (mc := 0) (ms := 0) C mt_Jxa1e45_init_da8c8 tw101 ⟨rfl, rfl, ⟨Nat.le_of_ble_eq_true rfl, Nat.le_of_ble_eq_true rfl⟩, ⟨Nat.le_of_ble_eq_true rfl, Nat.le_of_ble_eq_true rfl⟩⟩, rfl, C.ht tw102⟩ ⟨fun a U g mk q => ⟨q.1, q.2.1, gE_go q.2.2 va_S.rf rfl (State.WarmedH.refl U)⟩, fun U hU hW => ⟨rfl, by rw [hU]; exact hsz, gE_go C.2.2.2.2.2.2.1 (hS.to9 hB9) hU hW⟩⟩ rfl rfl hl.1 rfl (lv_room (Nat.le_of_ble_eq_true rfl)) dJxc12de_init_da8c8_1 (by rw [hR]; exact ⟨Nat.le_of_ble_eq_true rfl, Nat.le_of_ble_eq_true rfl⟩)) hS (fun _ _ z => z.elim) (fun _ z => z.elim) (fun u t H1 locs1 ht hvm hr hB8 hz hkp1 hS1 => ?_)
  refine lv_aload_n hx hb dJxc12de_init_da8c8_4 rfl (lv_at hl 0 rfl) ?_
  refine lv_iconst (v := 0) hx hb dJxc12de_init_da8c8_5 (by decide) ?_
  have hB8 : t.heap.size = a + 1 := hB8
  rw [ht] at hB8
  have hP1 := hP.kept (fun q h => hkp1 q h (fun e => e))
  refine v_lsetG (k := 0) (ref := "java/util/AbstractList") (fs' := bl_Jx4a65c) C dJxc12de_init_da8c8_6 (by decide) tw109 rfl rfl hP1.1 (vp_nar_int _) rfl rfl (Nat.le_refl a) hS1 (fun H2 locs2 e2 e3 e4 hS2 => ?_)
  rw [gV, hQ]
  exact W.vret hx hb C.2.2.2.2.1 (fun t ht hW => ⟨⟨(), rfl, True.intro, by show t.heap.size = _ ∧ PS _ _ _ _ _ t.heap; rw [ht]; exact ⟨e3.trans hB8, e2, fun x hx => by cases hx⟩⟩, hS2.F ht⟩) hS2.2.2 dJxc12de_init_da8c8_9 C.2.2.2.2.2.1
set_option maxHeartbeats 4000000 in
set_option maxRecDepth 100000 in
theorem k_Jx4a65c_init_da8c8 {Y : gWx} {a : Nat} : Met (yl Y) yJx4a65c_init_da8c8 [Cond.code yJx4a65c_init_da8c8 cJx4a65c_init_da8c8 1 none] rm_i3 (va_Pc [.ref a] (fun U => PK Y 0 a bl_Jx4a65c U ∧ yE Y U)) (va_Qv (S := Unit) (fun _ => True) (fun _ t => t.heap.size = a + 1 ∧ PL Y a t.heap) (fun q => a ≤ q)) 0 0 (fun q => a ≤ q) := by
  refine gm_ofQ (P := fun U => PK Y 0 a bl_Jx4a65c U) rfl (Nat.le_of_ble_eq_true rfl) ?_
  intro X hY hxn C hQ hP hnm ls hl
  subst hY
  obtain ⟨hsz, hB9, hP⟩ := hP
  have C : gC X cJx4a65c_init_da8c8 RJx4a65c none rm_i3 := C
  have hl : lv_has ls 1 [(0, .ref a)] := hl
  have hx := C.1
  have hb := C.2.1
  have hR := C.2.2.2.2.2.2.2
  have hS : va_S (fun q => a ≤ q) (xs X).heap (xs X).heap [] := va_S.rf
  refine lv_aload_n hx hb dJx4a65c_init_da8c8_0 rfl (lv_at hl 0 rfl) ?_
  refine va_callv (va_runI (As := []) (rest := []) ⟨hx, hb, C.2.2.1.trans hxn, C.2.2.2.1, C.hts⟩ (k_al (Y := xY X) (a := a)) ⟨g_callB (mc := 0) (ms := 0) C mt_Jxc12de_init_da8c8 tw98 ⟨rfl, rfl, ⟨Nat.le_of_ble_eq_true rfl, Nat.le_of_ble_eq_true rfl⟩, ⟨Nat.le_of_ble_eq_true rfl, Nat.le_of_ble_eq_true rfl⟩⟩, rfl, C.ht tw99⟩ ⟨PK.blind, fun U hU hW => ⟨rfl, ⟨by rw [hU]; exact hsz, hB9, by rw [hU]; exact hP⟩, gE_go C.2.2.2.2.2.2.1 (hS.to9 hB9) hU hW⟩⟩ rfl rfl hl.1 rfl (lv_room (Nat.le_of_ble_eq_true rfl)) dJx4a65c_init_da8c8_1 (by rw [hR]; exact ⟨Nat.le_of_ble_eq_true rfl, Nat.le_of_ble_eq_true rfl⟩)) hS (fun _ _ z => z) (fun _ z => z) (fun u t H1 locs1 ht hvm hr hB8 hz hkp1 hS1 => ?_)
  obtain ⟨hsz1, hP1⟩ := hB8
  rw [ht] at hsz1 hP1
  obtain ⟨-, -, -, -, -, hZ, -⟩ := C.2.2.2.2.2.2.1
  refine lv_aload_n hx hb dJx4a65c_init_da8c8_4 rfl (lv_at hl 0 rfl) ?_
  refine va_gets hx hb hZ (hS1.to9 hB9) C.2.2.2.1 (C.ht tw105) (fun _ h9 => h9) dJx4a65c_init_da8c8_5 ?_
  refine v_lsetG (k := 1) (ref := "java/util/ArrayList") (fs' := [.int 0, .ref (yE0 (xY X)), .int 0]) C dJx4a65c_init_da8c8_8 (by decide) tw107 rfl rfl hP1.1 rfl rfl rfl (Nat.le_refl a) hS1 (fun H2 locs2 e2 e3 e4 hS2 => ?_)
  rw [gV, hQ]
  exact W.vret hx hb C.2.2.2.2.1 (fun t ht hW => ⟨⟨(), rfl, True.intro, by show t.heap.size = _ ∧ PL _ _ t.heap; rw [ht]; exact ⟨e3.trans hsz1, e2⟩⟩, hS2.F ht⟩) hS2.2.2 dJx4a65c_init_da8c8_11 C.2.2.2.2.2.1
def rm_X1_init : Room := { frames := 1, cells := 7, slots := 280, locals := 30 }
theorem mt_X1_init : gMt yX1_init cX1_init 1 none 0 := ⟨tw123, tw63, by decide +kernel, by decide +kernel, by decide +kernel⟩
abbrev bl_X1 : List Value := [.null, .null, .null, .null, .null, .null, .null, .long 0, .int 0, .int 0]
set_option maxHeartbeats 8000000 in
set_option maxRecDepth 100000 in
theorem k_X1_init {Y : gWx} {a : Nat} : Met (yl Y) yX1_init [Cond.code yX1_init cX1_init 1 none] rm_X1_init (va_Pc [.ref a] (fun U => PK Y 2 a bl_X1 U ∧ yE Y U)) (va_Qv (S := Unit) (fun _ => True) (fun _ t => t.heap.size = a + 8 ∧ PF Y 2 a fo0 t.heap) (fun q => a ≤ q)) 7 280 (fun q => a ≤ q) := by
  refine gm_ofQ (P := fun U => PK Y 2 a bl_X1 U) rfl (Nat.le_of_ble_eq_true rfl) ?_
  intro X hY hxn C hQ hP hnm ls hl
  subst hY
  obtain ⟨hsz, hB9, hP⟩ := hP
  have C : gC X cX1_init RX1 none rm_X1_init := C
  have hl : lv_has ls 1 [(0, .ref a)] := hl
  have hx := C.1
  have hb := C.2.1
  have hR := C.2.2.2.2.2.2.2
  have hS : va_S (fun q => a ≤ q) (xs X).heap (xs X).heap [] := va_S.rf
  have hA : ∀ q, a ≤ q → (fun q => a ≤ q) q := fun _ h => h
  refine lv_aload_n hx hb dX1_init_0 rfl (lv_at hl 0 rfl) ?_
  refine W.objInit hx hb C.2.2.2.1 (C.ht tw124) (C.ht tw91) (C.ht tw92) rfl (by rw [C.2.2.1]; exact hl.1.trans hxn.symm) rfl dX1_init_1 (by rw [hR]; exact Nat.le_of_ble_eq_true rfl) (by rw [hR]; exact Nat.le_of_ble_eq_true rfl) ?_
  refine W.eq (g2 := F0 (xm X) 4 ls []) rfl ?_
  refine lv_aload_n hx hb dX1_init_4 rfl (lv_at hl 0 rfl) ?_
  refine lv_bipush (v := nI 40) hx hb dX1_init_5 (by decide) ?_
  refine v_onew (N := 40) (i := 0) C dX1_init_7 tw161 rfl rfl ra_I (by decide) (by decide) ⟨Nat.le_of_ble_eq_true rfl, Nat.le_of_ble_eq_true rfl⟩ hP hsz (by decide) hA hS (fun H hP hsz hkp hS => ?_)
  refine v_oset (k := 0) (ref := "CanvasRoom$Board") (fs' := [.ref (a + 1), .null, .null, .null, .null, .null, .null, .long 0, .int 0, .int 0]) C gcl_2 dX1_init_9 (by decide) tw125 rfl (Or.inr ⟨rfl, hnm, rfl⟩) rfl rfl rfl rfl hP (Nat.le_refl a) hS (fun H locs hP hz hkp hS => ?_)
  have hsz : H.size = a + 2 := by rw [hz, hsz]
  refine lv_aload_n hx hb dX1_init_12 rfl (lv_at hl 0 rfl) ?_
  refine lv_bipush (v := nI 40) hx hb dX1_init_13 (by decide) ?_
  refine v_onew (N := 40) (i := 0) C dX1_init_15 tw161 rfl rfl ra_I (by decide) (by decide) ⟨Nat.le_of_ble_eq_true rfl, Nat.le_of_ble_eq_true rfl⟩ hP hsz (by decide) hA hS (fun H hP hsz hkp hS => ?_)
  refine v_oset (k := 1) (ref := "CanvasRoom$Board") (fs' := [.ref (a + 1), .ref (a + 2), .null, .null, .null, .null, .null, .long 0, .int 0, .int 0]) C gcl_2 dX1_init_17 (by decide) tw127 rfl (Or.inr ⟨rfl, hnm, rfl⟩) rfl rfl rfl rfl hP (Nat.le_refl a) hS (fun H locs hP hz hkp hS => ?_)
  have hsz : H.size = a + 3 := by rw [hz, hsz]
  refine lv_aload_n hx hb dX1_init_20 rfl (lv_at hl 0 rfl) ?_
  refine lv_bipush (v := nI 40) hx hb dX1_init_21 (by decide) ?_
  refine v_onew (N := 40) (i := 0) C dX1_init_23 tw161 rfl rfl ra_I (by decide) (by decide) ⟨Nat.le_of_ble_eq_true rfl, Nat.le_of_ble_eq_true rfl⟩ hP hsz (by decide) hA hS (fun H hP hsz hkp hS => ?_)
  refine v_oset (k := 2) (ref := "CanvasRoom$Board") (fs' := [.ref (a + 1), .ref (a + 2), .ref (a + 3), .null, .null, .null, .null, .long 0, .int 0, .int 0]) C gcl_2 dX1_init_25 (by decide) tw129 rfl (Or.inr ⟨rfl, hnm, rfl⟩) rfl rfl rfl rfl hP (Nat.le_refl a) hS (fun H locs hP hz hkp hS => ?_)
  have hsz : H.size = a + 4 := by rw [hz, hsz]
  refine lv_aload_n hx hb dX1_init_28 rfl (lv_at hl 0 rfl) ?_
  refine lv_bipush (v := nI 40) hx hb dX1_init_29 (by decide) ?_
  refine v_onew (N := 40) (i := 0) C dX1_init_31 tw161 rfl rfl ra_I (by decide) (by decide) ⟨Nat.le_of_ble_eq_true rfl, Nat.le_of_ble_eq_true rfl⟩ hP hsz (by decide) hA hS (fun H hP hsz hkp hS => ?_)
  refine v_oset (k := 3) (ref := "CanvasRoom$Board") (fs' := [.ref (a + 1), .ref (a + 2), .ref (a + 3), .ref (a + 4), .null, .null, .null, .long 0, .int 0, .int 0]) C gcl_2 dX1_init_33 (by decide) tw130 rfl (Or.inr ⟨rfl, hnm, rfl⟩) rfl rfl rfl rfl hP (Nat.le_refl a) hS (fun H locs hP hz hkp hS => ?_)
  have hsz : H.size = a + 5 := by rw [hz, hsz]
  refine lv_aload_n hx hb dX1_init_36 rfl (lv_at hl 0 rfl) ?_
  refine lv_bipush (v := nI 40) hx hb dX1_init_37 (by decide) ?_
  refine v_onew (N := 40) (i := 0) C dX1_init_39 tw161 rfl rfl ra_I (by decide) (by decide) ⟨Nat.le_of_ble_eq_true rfl, Nat.le_of_ble_eq_true rfl⟩ hP hsz (by decide) hA hS (fun H hP hsz hkp hS => ?_)
  refine v_oset (k := 4) (ref := "CanvasRoom$Board") (fs' := [.ref (a + 1), .ref (a + 2), .ref (a + 3), .ref (a + 4), .ref (a + 5), .null, .null, .long 0, .int 0, .int 0]) C gcl_2 dX1_init_41 (by decide) tw131 rfl (Or.inr ⟨rfl, hnm, rfl⟩) rfl rfl rfl rfl hP (Nat.le_refl a) hS (fun H locs hP hz hkp hS => ?_)
  have hsz : H.size = a + 6 := by rw [hz, hsz]
  refine lv_aload_n hx hb dX1_init_44 rfl (lv_at hl 0 rfl) ?_
  refine lv_bipush (v := nI 40) hx hb dX1_init_45 (by decide) ?_
  refine v_onew (N := 40) (i := 0) C dX1_init_47 tw161 rfl rfl ra_I (by decide) (by decide) ⟨Nat.le_of_ble_eq_true rfl, Nat.le_of_ble_eq_true rfl⟩ hP hsz (by decide) hA hS (fun H hP hsz hkp hS => ?_)
  refine v_oset (k := 5) (ref := "CanvasRoom$Board") (fs' := [.ref (a + 1), .ref (a + 2), .ref (a + 3), .ref (a + 4), .ref (a + 5), .ref (a + 6), .null, .long 0, .int 0, .int 0]) C gcl_2 dX1_init_49 (by decide) tw133 rfl (Or.inr ⟨rfl, hnm, rfl⟩) rfl rfl rfl rfl hP (Nat.le_refl a) hS (fun H locs hP hz hkp hS => ?_)
  have hsz : H.size = a + 7 := by rw [hz, hsz]
  refine lv_aload_n hx hb dX1_init_52 rfl (lv_at hl 0 rfl) ?_
  refine lv_bipush (v := nI 40) hx hb dX1_init_53 (by decide) ?_
  refine v_onew (N := 40) (i := 2) C dX1_init_55 tw162 rfl rfl ra_J (by decide) (by decide) ⟨Nat.le_of_ble_eq_true rfl, Nat.le_of_ble_eq_true rfl⟩ hP hsz (by decide) hA hS (fun H hP hsz hkp hS => ?_)
  refine v_oset (k := 6) (ref := "CanvasRoom$Board") (fs' := [.ref (a + 1), .ref (a + 2), .ref (a + 3), .ref (a + 4), .ref (a + 5), .ref (a + 6), .ref (a + 7), .long 0, .int 0, .int 0]) C gcl_2 dX1_init_57 (by decide) tw134 rfl (Or.inr ⟨rfl, hnm, rfl⟩) rfl rfl rfl rfl hP (Nat.le_refl a) hS (fun H locs hP hz hkp hS => ?_)
  have hsz : H.size = a + 8 := by rw [hz, hsz]
  have hF : PF (xY X) 2 a fo0 H := hP.full rfl (fun k q h h3 => by
    have hk : k < 10 := (List.getElem?_eq_some_iff.mp h).1
    match k, hk, h with
    | 0, _, h => cases h; exact List.mem_of_getElem? (i := 0) rfl
    | 1, _, h => cases h; exact List.mem_of_getElem? (i := 1) rfl
    | 2, _, h => cases h; exact List.mem_of_getElem? (i := 2) rfl
    | 3, _, h => cases h; exact List.mem_of_getElem? (i := 3) rfl
    | 4, _, h => cases h; exact List.mem_of_getElem? (i := 4) rfl
    | 5, _, h => cases h; exact List.mem_of_getElem? (i := 5) rfl
    | 6, _, h => cases h; exact List.mem_of_getElem? (i := 6) rfl
    | 7, _, h => cases h; exact absurd h3 (by decide)
    | 8, _, h => cases h; exact absurd h3 (by decide)
    | 9, _, h => cases h; exact absurd h3 (by decide))
  rw [gV, hQ]
  exact W.widen (Nat.le_of_ble_eq_true rfl) (Nat.le_of_ble_eq_true rfl) (W.vret hx hb C.2.2.2.2.1 (fun t ht hW => ⟨⟨(), rfl, True.intro, by show t.heap.size = _ ∧ _; rw [ht]; exact ⟨hsz, hF⟩⟩, hS.F ht⟩) hS.2.2 dX1_init_60 C.2.2.2.2.2.1)
def ed0 (a : Nat) (p0 : Int32) (p1 : Nat) (p2 : Int32) : FO := sI (sI (sR (sR (sR fo0 3 (a + 1)) 8 (a + 11)) 1 p1) 0 p0) 2 p2
def rm_X3_init : Room := { frames := 5, cells := 11, slots := 499, locals := 160 }
theorem mt_X3_init : gMt yX3_init cX3_init 4 none 3 := ⟨tw781, tw82, by decide +kernel, by decide +kernel, by decide +kernel⟩
abbrev bl_X3 : List Value := [.int 0, .null, .int 0, .null, .null, .int 0, .null, .int 0, .null, .int 0]
set_option maxHeartbeats 8000000 in
set_option maxRecDepth 100000 in
theorem k_X3_init {Y : gWx} {a : Nat} {p0 p2 : Int32} {p1 : Nat} : Met (yl Y) yX3_init [Cond.code yX3_init cX3_init 4 none] rm_X3_init (va_Pc [.ref a, .int p0, .ref p1, .int p2] (fun U => PK Y 4 a bl_X3 U ∧ yE Y U)) (va_Qv (S := Unit) (fun _ => True) (fun _ t => t.heap.size = a + 12 ∧ PF Y 4 a (ed0 a p0 p1 p2) t.heap ∧ PF Y 2 (a + 1) fo0 t.heap ∧ PL Y (a + 11) t.heap) (fun q => a ≤ q)) 11 499 (fun q => a ≤ q) := by
  refine gm_ofQ (P := fun U => PK Y 4 a bl_X3 U) rfl (Nat.le_of_ble_eq_true rfl) ?_
  intro X hY hxn C hQ hP hnm ls hl
  subst hY
  obtain ⟨hsz, hB9, hP⟩ := hP
  have C : gC X cX3_init RX3 none rm_X3_init := C
  have hl : lv_has ls 4 [(0, .ref a), (1, .int p0), (2, .ref p1), (3, .int p2)] := hl
  have hx := C.1
  have hb := C.2.1
  have hR := C.2.2.2.2.2.2.2
  have hS : va_S (fun q => a ≤ q) (xs X).heap (xs X).heap [] := va_S.rf
  have hA : ∀ q, a ≤ q → (fun q => a ≤ q) q := fun _ h => h
  refine lv_aload_n hx hb dX3_init_0 rfl (lv_at hl 0 rfl) ?_
  refine W.objInit hx hb C.2.2.2.1 (C.ht tw782) (C.ht tw91) (C.ht tw92) rfl (by rw [C.2.2.1]; exact hl.1.trans hxn.symm) rfl dX3_init_1 (by rw [hR]; exact Nat.le_of_ble_eq_true rfl) (by rw [hR]; exact Nat.le_of_ble_eq_true rfl) ?_
  refine W.eq (g2 := F0 (xm X) 4 ls []) rfl ?_
  refine lv_aload_n hx hb dX3_init_4 rfl (lv_at hl 0 rfl) ?_
  refine v_new (ci := 2) (fs := bl_X1) (a := a + 1) C dX3_init_5 rfl rfl gcl_2.2.2.1 (by exact tyX1_ok) ⟨tw783, tw120, tw63⟩ (fun j hj => by match j, hj with | 0, _ => rfl | 1, _ => rfl | 2, _ => rfl | 3, _ => rfl | 4, _ => rfl | 5, _ => rfl | 6, _ => rfl | 7, _ => rfl | 8, _ => rfl | 9, _ => rfl) ⟨Nat.le_of_ble_eq_true rfl, Nat.le_of_ble_eq_true rfl⟩ hsz (Nat.le_add_right a 1) hS (fun H hPn hsz hkp hS => ?_)
  have hP := hP.kept hkp
  refine lv_dup hx hb dX3_init_8 rfl ?_
  refine va_callv (va_runIN (As := []) (rest := [.ref (a + 1), .ref a]) ⟨hx, hb, C.2.2.1.trans hxn, C.2.2.2.1, C.hts⟩ (k_X1_init (a := a + 1)) ⟨g_callN (mc := 0) (ms := 0) C mt_X1_init tw784 ⟨rfl, rfl, ⟨Nat.le_of_ble_eq_true rfl, Nat.le_of_ble_eq_true rfl⟩, ⟨Nat.le_of_ble_eq_true rfl, Nat.le_of_ble_eq_true rfl⟩⟩, rfl, C.ht tw122⟩ ⟨PK.blind, fun U hU hW => ⟨rfl, ⟨by rw [hU]; exact hsz, Nat.le_trans hB9 (Nat.le_add_right a _), by rw [hU]; exact hPn⟩, gE_go C.2.2.2.2.2.2.1 (hS.to9 hB9) hU hW⟩⟩ rfl rfl hl.1 rfl (lv_room (Nat.le_of_ble_eq_true rfl)) dX3_init_9 (by rw [hR]; exact ⟨Nat.le_of_ble_eq_true rfl, Nat.le_of_ble_eq_true rfl⟩)) hS (fun q _ h => Nat.le_trans (Nat.le_add_right a 1) h) (fun q h => Nat.le_trans (Nat.le_add_right a 1) h) (fun u t H1 locs1 ht hvm hr hB8 hz hkp1 hS1 => ?_)
  obtain ⟨hsz1, hI0⟩ := hB8
  rw [ht] at hsz1 hI0
  have hkp1 : ∀ q, q < a + 1 → H1[q]? = H[q]? := fun q h => hkp1 q (by rw [hsz]; omega) (Nat.not_le.mpr h)
  have hP := hP.low hkp1 (by omega) rfl
  clear hS
  have hS := hS1
  have hsz : H1.size = a + 9 := by rw [hsz1]
  refine v_oset (k := 3) (ref := "CanvasRoom$Edition") (fs' := [.int 0, .null, .int 0, .ref (a + 1), .null, .int 0, .null, .int 0, .null, .int 0]) C gcl_4 dX3_init_12 (by decide) tw792 rfl (Or.inr ⟨rfl, hnm, rfl⟩) rfl rfl rfl rfl hP (Nat.le_refl a) hS (fun H locs hP hz hkp hS => ?_)
  have hI0 := hI0.ne hkp (by omega)
  have hsz : H.size = a + 9 := by rw [hz, hsz]
  refine lv_aload_n hx hb dX3_init_15 rfl (lv_at hl 0 rfl) ?_
  refine lv_bipush (v := nI 6) hx hb dX3_init_16 (by decide) ?_
  refine v_onew (N := 6) (i := 0) C dX3_init_18 tw161 rfl rfl ra_I (by decide) (by decide) ⟨Nat.le_of_ble_eq_true rfl, Nat.le_of_ble_eq_true rfl⟩ hP hsz (by decide) hA hS (fun H hP hsz hkp hS => ?_)
  have hI0 := hI0.kept (fun q h _ => hkp q h)
  refine v_oset (k := 4) (ref := "CanvasRoom$Edition") (fs' := [.int 0, .null, .int 0, .ref (a + 1), .ref (a + 9), .int 0, .null, .int 0, .null, .int 0]) C gcl_4 dX3_init_20 (by decide) tw794 rfl (Or.inr ⟨rfl, hnm, rfl⟩) rfl rfl rfl rfl hP (Nat.le_refl a) hS (fun H locs hP hz hkp hS => ?_)
  have hI0 := hI0.ne hkp (by omega)
  have hsz : H.size = a + 10 := by rw [hz, hsz]
  refine lv_aload_n hx hb dX3_init_23 rfl (lv_at hl 0 rfl) ?_
  refine lv_sipush (v := nI 200) hx hb dX3_init_24 (by decide) ?_
  refine v_onew (N := 200) (i := 1) C dX3_init_27 tw824 rfl rfl ra_Z (by decide) (by decide) ⟨Nat.le_of_ble_eq_true rfl, Nat.le_of_ble_eq_true rfl⟩ hP hsz (by decide) hA hS (fun H hP hsz hkp hS => ?_)
  have hI0 := hI0.kept (fun q h _ => hkp q h)
  refine v_oset (k := 6) (ref := "CanvasRoom$Edition") (fs' := [.int 0, .null, .int 0, .ref (a + 1), .ref (a + 9), .int 0, .ref (a + 10), .int 0, .null, .int 0]) C gcl_4 dX3_init_29 (by decide) tw797 rfl (Or.inr ⟨rfl, hnm, rfl⟩) rfl rfl rfl rfl hP (Nat.le_refl a) hS (fun H locs hP hz hkp hS => ?_)
  have hI0 := hI0.ne hkp (by omega)
  have hsz : H.size = a + 11 := by rw [hz, hsz]
  refine lv_aload_n hx hb dX3_init_32 rfl (lv_at hl 0 rfl) ?_
  refine v_new (ci := 0) (fs := bl_Jx4a65c) (a := a + 11) C dX3_init_33 rfl rfl gcl0_in tyJx4a65c_ok ⟨tw785, tw94, tw62⟩ (fun j hj => by match j, hj with | 0, _ => rfl | 1, _ => rfl | 2, _ => rfl) ⟨Nat.le_of_ble_eq_true rfl, Nat.le_of_ble_eq_true rfl⟩ hsz (Nat.le_add_right a 11) hS (fun H hPn hsz hkp hS => ?_)
  have hP := hP.kept hkp
  have hI0 := hI0.kept (fun q h _ => hkp q h)
  refine lv_dup hx hb dX3_init_36 rfl ?_
  refine va_callv (va_runI (As := []) (rest := [.ref (a + 11), .ref a]) ⟨hx, hb, C.2.2.1.trans hxn, C.2.2.2.1, C.hts⟩ (k_Jx4a65c_init_da8c8 (a := a + 11)) ⟨g_callB (mc := 0) (ms := 0) C mt_Jx4a65c_init_da8c8 tw786 ⟨rfl, rfl, ⟨Nat.le_of_ble_eq_true rfl, Nat.le_of_ble_eq_true rfl⟩, ⟨Nat.le_of_ble_eq_true rfl, Nat.le_of_ble_eq_true rfl⟩⟩, rfl, C.ht tw96⟩ ⟨PK.blind, fun U hU hW => ⟨rfl, ⟨by rw [hU]; exact hsz, Nat.le_trans hB9 (Nat.le_add_right a _), by rw [hU]; exact hPn⟩, gE_go C.2.2.2.2.2.2.1 (hS.to9 hB9) hU hW⟩⟩ rfl rfl hl.1 rfl (lv_room (Nat.le_of_ble_eq_true rfl)) dX3_init_37 (by rw [hR]; exact ⟨Nat.le_of_ble_eq_true rfl, Nat.le_of_ble_eq_true rfl⟩)) hS (fun q _ h => Nat.le_trans (Nat.le_add_right a 11) h) (fun q h => Nat.le_trans (Nat.le_add_right a 11) h) (fun u t H1 locs1 ht hvm hr hB8 hz hkp1 hS1 => ?_)
  obtain ⟨hsz1, hI1⟩ := hB8
  rw [ht] at hsz1 hI1
  have hkp1 : ∀ q, q < a + 11 → H1[q]? = H[q]? := fun q h => hkp1 q (by rw [hsz]; omega) (Nat.not_le.mpr h)
  have hP := hP.low hkp1 (by omega) rfl
  have hI0 := hI0.lowB hkp1 (by omega)
  clear hS
  have hS := hS1
  have hsz : H1.size = a + 12 := by rw [hsz1]
  refine v_oset (k := 8) (ref := "CanvasRoom$Edition") (fs' := [.int 0, .null, .int 0, .ref (a + 1), .ref (a + 9), .int 0, .ref (a + 10), .int 0, .ref (a + 11), .int 0]) C gcl_4 dX3_init_40 (by decide) tw800 rfl (Or.inr ⟨rfl, hnm, rfl⟩) rfl rfl rfl rfl hP (Nat.le_refl a) hS (fun H locs hP hz hkp hS => ?_)
  have hI0 := hI0.ne hkp (by omega)
  have hI1 := hI1.ne hkp (by omega)
  have hsz : H.size = a + 12 := by rw [hz, hsz]
  refine lv_aload_n hx hb dX3_init_43 rfl (lv_at hl 0 rfl) ?_
  refine lv_iload_n hx hb dX3_init_44 rfl (lv_at hl 1 rfl) ?_
  refine v_oset (k := 0) (ref := "CanvasRoom$Edition") (fs' := [.int p0, .null, .int 0, .ref (a + 1), .ref (a + 9), .int 0, .ref (a + 10), .int 0, .ref (a + 11), .int 0]) C gcl_4 dX3_init_45 (by decide) tw787 rfl (Or.inr ⟨rfl, hnm, rfl⟩) rfl (vp_nar_int _) rfl rfl hP (Nat.le_refl a) hS (fun H locs hP hz hkp hS => ?_)
  have hI0 := hI0.ne hkp (by omega)
  have hI1 := hI1.ne hkp (by omega)
  have hsz : H.size = a + 12 := by rw [hz, hsz]
  refine lv_aload_n hx hb dX3_init_48 rfl (lv_at hl 0 rfl) ?_
  refine lv_aload_n hx hb dX3_init_49 rfl (lv_at hl 2 rfl) ?_
  refine v_oset (k := 1) (ref := "CanvasRoom$Edition") (fs' := [.int p0, .ref p1, .int 0, .ref (a + 1), .ref (a + 9), .int 0, .ref (a + 10), .int 0, .ref (a + 11), .int 0]) C gcl_4 dX3_init_50 (by decide) tw788 rfl (Or.inr ⟨rfl, hnm, rfl⟩) rfl rfl rfl rfl hP (Nat.le_refl a) hS (fun H locs hP hz hkp hS => ?_)
  have hI0 := hI0.ne hkp (by omega)
  have hI1 := hI1.ne hkp (by omega)
  have hsz : H.size = a + 12 := by rw [hz, hsz]
  refine lv_aload_n hx hb dX3_init_53 rfl (lv_at hl 0 rfl) ?_
  refine lv_iload_n hx hb dX3_init_54 rfl (lv_at hl 3 rfl) ?_
  refine v_oset (k := 2) (ref := "CanvasRoom$Edition") (fs' := [.int p0, .ref p1, .int p2, .ref (a + 1), .ref (a + 9), .int 0, .ref (a + 10), .int 0, .ref (a + 11), .int 0]) C gcl_4 dX3_init_55 (by decide) tw790 rfl (Or.inr ⟨rfl, hnm, rfl⟩) rfl (vp_nar_int _) rfl rfl hP (Nat.le_refl a) hS (fun H locs hP hz hkp hS => ?_)
  have hI0 := hI0.ne hkp (by omega)
  have hI1 := hI1.ne hkp (by omega)
  have hsz : H.size = a + 12 := by rw [hz, hsz]
  have hF : PF (xY X) 4 a (ed0 a p0 p1 p2) H := hP.full rfl (fun k q h h3 => by
    have hk : k < 10 := (List.getElem?_eq_some_iff.mp h).1
    match k, hk, h with
    | 0, _, h => cases h; exact absurd h3 (by decide)
    | 1, _, h => cases h; exact absurd h3 (by decide)
    | 2, _, h => cases h; exact absurd h3 (by decide)
    | 3, _, h => cases h; exact absurd h3 (by decide)
    | 4, _, h => cases h; exact List.mem_of_getElem? (i := 0) rfl
    | 5, _, h => cases h; exact absurd h3 (by decide)
    | 6, _, h => cases h; exact List.mem_of_getElem? (i := 1) rfl
    | 7, _, h => cases h; exact absurd h3 (by decide)
    | 8, _, h => cases h; exact absurd h3 (by decide)
    | 9, _, h => cases h; exact absurd h3 (by decide))
  rw [gV, hQ]
  exact W.widen (Nat.le_of_ble_eq_true rfl) (Nat.le_of_ble_eq_true rfl) (W.vret hx hb C.2.2.2.2.1 (fun t ht hW => ⟨⟨(), rfl, True.intro, by show t.heap.size = _ ∧ _; rw [ht]; exact ⟨hsz, hF, hI0, hI1⟩⟩, hS.F ht⟩) hS.2.2 dX3_init_58 C.2.2.2.2.2.1)
def croom0 (a : Nat) : FO := sR (sR (sR (sR (sR (sR fo0 0 (a + 1)) 1 (a + 2)) 2 (a + 3)) 3 (a + 4)) 4 (a + 5)) 5 (a + 13)
def rm_X7_init : Room := { frames := 5, cells := 30, slots := 700, locals := 160 }
theorem mt_X7_init : gMt yX7_init cX7_init 1 none 0 := ⟨tw89, tw59, by decide +kernel, by decide +kernel, by decide +kernel⟩
abbrev bl_X7 : List Value := [.null, .null, .null, .null, .null, .null, .long 0, .null, .null, .null, .int 0]
set_option maxHeartbeats 8000000 in
set_option maxRecDepth 100000 in
theorem k_X7_init {Y : gWx} {a : Nat} : Met (yl Y) yX7_init [Cond.code yX7_init cX7_init 1 none] rm_X7_init (va_Pc [.ref a] (fun U => PK Y 8 a bl_X7 U ∧ yE Y U)) (va_Qv (S := Unit) (fun _ => True) (fun _ t => t.heap.size = a + 24 ∧ PF Y 8 a (croom0 a) t.heap ∧ PL Y (a + 1) t.heap ∧ PL Y (a + 2) t.heap ∧ PL Y (a + 3) t.heap ∧ PL Y (a + 4) t.heap ∧ PF Y 2 (a + 5) fo0 t.heap ∧ PF Y 2 (a + 13) fo0 t.heap) (fun q => a ≤ q)) 30 700 (fun q => a ≤ q) := by
  refine gm_ofQ (P := fun U => PK Y 8 a bl_X7 U) rfl (Nat.le_of_ble_eq_true rfl) ?_
  intro X hY hxn C hQ hP hnm ls hl
  subst hY
  obtain ⟨hsz, hB9, hP⟩ := hP
  have C : gC X cX7_init RX7 none rm_X7_init := C
  have hl : lv_has ls 1 [(0, .ref a)] := hl
  have hx := C.1
  have hb := C.2.1
  have hR := C.2.2.2.2.2.2.2
  have hS : va_S (fun q => a ≤ q) (xs X).heap (xs X).heap [] := va_S.rf
  have hA : ∀ q, a ≤ q → (fun q => a ≤ q) q := fun _ h => h
  refine lv_aload_n hx hb dX7_init_0 rfl (lv_at hl 0 rfl) ?_
  refine W.objInit hx hb C.2.2.2.1 (C.ht tw90) (C.ht tw91) (C.ht tw92) rfl (by rw [C.2.2.1]; exact hl.1.trans hxn.symm) rfl dX7_init_1 (by rw [hR]; exact Nat.le_of_ble_eq_true rfl) (by rw [hR]; exact Nat.le_of_ble_eq_true rfl) ?_
  refine W.eq (g2 := F0 (xm X) 4 ls []) rfl ?_
  refine lv_aload_n hx hb dX7_init_4 rfl (lv_at hl 0 rfl) ?_
  refine v_new (ci := 0) (fs := bl_Jx4a65c) (a := a + 1) C dX7_init_5 rfl rfl gcl0_in tyJx4a65c_ok ⟨tw93, tw94, tw62⟩ (fun j hj => by match j, hj with | 0, _ => rfl | 1, _ => rfl | 2, _ => rfl) ⟨Nat.le_of_ble_eq_true rfl, Nat.le_of_ble_eq_true rfl⟩ hsz (Nat.le_add_right a 1) hS (fun H hPn hsz hkp hS => ?_)
  have hP := hP.kept hkp
  refine lv_dup hx hb dX7_init_8 rfl ?_
  refine va_callv (va_runI (As := []) (rest := [.ref (a + 1), .ref a]) ⟨hx, hb, C.2.2.1.trans hxn, C.2.2.2.1, C.hts⟩ (k_Jx4a65c_init_da8c8 (a := a + 1)) ⟨g_callB (mc := 0) (ms := 0) C mt_Jx4a65c_init_da8c8 tw95 ⟨rfl, rfl, ⟨Nat.le_of_ble_eq_true rfl, Nat.le_of_ble_eq_true rfl⟩, ⟨Nat.le_of_ble_eq_true rfl, Nat.le_of_ble_eq_true rfl⟩⟩, rfl, C.ht tw96⟩ ⟨PK.blind, fun U hU hW => ⟨rfl, ⟨by rw [hU]; exact hsz, Nat.le_trans hB9 (Nat.le_add_right a _), by rw [hU]; exact hPn⟩, gE_go C.2.2.2.2.2.2.1 (hS.to9 hB9) hU hW⟩⟩ rfl rfl hl.1 rfl (lv_room (Nat.le_of_ble_eq_true rfl)) dX7_init_9 (by rw [hR]; exact ⟨Nat.le_of_ble_eq_true rfl, Nat.le_of_ble_eq_true rfl⟩)) hS (fun q _ h => Nat.le_trans (Nat.le_add_right a 1) h) (fun q h => Nat.le_trans (Nat.le_add_right a 1) h) (fun u t H1 locs1 ht hvm hr hB8 hz hkp1 hS1 => ?_)
  obtain ⟨hsz1, hI0⟩ := hB8
  rw [ht] at hsz1 hI0
  have hkp1 : ∀ q, q < a + 1 → H1[q]? = H[q]? := fun q h => hkp1 q (by rw [hsz]; omega) (Nat.not_le.mpr h)
  have hP := hP.low hkp1 (by omega) rfl
  clear hS
  have hS := hS1
  have hsz : H1.size = a + 2 := by rw [hsz1]
  refine v_oset (k := 0) (ref := "CanvasRoom") (fs' := [.ref (a + 1), .null, .null, .null, .null, .null, .long 0, .null, .null, .null, .int 0]) C gcl_8 dX7_init_12 (by decide) tw163 rfl (Or.inr ⟨rfl, hnm, rfl⟩) rfl rfl rfl rfl hP (Nat.le_refl a) hS (fun H locs hP hz hkp hS => ?_)
  have hI0 := hI0.ne hkp (by omega)
  have hsz : H.size = a + 2 := by rw [hz, hsz]
  refine lv_aload_n hx hb dX7_init_15 rfl (lv_at hl 0 rfl) ?_
  refine v_new (ci := 0) (fs := bl_Jx4a65c) (a := a + 2) C dX7_init_16 rfl rfl gcl0_in tyJx4a65c_ok ⟨tw93, tw94, tw62⟩ (fun j hj => by match j, hj with | 0, _ => rfl | 1, _ => rfl | 2, _ => rfl) ⟨Nat.le_of_ble_eq_true rfl, Nat.le_of_ble_eq_true rfl⟩ hsz (Nat.le_add_right a 2) hS (fun H hPn hsz hkp hS => ?_)
  have hP := hP.kept hkp
  have hI0 := hI0.kept (fun q h _ => hkp q h)
  refine lv_dup hx hb dX7_init_19 rfl ?_
  refine va_callv (va_runI (As := []) (rest := [.ref (a + 2), .ref a]) ⟨hx, hb, C.2.2.1.trans hxn, C.2.2.2.1, C.hts⟩ (k_Jx4a65c_init_da8c8 (a := a + 2)) ⟨g_callB (mc := 0) (ms := 0) C mt_Jx4a65c_init_da8c8 tw95 ⟨rfl, rfl, ⟨Nat.le_of_ble_eq_true rfl, Nat.le_of_ble_eq_true rfl⟩, ⟨Nat.le_of_ble_eq_true rfl, Nat.le_of_ble_eq_true rfl⟩⟩, rfl, C.ht tw96⟩ ⟨PK.blind, fun U hU hW => ⟨rfl, ⟨by rw [hU]; exact hsz, Nat.le_trans hB9 (Nat.le_add_right a _), by rw [hU]; exact hPn⟩, gE_go C.2.2.2.2.2.2.1 (hS.to9 hB9) hU hW⟩⟩ rfl rfl hl.1 rfl (lv_room (Nat.le_of_ble_eq_true rfl)) dX7_init_20 (by rw [hR]; exact ⟨Nat.le_of_ble_eq_true rfl, Nat.le_of_ble_eq_true rfl⟩)) hS (fun q _ h => Nat.le_trans (Nat.le_add_right a 2) h) (fun q h => Nat.le_trans (Nat.le_add_right a 2) h) (fun u t H1 locs1 ht hvm hr hB8 hz hkp1 hS1 => ?_)
  obtain ⟨hsz1, hI1⟩ := hB8
  rw [ht] at hsz1 hI1
  have hkp1 : ∀ q, q < a + 2 → H1[q]? = H[q]? := fun q h => hkp1 q (by rw [hsz]; omega) (Nat.not_le.mpr h)
  have hP := hP.low hkp1 (by omega) rfl
  have hI0 := hI0.low hkp1 (by omega)
  clear hS
  have hS := hS1
  have hsz : H1.size = a + 3 := by rw [hsz1]
  refine v_oset (k := 1) (ref := "CanvasRoom") (fs' := [.ref (a + 1), .ref (a + 2), .null, .null, .null, .null, .long 0, .null, .null, .null, .int 0]) C gcl_8 dX7_init_23 (by decide) tw164 rfl (Or.inr ⟨rfl, hnm, rfl⟩) rfl rfl rfl rfl hP (Nat.le_refl a) hS (fun H locs hP hz hkp hS => ?_)
  have hI0 := hI0.ne hkp (by omega)
  have hI1 := hI1.ne hkp (by omega)
  have hsz : H.size = a + 3 := by rw [hz, hsz]
  refine lv_aload_n hx hb dX7_init_26 rfl (lv_at hl 0 rfl) ?_
  refine v_new (ci := 0) (fs := bl_Jx4a65c) (a := a + 3) C dX7_init_27 rfl rfl gcl0_in tyJx4a65c_ok ⟨tw93, tw94, tw62⟩ (fun j hj => by match j, hj with | 0, _ => rfl | 1, _ => rfl | 2, _ => rfl) ⟨Nat.le_of_ble_eq_true rfl, Nat.le_of_ble_eq_true rfl⟩ hsz (Nat.le_add_right a 3) hS (fun H hPn hsz hkp hS => ?_)
  have hP := hP.kept hkp
  have hI0 := hI0.kept (fun q h _ => hkp q h)
  have hI1 := hI1.kept (fun q h _ => hkp q h)
  refine lv_dup hx hb dX7_init_30 rfl ?_
  refine va_callv (va_runI (As := []) (rest := [.ref (a + 3), .ref a]) ⟨hx, hb, C.2.2.1.trans hxn, C.2.2.2.1, C.hts⟩ (k_Jx4a65c_init_da8c8 (a := a + 3)) ⟨g_callB (mc := 0) (ms := 0) C mt_Jx4a65c_init_da8c8 tw95 ⟨rfl, rfl, ⟨Nat.le_of_ble_eq_true rfl, Nat.le_of_ble_eq_true rfl⟩, ⟨Nat.le_of_ble_eq_true rfl, Nat.le_of_ble_eq_true rfl⟩⟩, rfl, C.ht tw96⟩ ⟨PK.blind, fun U hU hW => ⟨rfl, ⟨by rw [hU]; exact hsz, Nat.le_trans hB9 (Nat.le_add_right a _), by rw [hU]; exact hPn⟩, gE_go C.2.2.2.2.2.2.1 (hS.to9 hB9) hU hW⟩⟩ rfl rfl hl.1 rfl (lv_room (Nat.le_of_ble_eq_true rfl)) dX7_init_31 (by rw [hR]; exact ⟨Nat.le_of_ble_eq_true rfl, Nat.le_of_ble_eq_true rfl⟩)) hS (fun q _ h => Nat.le_trans (Nat.le_add_right a 3) h) (fun q h => Nat.le_trans (Nat.le_add_right a 3) h) (fun u t H1 locs1 ht hvm hr hB8 hz hkp1 hS1 => ?_)
  obtain ⟨hsz1, hI2⟩ := hB8
  rw [ht] at hsz1 hI2
  have hkp1 : ∀ q, q < a + 3 → H1[q]? = H[q]? := fun q h => hkp1 q (by rw [hsz]; omega) (Nat.not_le.mpr h)
  have hP := hP.low hkp1 (by omega) rfl
  have hI0 := hI0.low hkp1 (by omega)
  have hI1 := hI1.low hkp1 (by omega)
  clear hS
  have hS := hS1
  have hsz : H1.size = a + 4 := by rw [hsz1]
  refine v_oset (k := 2) (ref := "CanvasRoom") (fs' := [.ref (a + 1), .ref (a + 2), .ref (a + 3), .null, .null, .null, .long 0, .null, .null, .null, .int 0]) C gcl_8 dX7_init_34 (by decide) tw165 rfl (Or.inr ⟨rfl, hnm, rfl⟩) rfl rfl rfl rfl hP (Nat.le_refl a) hS (fun H locs hP hz hkp hS => ?_)
  have hI0 := hI0.ne hkp (by omega)
  have hI1 := hI1.ne hkp (by omega)
  have hI2 := hI2.ne hkp (by omega)
  have hsz : H.size = a + 4 := by rw [hz, hsz]
  refine lv_aload_n hx hb dX7_init_37 rfl (lv_at hl 0 rfl) ?_
  refine v_new (ci := 0) (fs := bl_Jx4a65c) (a := a + 4) C dX7_init_38 rfl rfl gcl0_in tyJx4a65c_ok ⟨tw93, tw94, tw62⟩ (fun j hj => by match j, hj with | 0, _ => rfl | 1, _ => rfl | 2, _ => rfl) ⟨Nat.le_of_ble_eq_true rfl, Nat.le_of_ble_eq_true rfl⟩ hsz (Nat.le_add_right a 4) hS (fun H hPn hsz hkp hS => ?_)
  have hP := hP.kept hkp
  have hI0 := hI0.kept (fun q h _ => hkp q h)
  have hI1 := hI1.kept (fun q h _ => hkp q h)
  have hI2 := hI2.kept (fun q h _ => hkp q h)
  refine lv_dup hx hb dX7_init_41 rfl ?_
  refine va_callv (va_runI (As := []) (rest := [.ref (a + 4), .ref a]) ⟨hx, hb, C.2.2.1.trans hxn, C.2.2.2.1, C.hts⟩ (k_Jx4a65c_init_da8c8 (a := a + 4)) ⟨g_callB (mc := 0) (ms := 0) C mt_Jx4a65c_init_da8c8 tw95 ⟨rfl, rfl, ⟨Nat.le_of_ble_eq_true rfl, Nat.le_of_ble_eq_true rfl⟩, ⟨Nat.le_of_ble_eq_true rfl, Nat.le_of_ble_eq_true rfl⟩⟩, rfl, C.ht tw96⟩ ⟨PK.blind, fun U hU hW => ⟨rfl, ⟨by rw [hU]; exact hsz, Nat.le_trans hB9 (Nat.le_add_right a _), by rw [hU]; exact hPn⟩, gE_go C.2.2.2.2.2.2.1 (hS.to9 hB9) hU hW⟩⟩ rfl rfl hl.1 rfl (lv_room (Nat.le_of_ble_eq_true rfl)) dX7_init_42 (by rw [hR]; exact ⟨Nat.le_of_ble_eq_true rfl, Nat.le_of_ble_eq_true rfl⟩)) hS (fun q _ h => Nat.le_trans (Nat.le_add_right a 4) h) (fun q h => Nat.le_trans (Nat.le_add_right a 4) h) (fun u t H1 locs1 ht hvm hr hB8 hz hkp1 hS1 => ?_)
  obtain ⟨hsz1, hI3⟩ := hB8
  rw [ht] at hsz1 hI3
  have hkp1 : ∀ q, q < a + 4 → H1[q]? = H[q]? := fun q h => hkp1 q (by rw [hsz]; omega) (Nat.not_le.mpr h)
  have hP := hP.low hkp1 (by omega) rfl
  have hI0 := hI0.low hkp1 (by omega)
  have hI1 := hI1.low hkp1 (by omega)
  have hI2 := hI2.low hkp1 (by omega)
  clear hS
  have hS := hS1
  have hsz : H1.size = a + 5 := by rw [hsz1]
  refine v_oset (k := 3) (ref := "CanvasRoom") (fs' := [.ref (a + 1), .ref (a + 2), .ref (a + 3), .ref (a + 4), .null, .null, .long 0, .null, .null, .null, .int 0]) C gcl_8 dX7_init_45 (by decide) tw166 rfl (Or.inr ⟨rfl, hnm, rfl⟩) rfl rfl rfl rfl hP (Nat.le_refl a) hS (fun H locs hP hz hkp hS => ?_)
  have hI0 := hI0.ne hkp (by omega)
  have hI1 := hI1.ne hkp (by omega)
  have hI2 := hI2.ne hkp (by omega)
  have hI3 := hI3.ne hkp (by omega)
  have hsz : H.size = a + 5 := by rw [hz, hsz]
  refine lv_aload_n hx hb dX7_init_48 rfl (lv_at hl 0 rfl) ?_
  refine v_new (ci := 2) (fs := bl_X1) (a := a + 5) C dX7_init_49 rfl rfl gcl_2.2.2.1 (by exact tyX1_ok) ⟨tw119, tw120, tw63⟩ (fun j hj => by match j, hj with | 0, _ => rfl | 1, _ => rfl | 2, _ => rfl | 3, _ => rfl | 4, _ => rfl | 5, _ => rfl | 6, _ => rfl | 7, _ => rfl | 8, _ => rfl | 9, _ => rfl) ⟨Nat.le_of_ble_eq_true rfl, Nat.le_of_ble_eq_true rfl⟩ hsz (Nat.le_add_right a 5) hS (fun H hPn hsz hkp hS => ?_)
  have hP := hP.kept hkp
  have hI0 := hI0.kept (fun q h _ => hkp q h)
  have hI1 := hI1.kept (fun q h _ => hkp q h)
  have hI2 := hI2.kept (fun q h _ => hkp q h)
  have hI3 := hI3.kept (fun q h _ => hkp q h)
  refine lv_dup hx hb dX7_init_52 rfl ?_
  refine va_callv (va_runIN (As := []) (rest := [.ref (a + 5), .ref a]) ⟨hx, hb, C.2.2.1.trans hxn, C.2.2.2.1, C.hts⟩ (k_X1_init (a := a + 5)) ⟨g_callN (mc := 0) (ms := 0) C mt_X1_init tw121 ⟨rfl, rfl, ⟨Nat.le_of_ble_eq_true rfl, Nat.le_of_ble_eq_true rfl⟩, ⟨Nat.le_of_ble_eq_true rfl, Nat.le_of_ble_eq_true rfl⟩⟩, rfl, C.ht tw122⟩ ⟨PK.blind, fun U hU hW => ⟨rfl, ⟨by rw [hU]; exact hsz, Nat.le_trans hB9 (Nat.le_add_right a _), by rw [hU]; exact hPn⟩, gE_go C.2.2.2.2.2.2.1 (hS.to9 hB9) hU hW⟩⟩ rfl rfl hl.1 rfl (lv_room (Nat.le_of_ble_eq_true rfl)) dX7_init_53 (by rw [hR]; exact ⟨Nat.le_of_ble_eq_true rfl, Nat.le_of_ble_eq_true rfl⟩)) hS (fun q _ h => Nat.le_trans (Nat.le_add_right a 5) h) (fun q h => Nat.le_trans (Nat.le_add_right a 5) h) (fun u t H1 locs1 ht hvm hr hB8 hz hkp1 hS1 => ?_)
  obtain ⟨hsz1, hI4⟩ := hB8
  rw [ht] at hsz1 hI4
  have hkp1 : ∀ q, q < a + 5 → H1[q]? = H[q]? := fun q h => hkp1 q (by rw [hsz]; omega) (Nat.not_le.mpr h)
  have hP := hP.low hkp1 (by omega) rfl
  have hI0 := hI0.low hkp1 (by omega)
  have hI1 := hI1.low hkp1 (by omega)
  have hI2 := hI2.low hkp1 (by omega)
  have hI3 := hI3.low hkp1 (by omega)
  clear hS
  have hS := hS1
  have hsz : H1.size = a + 13 := by rw [hsz1]
  refine v_oset (k := 4) (ref := "CanvasRoom") (fs' := [.ref (a + 1), .ref (a + 2), .ref (a + 3), .ref (a + 4), .ref (a + 5), .null, .long 0, .null, .null, .null, .int 0]) C gcl_8 dX7_init_56 (by decide) tw167 rfl (Or.inr ⟨rfl, hnm, rfl⟩) rfl rfl rfl rfl hP (Nat.le_refl a) hS (fun H locs hP hz hkp hS => ?_)
  have hI0 := hI0.ne hkp (by omega)
  have hI1 := hI1.ne hkp (by omega)
  have hI2 := hI2.ne hkp (by omega)
  have hI3 := hI3.ne hkp (by omega)
  have hI4 := hI4.ne hkp (by omega)
  have hsz : H.size = a + 13 := by rw [hz, hsz]
  refine lv_aload_n hx hb dX7_init_59 rfl (lv_at hl 0 rfl) ?_
  refine v_new (ci := 2) (fs := bl_X1) (a := a + 13) C dX7_init_60 rfl rfl gcl_2.2.2.1 (by exact tyX1_ok) ⟨tw119, tw120, tw63⟩ (fun j hj => by match j, hj with | 0, _ => rfl | 1, _ => rfl | 2, _ => rfl | 3, _ => rfl | 4, _ => rfl | 5, _ => rfl | 6, _ => rfl | 7, _ => rfl | 8, _ => rfl | 9, _ => rfl) ⟨Nat.le_of_ble_eq_true rfl, Nat.le_of_ble_eq_true rfl⟩ hsz (Nat.le_add_right a 13) hS (fun H hPn hsz hkp hS => ?_)
  have hP := hP.kept hkp
  have hI0 := hI0.kept (fun q h _ => hkp q h)
  have hI1 := hI1.kept (fun q h _ => hkp q h)
  have hI2 := hI2.kept (fun q h _ => hkp q h)
  have hI3 := hI3.kept (fun q h _ => hkp q h)
  have hI4 := hI4.kept (fun q h _ => hkp q h)
  refine lv_dup hx hb dX7_init_63 rfl ?_
  refine va_callv (va_runIN (As := []) (rest := [.ref (a + 13), .ref a]) ⟨hx, hb, C.2.2.1.trans hxn, C.2.2.2.1, C.hts⟩ (k_X1_init (a := a + 13)) ⟨g_callN (mc := 0) (ms := 0) C mt_X1_init tw121 ⟨rfl, rfl, ⟨Nat.le_of_ble_eq_true rfl, Nat.le_of_ble_eq_true rfl⟩, ⟨Nat.le_of_ble_eq_true rfl, Nat.le_of_ble_eq_true rfl⟩⟩, rfl, C.ht tw122⟩ ⟨PK.blind, fun U hU hW => ⟨rfl, ⟨by rw [hU]; exact hsz, Nat.le_trans hB9 (Nat.le_add_right a _), by rw [hU]; exact hPn⟩, gE_go C.2.2.2.2.2.2.1 (hS.to9 hB9) hU hW⟩⟩ rfl rfl hl.1 rfl (lv_room (Nat.le_of_ble_eq_true rfl)) dX7_init_64 (by rw [hR]; exact ⟨Nat.le_of_ble_eq_true rfl, Nat.le_of_ble_eq_true rfl⟩)) hS (fun q _ h => Nat.le_trans (Nat.le_add_right a 13) h) (fun q h => Nat.le_trans (Nat.le_add_right a 13) h) (fun u t H1 locs1 ht hvm hr hB8 hz hkp1 hS1 => ?_)
  obtain ⟨hsz1, hI5⟩ := hB8
  rw [ht] at hsz1 hI5
  have hkp1 : ∀ q, q < a + 13 → H1[q]? = H[q]? := fun q h => hkp1 q (by rw [hsz]; omega) (Nat.not_le.mpr h)
  have hP := hP.low hkp1 (by omega) rfl
  have hI0 := hI0.low hkp1 (by omega)
  have hI1 := hI1.low hkp1 (by omega)
  have hI2 := hI2.low hkp1 (by omega)
  have hI3 := hI3.low hkp1 (by omega)
  have hI4 := hI4.lowB hkp1 (by omega)
  clear hS
  have hS := hS1
  have hsz : H1.size = a + 21 := by rw [hsz1]
  refine v_oset (k := 5) (ref := "CanvasRoom") (fs' := [.ref (a + 1), .ref (a + 2), .ref (a + 3), .ref (a + 4), .ref (a + 5), .ref (a + 13), .long 0, .null, .null, .null, .int 0]) C gcl_8 dX7_init_67 (by decide) tw168 rfl (Or.inr ⟨rfl, hnm, rfl⟩) rfl rfl rfl rfl hP (Nat.le_refl a) hS (fun H locs hP hz hkp hS => ?_)
  have hI0 := hI0.ne hkp (by omega)
  have hI1 := hI1.ne hkp (by omega)
  have hI2 := hI2.ne hkp (by omega)
  have hI3 := hI3.ne hkp (by omega)
  have hI4 := hI4.ne hkp (by omega)
  have hI5 := hI5.ne hkp (by omega)
  have hsz : H.size = a + 21 := by rw [hz, hsz]
  refine lv_aload_n hx hb dX7_init_70 rfl (lv_at hl 0 rfl) ?_
  refine lv_bipush (v := nI 6) hx hb dX7_init_71 (by decide) ?_
  refine v_onew (N := 6) (i := 0) C dX7_init_73 tw161 rfl rfl ra_I (by decide) (by decide) ⟨Nat.le_of_ble_eq_true rfl, Nat.le_of_ble_eq_true rfl⟩ hP hsz (by decide) hA hS (fun H hP hsz hkp hS => ?_)
  have hI0 := hI0.kept (fun q h _ => hkp q h)
  have hI1 := hI1.kept (fun q h _ => hkp q h)
  have hI2 := hI2.kept (fun q h _ => hkp q h)
  have hI3 := hI3.kept (fun q h _ => hkp q h)
  have hI4 := hI4.kept (fun q h _ => hkp q h)
  have hI5 := hI5.kept (fun q h _ => hkp q h)
  refine v_oset (k := 7) (ref := "CanvasRoom") (fs' := [.ref (a + 1), .ref (a + 2), .ref (a + 3), .ref (a + 4), .ref (a + 5), .ref (a + 13), .long 0, .ref (a + 21), .null, .null, .int 0]) C gcl_8 dX7_init_75 (by decide) tw170 rfl (Or.inr ⟨rfl, hnm, rfl⟩) rfl rfl rfl rfl hP (Nat.le_refl a) hS (fun H locs hP hz hkp hS => ?_)
  have hI0 := hI0.ne hkp (by omega)
  have hI1 := hI1.ne hkp (by omega)
  have hI2 := hI2.ne hkp (by omega)
  have hI3 := hI3.ne hkp (by omega)
  have hI4 := hI4.ne hkp (by omega)
  have hI5 := hI5.ne hkp (by omega)
  have hsz : H.size = a + 22 := by rw [hz, hsz]
  refine lv_aload_n hx hb dX7_init_78 rfl (lv_at hl 0 rfl) ?_
  refine lv_bipush (v := nI 6) hx hb dX7_init_79 (by decide) ?_
  refine v_onew (N := 6) (i := 0) C dX7_init_81 tw161 rfl rfl ra_I (by decide) (by decide) ⟨Nat.le_of_ble_eq_true rfl, Nat.le_of_ble_eq_true rfl⟩ hP hsz (by decide) hA hS (fun H hP hsz hkp hS => ?_)
  have hI0 := hI0.kept (fun q h _ => hkp q h)
  have hI1 := hI1.kept (fun q h _ => hkp q h)
  have hI2 := hI2.kept (fun q h _ => hkp q h)
  have hI3 := hI3.kept (fun q h _ => hkp q h)
  have hI4 := hI4.kept (fun q h _ => hkp q h)
  have hI5 := hI5.kept (fun q h _ => hkp q h)
  refine v_oset (k := 8) (ref := "CanvasRoom") (fs' := [.ref (a + 1), .ref (a + 2), .ref (a + 3), .ref (a + 4), .ref (a + 5), .ref (a + 13), .long 0, .ref (a + 21), .ref (a + 22), .null, .int 0]) C gcl_8 dX7_init_83 (by decide) tw171 rfl (Or.inr ⟨rfl, hnm, rfl⟩) rfl rfl rfl rfl hP (Nat.le_refl a) hS (fun H locs hP hz hkp hS => ?_)
  have hI0 := hI0.ne hkp (by omega)
  have hI1 := hI1.ne hkp (by omega)
  have hI2 := hI2.ne hkp (by omega)
  have hI3 := hI3.ne hkp (by omega)
  have hI4 := hI4.ne hkp (by omega)
  have hI5 := hI5.ne hkp (by omega)
  have hsz : H.size = a + 23 := by rw [hz, hsz]
  refine lv_aload_n hx hb dX7_init_86 rfl (lv_at hl 0 rfl) ?_
  refine lv_bipush (v := nI 8) hx hb dX7_init_87 (by decide) ?_
  refine v_onew (N := 8) (i := 0) C dX7_init_89 tw161 rfl rfl ra_I (by decide) (by decide) ⟨Nat.le_of_ble_eq_true rfl, Nat.le_of_ble_eq_true rfl⟩ hP hsz (by decide) hA hS (fun H hP hsz hkp hS => ?_)
  have hI0 := hI0.kept (fun q h _ => hkp q h)
  have hI1 := hI1.kept (fun q h _ => hkp q h)
  have hI2 := hI2.kept (fun q h _ => hkp q h)
  have hI3 := hI3.kept (fun q h _ => hkp q h)
  have hI4 := hI4.kept (fun q h _ => hkp q h)
  have hI5 := hI5.kept (fun q h _ => hkp q h)
  refine v_oset (k := 9) (ref := "CanvasRoom") (fs' := [.ref (a + 1), .ref (a + 2), .ref (a + 3), .ref (a + 4), .ref (a + 5), .ref (a + 13), .long 0, .ref (a + 21), .ref (a + 22), .ref (a + 23), .int 0]) C gcl_8 dX7_init_91 (by decide) tw172 rfl (Or.inr ⟨rfl, hnm, rfl⟩) rfl rfl rfl rfl hP (Nat.le_refl a) hS (fun H locs hP hz hkp hS => ?_)
  have hI0 := hI0.ne hkp (by omega)
  have hI1 := hI1.ne hkp (by omega)
  have hI2 := hI2.ne hkp (by omega)
  have hI3 := hI3.ne hkp (by omega)
  have hI4 := hI4.ne hkp (by omega)
  have hI5 := hI5.ne hkp (by omega)
  have hsz : H.size = a + 24 := by rw [hz, hsz]
  have hF : PF (xY X) 8 a (croom0 a) H := hP.full rfl (fun k q h h3 => by
    have hk : k < 11 := (List.getElem?_eq_some_iff.mp h).1
    match k, hk, h with
    | 0, _, h => cases h; exact absurd h3 (by decide)
    | 1, _, h => cases h; exact absurd h3 (by decide)
    | 2, _, h => cases h; exact absurd h3 (by decide)
    | 3, _, h => cases h; exact absurd h3 (by decide)
    | 4, _, h => cases h; exact absurd h3 (by decide)
    | 5, _, h => cases h; exact absurd h3 (by decide)
    | 6, _, h => cases h; exact absurd h3 (by decide)
    | 7, _, h => cases h; exact List.mem_of_getElem? (i := 0) rfl
    | 8, _, h => cases h; exact List.mem_of_getElem? (i := 1) rfl
    | 9, _, h => cases h; exact List.mem_of_getElem? (i := 2) rfl
    | 10, _, h => cases h; exact absurd h3 (by decide))
  rw [gV, hQ]
  exact W.widen (Nat.le_of_ble_eq_true rfl) (Nat.le_of_ble_eq_true rfl) (W.vret hx hb C.2.2.2.2.1 (fun t ht hW => ⟨⟨(), rfl, True.intro, by show t.heap.size = _ ∧ _; rw [ht]; exact ⟨hsz, hF, hI0, hI1, hI2, hI3, hI4, hI5⟩⟩, hS.F ht⟩) hS.2.2 dX7_init_94 C.2.2.2.2.2.1)
