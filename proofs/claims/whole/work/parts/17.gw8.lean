section GENDS2
variable {X : gCx} {cc : ByteArray} {own : String} {ret : Option FieldType} {rm : Room} {mc ms pc mcT msT : Nat} {loc : List (Nat × Value)} {stk : List Value} {h : GH} {px : String → GH → Prop}
/-- throw new E("text") -/
theorem r_throwW {Qc : Array Value → State → Outcome → State → Prop} {E text : String} {names : List String} {ik is ic : Nat} (C : gC X cc own ret rm) (hQ : gRex X Qc px mcT msT) (hl : (yl (xY X)).stackTraces = false) (hno : ∀ x ∈ (xc X).exceptionTable.toList, covers x (pc + 10) = false)
    (hcls : Bundle.fit E = true) (hnames : ∀ n ∈ names, Bundle.fit n = true) (hk : Cond.classLink own ik E ∈ TW) (hini : Cond.initialized E ∈ TW) (hstr : (own, is, text) ∈ g_strs) (hat : ∀ w ∈ vx_atS own ic E names, w ∈ TW)
    (hgood : ∀ w ∈ Cond.classLink own ik E :: Cond.initialized E :: vx_atS own ic E names, vx_ot w = true)
    (d0 : decode cc pc = .ok (.new ik, 3)) (d3 : decode cc (pc + 3) = .ok (.dup, 1)) (d4 : decode cc (pc + 4) = .ok (.ldc_w is, 3)) (d7 : decode cc (pc + 7) = .ok (.invokespecial ic, 3)) (d10 : decode cc (pc + 10) = .ok (.athrow, 1))
    (hR : names.length + 3 < rm.frames ∧ (stk.map fun v => v.category).sum + (13 * (names.length + 1) + 43) ≤ rm.locals ∧ mc + 1 ≤ rm.cells ∧ ms + 6 ≤ rm.slots) (hc : mc + 1 ≤ mcT ∧ ms + 6 ≤ msT) (hp : px E h) : gX X mc ms pc loc stk h := fun H locs ls hS hG hl0 => by
  have hE := C.2.2.2.2.2.2.1
  have hRm := C.2.2.2.2.2.2.2
  obtain ⟨e1, e2, e3, e4, e5, -⟩ := hE
  obtain ⟨sa, hsa⟩ := e3 _ hstr
  unfold gRex at hQ
  rw [gV, hQ]
  refine vx_throwSW C.1 C.2.1 hl C.2.2.2.1 hcls hnames (C.ht hk) (C.ht hini) hsa (fun w hw => C.ht (hat w hw)) hgood e4 e5 hS (hl0.1.trans C.2.2.1.symm) d0 d3 d4 d7 d10 hno (by rw [hRm]; exact hR.1) (by rw [hRm]; exact hR.2.1) (by rw [hRm]; exact hR.2.2.1) (by rw [hRm]; exact hR.2.2.2) C.2.2.2.2.2.1 (fun t hvm hz hk => ?_) hS.2.2 hc.1 hc.2
  obtain ⟨tag, hG⟩ := hG
  exact ⟨(E, h), hp, ⟨rfl, tag, hG.kept fun q hq => ⟨hk q hq, rfl⟩⟩, ⟨Nat.le_trans hS.1 hz, fun q h1 h2 => (hk q (Nat.lt_of_lt_of_le h1 hS.1)).trans (hS.2.1 q h1 h2)⟩⟩
theorem r_mmax (C : gC X cc own ret rm) {ix : Nat} {x y : Int32} (hd : decode cc pc = .ok (.invokestatic ix, 3)) (h1 : Cond.methodLink own ix Lib.Math.max.name ∈ TW) (h2 : Cond.static Lib.Math.max.name ∈ TW) (h3 : Cond.initialized "java/lang/Math" ∈ TW) (h4 : Cond.code Lib.Math.max.name Lib.Math.max.code 2 (some .int) ∈ TW) (hf : 1 ≤ rm.frames ∧ (stk.map fun v => v.category).sum + 13 ≤ rm.locals ∧ mc ≤ rm.cells ∧ ms ≤ rm.slots) (kk : gX X mc ms (pc + 3) loc (.int (if x < y then y else x) :: stk) h) : gX X mc ms pc loc (.int y :: .int x :: stk) h := fun H locs ls hS hG hl => by
  have hR := C.2.2.2.2.2.2.2
  exact va_mmax C.1 C.2.1 (C.2.2.1.trans hl.1.symm) C.2.2.2.1 (C.ht h1) (C.ht h2) (C.ht h3) (C.ht h4) (by rw [hR]; exact hf.1) (by rw [hR]; exact hf.2.1) (by rw [hR]; exact hf.2.2.1) (by rw [hR]; exact hf.2.2.2) hd (kk H locs ls hS hG hl)
theorem r_mmin (C : gC X cc own ret rm) {ix : Nat} {x y : Int32} (hd : decode cc pc = .ok (.invokestatic ix, 3)) (h1 : Cond.methodLink own ix Lib.Math.min.name ∈ TW) (h2 : Cond.static Lib.Math.min.name ∈ TW) (h3 : Cond.initialized "java/lang/Math" ∈ TW) (h4 : Cond.code Lib.Math.min.name Lib.Math.min.code 2 (some .int) ∈ TW) (hf : 1 ≤ rm.frames ∧ (stk.map fun v => v.category).sum + 13 ≤ rm.locals ∧ mc ≤ rm.cells ∧ ms ≤ rm.slots) (kk : gX X mc ms (pc + 3) loc (.int (if y < x then y else x) :: stk) h) : gX X mc ms pc loc (.int y :: .int x :: stk) h := fun H locs ls hS hG hl => by
  have hR := C.2.2.2.2.2.2.2
  exact va_mmin C.1 C.2.1 (C.2.2.1.trans hl.1.symm) C.2.2.2.1 (C.ht h1) (C.ht h2) (C.ht h3) (C.ht h4) (by rw [hR]; exact hf.1) (by rw [hR]; exact hf.2.1) (by rw [hR]; exact hf.2.2.1) (by rw [hR]; exact hf.2.2.2) hd (kk H locs ls hS hG hl)
/-- the first places of a row, out of another object's row -/
def cpA (o : FO) (k : Nat) (o' : FO) (k' n : Nat) : FO := (o.1, o.2.1, o.2.2.1, va_up o.2.2.2.1 k (fun j => if j < n then o'.2.2.2.1 k' j else o.2.2.2.1 k j), o.2.2.2.2)
theorem g_arr_cpA {dA : Nat → ClassId} {o o2 : FO} {k k2 n j : Nat} {q : gK} (h : j ≠ k) : g_arr dA (cpA o k o2 k2 n) j q = g_arr dA o j q := by
  unfold g_arr; split <;> simp [fA, fB, cpA, va_up, h]
theorem r_copyI (C : gC X cc own ret rm) {ci cj a b k j n off off2 ix : Nat} {o o2 o' : FO} {h' : GH} {v : Int32} (hd : decode cc pc = .ok (.invokestatic ix, 3)) (w1 : Cond.methodLink own ix arraycopyName ∈ TW) (w2 : Cond.native arraycopyName ∈ TW) (w3 : Cond.static arraycopyName ∈ TW) (w4 : Cond.initialized "java/lang/System" ∈ TW)
    (hn : g_nice ci = true) (hn2 : g_nice cj = true) (hq : (g_tab ci)[k]? = some (3, n, off)) (hq2 : (g_tab cj)[j]? = some (3, n, off2)) (hg : h a = some (ci, o)) (hg2 : h b = some (cj, o2)) (hab : ¬ b = a) (hf : 1 ≤ rm.frames ∧ (stk.map fun v => v.category).sum + 30 ≤ rm.locals) (hv : ¬ v < 0 ∧ v.toNatClampNeg = n) (ho : o' = cpA o k o2 j n) (hh : h' = hu h a (ci, o')) (kk : gX X mc ms (pc + 3) loc stk h') : gX X mc ms pc loc (.int v :: .int 0 :: .ref (a + off) :: .int 0 :: .ref (b + off2) :: stk) h := fun H locs ls hS hG hl => by
  subst ho hh
  have hR := C.2.2.2.2.2.2.2
  obtain ⟨hv0, hvn⟩ := hv
  have vt : v.toInt = (n : Int) := by
    have hz0 : (0 : Int) ≤ v.toInt := by
      have := Int32.not_lt.mp hv0
      simpa using Int32.le_iff_toInt_le.mp this
    rw [← hvn]
    show v.toInt = ((v.toInt.toNat : Nat) : Int)
    omega
  have hc0 : H[b + off2]? = some (vp_cell ((ydA (xY X)) 0) (n, .inl (fA o2 j))) := g_arrW hG hn2 hg2 hq2 (Nat.le_refl 3)
  have hc1 : H[a + off]? = some (vp_cell ((ydA (xY X)) 0) (n, .inl (fA o k))) := g_arrW hG hn hg hq (Nat.le_refl 3)
  have hB : yB0 (xY X) ≤ a + off := Nat.le_trans (g_B0 hG hg) (Nat.le_add_right a off)
  intro T hT X9
  obtain ⟨-, k0, hk0, cm0, hkk0⟩ := (C.K.2 0 _ rfl).1 n (fun i => .int (fA o2 j i))
  obtain ⟨-, k1, hk1, cm1, hkk1⟩ := (C.K.2 0 _ rfl).1 n (fun i => .int (fA o k i))
  obtain ⟨vm', X', step⟩ := X9.arraycopy C.1 C.2.2.2.1 (C.ht w1) (C.ht w2) (C.ht w3) (C.ht w4) (src := b + off2) (dst := a + off) (cs := vp_cell ((ydA (xY X)) 0) (n, .inl (fA o2 j))) (cd := vp_cell ((ydA (xY X)) 0) (n, .inl (fA o k))) (srcPos := 0) (destPos := 0) (n := v) (by rw [hT]; exact hc0) (by rw [hT]; exact hc1)
    (fun _ h => by cases h) (fun _ h => by cases h) (fun h => by cases h) (fun h => by cases h) hk0 hk1 hkk0 hkk1 (by simp [refKind]) (by decide) (by decide) hv0
    (by rw [vt]; show ¬ _ > ((arrV ((ydA (xY X)) 0) n (fun i => .int (fA o2 j i))).slots.size : Int); rw [arrV_size]; simp)
    (by rw [vt]; show ¬ _ > ((arrV ((ydA (xY X)) 0) n (fun i => .int (fA o k i))).slots.size : Int); rw [arrV_size]; simp)
    (fun vm₁ _ i hi => by
      rw [hvn] at hi
      have e : (vp_cell ((ydA (xY X)) 0) (n, .inl (fA o2 j))).slots.getD ((0 : Int32).toNatClampNeg + i) .null = .int (fA o2 j i) := by
        show (arrV ((ydA (xY X)) 0) n (fun i => .int (fA o2 j i))).slots.getD _ _ = _
        rw [Array.getD_eq_getD_getElem?, show (0 : Int32).toNatClampNeg + i = i by rw [sb_cl0, Nat.zero_add], arrV_read _ _ hi]
        rfl
      refine ⟨?_, ?_⟩
      · rw [e]; rfl
      · rw [e]; exact trivial)
    (g := F0 (xm X) pc ls (.int v :: .int 0 :: .ref (a + off) :: .int 0 :: .ref (b + off2) :: stk)) rfl (C.2.2.1.trans hl.1.symm).symm (rest := stk) rfl (by rw [C.2.1]; exact hd) (by rw [hR]; exact hf.1) (by
      have h7 := hf.2
      have e9 : nativeFrameWords "java/lang/System" "arraycopy" 5 + 11 ≤ 30 := by decide
      rw [hR]
      show 2 * 0 + _ + _ ≤ _
      omega)
  have e1 : copied (vp_cell ((ydA (xY X)) 0) (n, .inl (fA o2 j))) (vp_cell ((ydA (xY X)) 0) (n, .inl (fA o k))) 0 0 v = vp_cell ((ydA (xY X)) 0) (n, .inl (va_cpy (fA o2 j) (fA o k) 0 0 n)) := by
    have e0 : copied (vp_cell ((ydA (xY X)) 0) (n, .inl (fA o2 j))) (vp_cell ((ydA (xY X)) 0) (n, .inl (fA o k))) 0 0 v = vp_cell ((ydA (xY X)) 0) (n, .inl (va_cpy (fA o2 j) (fA o k) (0 : Int32).toNatClampNeg (0 : Int32).toNatClampNeg v.toNatClampNeg)) := va_copied (fun z => Value.int z) ((ydA (xY X)) 0) ((ydA (xY X)) 0) (fA o2 j) (fA o k) (by rw [hvn, sb_cl0]; omega)
    rw [hvn, sb_cl0] at e0
    exact e0
  rw [e1] at X' step
  have hl9 : a + off < H.size := some_lt hc1
  generalize hc : vp_cell ((ydA (xY X)) 0) (n, .inl (va_cpy (fA o2 j) (fA o k) 0 0 n)) = cell at X' step
  have oq : ∀ q : Nat, q ≠ a + off → (H.setIfInBounds (a + off) cell)[q]? = H[q]? := fun q hq => by simp [Array.getElem?_setIfInBounds, Ne.symm hq]
  have hheap : ((T.setVm vm').setCell (a + off) cell).heap = H.setIfInBounds (a + off) cell := by rw [← hT]; rfl
  have hG' : yW (xY X) (hu h a (ci, cpA o k o2 j n)) (H.setIfInBounds (a + off) cell) := by
    refine g_ast hG hn hg hq (Nat.le_refl 3) ?_ oq (fun _ _ _ => rfl) (fun j9 qj e _ _ => g_arr_cpA e)
    show (H.setIfInBounds (a + off) cell)[a + off]? = _
    rw [← hc]
    simp only [Array.getElem?_setIfInBounds, hl9, if_true]
    show some (arrV ((ydA (xY X)) 0) n (fun i => .int (va_cpy (fA o2 j) (fA o k) 0 0 n i))) = some (g_arr (ydA (xY X)) (cpA o k o2 j n) k (3, n, off))
    rw [show g_arr (ydA (xY X)) (cpA o k o2 j n) k (3, n, off) = arrV ((ydA (xY X)) 0) n (fun i => .int (fA (cpA o k o2 j n) k i)) from rfl]
    congr 2
    funext i
    simp [fA, cpA, va_up, va_cpy]
  obtain ⟨t, a1, b1⟩ := kk (H.setIfInBounds (a + off) cell) _ ls ⟨by simp; exact hS.1, fun q g1 g2 => by
      rw [oq q (fun e => g2 (by rw [e]; exact hB))]
      exact hS.2.1 q g1 g2, fun q hq => by
      rcases List.mem_append.mp hq with h | h
      · exact hS.2.2 q h
      · obtain ⟨z, -, hz⟩ := List.mem_map.mp h
        rw [← hz]
        exact hB⟩ hG' hl _ hheap X'
  exact ⟨t, step t a1, b1⟩
end GENDS2
theorem hsm_1 : ∀ (k : Nat) (q : gK), (g_tab 1)[k]? = some q → q.1 < 3 ∧ ∀ a : Nat, defaultValue (tyX0 k) = g_v a fo0 k q := by
  intro k q h
  have hk : k < 7 := (List.getElem?_eq_some_iff.mp h).1
  match k, hk, h with
  | 0, _, h => cases h; exact ⟨by decide, fun _ => rfl⟩
  | 1, _, h => cases h; exact ⟨by decide, fun _ => rfl⟩
  | 2, _, h => cases h; exact ⟨by decide, fun _ => rfl⟩
  | 3, _, h => cases h; exact ⟨by decide, fun _ => rfl⟩
  | 4, _, h => cases h; exact ⟨by decide, fun _ => rfl⟩
  | 5, _, h => cases h; exact ⟨by decide, fun _ => rfl⟩
  | 6, _, h => cases h; exact ⟨by decide, fun _ => rfl⟩
theorem hsm_3 : ∀ (k : Nat) (q : gK), (g_tab 3)[k]? = some q → q.1 < 3 ∧ ∀ a : Nat, defaultValue (tyX2 k) = g_v a fo0 k q := by
  intro k q h
  have hk : k < 4 := (List.getElem?_eq_some_iff.mp h).1
  match k, hk, h with
  | 0, _, h => cases h; exact ⟨by decide, fun _ => rfl⟩
  | 1, _, h => cases h; exact ⟨by decide, fun _ => rfl⟩
  | 2, _, h => cases h; exact ⟨by decide, fun _ => rfl⟩
  | 3, _, h => cases h; exact ⟨by decide, fun _ => rfl⟩
theorem hsm_5 : ∀ (k : Nat) (q : gK), (g_tab 5)[k]? = some q → q.1 < 3 ∧ ∀ a : Nat, defaultValue (tyX4 k) = g_v a fo0 k q := by
  intro k q h
  have hk : k < 3 := (List.getElem?_eq_some_iff.mp h).1
  match k, hk, h with
  | 0, _, h => cases h; exact ⟨by decide, fun _ => rfl⟩
  | 1, _, h => cases h; exact ⟨by decide, fun _ => rfl⟩
  | 2, _, h => cases h; exact ⟨by decide, fun _ => rfl⟩
theorem hsm_6 : ∀ (k : Nat) (q : gK), (g_tab 6)[k]? = some q → q.1 < 3 ∧ ∀ a : Nat, defaultValue (tyX5 k) = g_v a fo0 k q := by
  intro k q h
  have hk : k < 6 := (List.getElem?_eq_some_iff.mp h).1
  match k, hk, h with
  | 0, _, h => cases h; exact ⟨by decide, fun _ => rfl⟩
  | 1, _, h => cases h; exact ⟨by decide, fun _ => rfl⟩
  | 2, _, h => cases h; exact ⟨by decide, fun _ => rfl⟩
  | 3, _, h => cases h; exact ⟨by decide, fun _ => rfl⟩
  | 4, _, h => cases h; exact ⟨by decide, fun _ => rfl⟩
  | 5, _, h => cases h; exact ⟨by decide, fun _ => rfl⟩
theorem hsm_7 : ∀ (k : Nat) (q : gK), (g_tab 7)[k]? = some q → q.1 < 3 ∧ ∀ a : Nat, defaultValue (tyX6 k) = g_v a fo0 k q := by
  intro k q h
  have hk : k < 4 := (List.getElem?_eq_some_iff.mp h).1
  match k, hk, h with
  | 0, _, h => cases h; exact ⟨by decide, fun _ => rfl⟩
  | 1, _, h => cases h; exact ⟨by decide, fun _ => rfl⟩
  | 2, _, h => cases h; exact ⟨by decide, fun _ => rfl⟩
  | 3, _, h => cases h; exact ⟨by decide, fun _ => rfl⟩
