theorem tw62 : Cond.initialized "java/util/ArrayList" ∈ TW := tw_in 62 (by decide +kernel) (by decide +kernel)
theorem tw77 : Cond.initialized "java/util/Objects" ∈ TW := tw_in 77 (by decide +kernel) (by decide +kernel)
theorem tw78 : Cond.initialized "jdk/internal/util/Preconditions" ∈ TW := tw_in 78 (by decide +kernel) (by decide +kernel)
theorem tw107 : Cond.fieldLink "java/util/ArrayList" 9 "java/util/ArrayList" "elementData" "[Ljava/lang/Object;" ∈ TW := tw_in 107 (by decide +kernel) (by decide +kernel)
theorem tw108 : Cond.fieldLink "java/util/ArrayList" 48 "java/util/ArrayList" "size" "I" ∈ TW := tw_in 108 (by decide +kernel) (by decide +kernel)
theorem tw204 : Cond.code ⟨"java/util/ArrayList","size","()I"⟩ prog_27_method_8_code 1 (some .int) ∈ TW := tw_in 204 (by decide +kernel) (by decide +kernel)
theorem tw470 : Cond.code ⟨"java/util/ArrayList","get","(I)Ljava/lang/Object;"⟩ prog_27_method_20_code 2 (some (.object "java/lang/Object")) ∈ TW := tw_in 470 (by decide +kernel) (by decide +kernel)
theorem tw471 : Cond.methodLink "java/util/ArrayList" 118 ⟨"java/util/Objects","checkIndex","(II)I"⟩ ∈ TW := tw_in 471 (by decide +kernel) (by decide +kernel)
theorem tw472 : Cond.static ⟨"java/util/Objects","checkIndex","(II)I"⟩ ∈ TW := tw_in 472 (by decide +kernel) (by decide +kernel)
theorem tw473 : Cond.code ⟨"java/util/Objects","checkIndex","(II)I"⟩ prog_31_method_17_code 2 (some .int) ∈ TW := tw_in 473 (by decide +kernel) (by decide +kernel)
theorem tw474 : Cond.methodLink "java/util/Objects" 105 ⟨"jdk/internal/util/Preconditions","checkIndex","(IILjava/util/function/BiFunction;)I"⟩ ∈ TW := tw_in 474 (by decide +kernel) (by decide +kernel)
theorem tw475 : Cond.static ⟨"jdk/internal/util/Preconditions","checkIndex","(IILjava/util/function/BiFunction;)I"⟩ ∈ TW := tw_in 475 (by decide +kernel) (by decide +kernel)
theorem tw476 : Cond.code ⟨"jdk/internal/util/Preconditions","checkIndex","(IILjava/util/function/BiFunction;)I"⟩ prog_35_method_11_code 3 (some .int) ∈ TW := tw_in 476 (by decide +kernel) (by decide +kernel)
theorem tw477 : Cond.methodLink "java/util/ArrayList" 123 ⟨"java/util/ArrayList","elementData","(I)Ljava/lang/Object;"⟩ ∈ TW := tw_in 477 (by decide +kernel) (by decide +kernel)
theorem tw478 : Cond.instanceMethod ⟨"java/util/ArrayList","elementData","(I)Ljava/lang/Object;"⟩ ∈ TW := tw_in 478 (by decide +kernel) (by decide +kernel)
theorem tw479 : Cond.selects "java/util/ArrayList" ⟨"java/util/ArrayList","elementData","(I)Ljava/lang/Object;"⟩ ⟨"java/util/ArrayList","elementData","(I)Ljava/lang/Object;"⟩ ∈ TW := tw_in 479 (by decide +kernel) (by decide +kernel)
theorem tw480 : Cond.code ⟨"java/util/ArrayList","elementData","(I)Ljava/lang/Object;"⟩ prog_27_method_18_code 2 (some (.object "java/lang/Object")) ∈ TW := tw_in 480 (by decide +kernel) (by decide +kernel)
section GROWS6
variable {X : gCx} {cc : ByteArray} {own : String} {ret : Option FieldType} {rm : Room} {mc ms pc : Nat} {loc : List (Nat × Value)} {stk : List Value} {h : GH}
theorem r_objInit (C : gC X cc own ret rm) {ix a : Nat} (hd : decode cc pc = .ok (.invokespecial ix, 3)) (hl1 : Cond.methodLink own ix Lib.objectInit ∈ TW) (hi : Cond.instanceMethod Lib.objectInit ∈ TW) (hc : Cond.code Lib.objectInit ⟨#[0xb1]⟩ 1 none ∈ TW) (hf : 1 ≤ rm.frames ∧ (stk.map fun v => v.category).sum + 12 ≤ rm.locals) (kk : gX X mc ms (pc + 3) loc stk h) : gX X mc ms pc loc (.ref a :: stk) h := fun H locs ls hS hG hl =>
  W.objInit C.1 C.2.1 C.2.2.2.1 (C.ht hl1) (C.ht hi) (C.ht hc) rfl (by rw [C.2.2.1]; exact hl.1) rfl hd (by rw [C.2.2.2.2.2.2.2]; exact hf.1) (by rw [C.2.2.2.2.2.2.2]; show 2 * 0 + _ + 12 ≤ _; omega) (kk H locs ls hS hG hl)
theorem r_cast (C : gC X cc own ret rm) {ix a ci N : Nat} {Cn : String} {T : u_T} {ty : Nat → FieldType} {o : FO} (hB : gCl ci Cn T N ty) (hd : decode cc pc = .ok (.checkcast ix, 3)) (hw : Cond.classLink own ix Cn ∈ TW) (hg : h a = some (ci, o)) (kk : gX X mc ms (pc + 3) loc (.ref a :: stk) h) : gX X mc ms pc loc (.ref a :: stk) h := fun H locs ls hS hG hl =>
  va_castS C.1 C.2.1 C.2.2.2.1 (C.ht hw) (C.K.1 ci _ hB.1).2 (g_recv C.K hG hB.1 hg) hd (kk H locs ls hS hG hl)
theorem r_alen (C : gC X cc own ret rm) {ci a k n off : Nat} {o : FO} {v : Int32} (hd : decode cc pc = .ok (.arraylength, 1)) (hn : g_nice ci = true) (hq : (g_tab ci)[k]? = some (3, n, off)) (hg : h a = some (ci, o)) (hv : Int32.ofNat n = v) (kk : gX X mc ms (pc + 1) loc (.int v :: stk) h) : gX X mc ms pc loc (.ref (a + off) :: stk) h := fun H locs ls hS hG hl => by
  have h1 := g_arrW hG hn hg hq (Nat.le_refl 3)
  exact va_alen (ws := [(a + off, .inl ((ydA (xY X)) 0, n, .inl (fA o k)))]) C.1 C.2.1 C.K (fun k q hk => by
    cases k with
    | zero => cases hk; exact h1
    | succ k => simp at hk) 0 0 rfl rfl hv hd (kk H locs ls hS hG hl)
/-- a tableswitch, at a number that the table has, and at others -/
theorem r_tsIn (C : gC X cc own ret rm) {dflt lo hi : Int} {offs : Array Int} {len : Nat} {x v : Int32} {off : Int} (tgt : Nat) (hx : x = v) (hd : decode cc pc = .ok (.tableswitch dflt lo hi offs, len)) (h1 : ¬ v.toInt < lo) (h2 : ¬ hi < v.toInt) (ho : offs[(v.toInt - lo).toNat]? = some off) (ht : (pc : Int) + off = (tgt : Int)) (kk : gX X mc ms tgt loc stk h) : gX X mc ms pc loc (.int x :: stk) h := fun H locs ls hS hG hl => by
  subst hx
  exact lv_tableIn C.1 C.2.1 hd h1 h2 ho ht (kk H locs ls hS hG hl)
theorem r_tsOut (C : gC X cc own ret rm) {dflt lo hi : Int} {offs : Array Int} {len : Nat} {x : Int32} (tgt : Nat) (hd : decode cc pc = .ok (.tableswitch dflt lo hi offs, len)) (h1 : x.toInt < lo ∨ hi < x.toInt) (ht : (pc : Int) + dflt = (tgt : Int)) (kk : gX X mc ms tgt loc stk h) : gX X mc ms pc loc (.int x :: stk) h := fun H locs ls hS hG hl =>
  lv_tableOut C.1 C.2.1 hd h1 ht (kk H locs ls hS hG hl)
theorem ts_out {x : Int32} {lo hi : Int} (h : ∀ v : Int, lo ≤ v → v ≤ hi → ¬ x = Int32.ofInt v) : x.toInt < lo ∨ hi < x.toInt := by
  by_cases q : x.toInt < lo
  · exact Or.inl q
  · by_cases q2 : hi < x.toInt
    · exact Or.inr q2
    · exact absurd (by simp) (h x.toInt (by omega) (by omega))
end GROWS6
section GLISTS
def lAdd (o : FO) (x : Nat) : FO := sR (sI o 2 (fI o 2 + 1)) (fI o 2).toNatClampNeg x
theorem g_ls {Y : gWx} {h : GH} {H : Heap} {a : Nat} {o : FO} (hG : yW Y h H) (hg : h a = some (0, o)) : ∃ tag, GWt (yD Y) (ydA Y) (yE0 Y) (yB0 Y) tag h H ∧ yB0 Y ≤ a ∧ tag a = (a, 0) ∧ g_list (yD Y) (ydA Y) (yE0 Y) tag a o H := by
  obtain ⟨tag, hG⟩ := hG
  obtain ⟨h1, h2, h3⟩ := hG a 0 o hg
  exact ⟨tag, hG, h1, h2, h3⟩
variable {X : gCx} {cc : ByteArray} {ret : Option FieldType} {rm : Room} {mc ms pc : Nat} {loc : List (Nat × Value)} {stk : List Value} {h : GH}
theorem gcl0_in : ∀ w ∈ u_ws RJx4a65c TJx4a65c 3, w ∈ TW := by decide +kernel
/-- a list's own cells, with the row's address in sight -/
def LX (Y : gWx) (h : GH) (b : Nat) (o : FO) (mod : Int32) (ed n : Nat) (H : Heap) : Prop := ∃ tag, GWt (yD Y) (ydA Y) (yE0 Y) (yB0 Y) tag h H ∧ yB0 Y ≤ b ∧ tag b = (b, 0) ∧ n < 2000 ∧ fI o 2 = nI n ∧ t_OB b ((yD Y).1 0) 3 ((yD Y).2 0) H (vp_V [.int mod, .ref ed, .int (nI n)]) ∧
    ((ed = yE0 Y ∧ n = 0) ∨ (∃ (cap : Nat) (f : Nat → Option Nat), (tag ed = (b, 1) ∧ b < ed) ∧ n ≤ cap ∧ 2 ≤ cap ∧ cap ≤ 10 + n + n / 2 ∧ H[ed]? = some (arrV ((ydA Y) 3) cap (fun j => va_rf (f j))) ∧ ∀ j, j < n → f j = some (fR o j)))
theorem g_lx {Y : gWx} {h : GH} {H : Heap} {b : Nat} {o : FO} (hG : yW Y h H) (hg : h b = some (0, o)) : ∃ mod ed n, LX Y h b o mod ed n H := by
  obtain ⟨tag, hGt, b1, b2, mod, ed, n, hn, e1, e2, e3⟩ := g_ls hG hg
  exact ⟨mod, ed, n, tag, hGt, b1, b2, hn, e1, e2, e3⟩
/-- reading a list's own fields -/
theorem r_lget (C : gC X cc RJx4a65c ret rm) {a k index : Nat} {ref : String} {o : FO} {mod : Int32} {ed n : Nat} {H : Heap} {locs : List Loc} {ls : Array Slot} {v : Value} (hd : decode cc pc = .ok (.getfield index, 3)) (hk : k < 3) (hl1 : Cond.fieldLink RJx4a65c index ref (TJx4a65c k).2.1 (TJx4a65c k).2.2.1 ∈ TW) (hr : (TJx4a65c k).1 = ref) (hL : LX (xY X) h a o mod ed n H) (hv : ([.int mod, .ref ed, .int (nI n)] : List Value)[k]? = some v)
    (kk : gV X H locs mc ms (F0 (xm X) (pc + 3) ls (v :: stk))) : gV X H locs mc ms (F0 (xm X) pc ls (.ref a :: stk)) := by
  subst hr
  obtain ⟨tag, -, -, -, -, -, e2, -⟩ := hL
  exact va_get (ws := [(a, .inr (0, [.int mod, .ref ed, .int (nI n)]))]) (ci := 0) (C := RJx4a65c) (T := TJx4a65c) (N := 3) C.1 C.2.1 C.hts gcl0_in C.2.2.2.1 C.K (fun k q hk => by
    cases k with
    | zero => cases hk; exact ⟨_, rfl, e2⟩
    | succ k => simp at hk) 0 rfl rfl k hk (C.ht hl1) (fun _ h9 => h9) hv hd kk
end GLISTS
def rm_0 : Room := { frames := 0, cells := 0, slots := 0, locals := 0 }
theorem m_lsize {Y : gWx} {b : Nat} {g : GH} {o : FO} (hg : g b = some (0, o)) : gMet Y yJx4a65c_size_8abf5 cJx4a65c_size_8abf5 1 (some .int) rm_0 [.ref b] g (gQi Y (fun r g9 => g9 = g ∧ r = fI o 2)) 0 0 := by
  refine gm_of rfl (Nat.le_of_ble_eq_true rfl) ?_
  intro X hY hn C hnm hQ
  subst hY
  have C : gC X cJx4a65c_size_8abf5 RJx4a65c (some .int) rm_0 := C
  refine r_aload_n C 0 dJx4a65c_size_8abf5_0 rfl ?_
  intro H locs ls hS hG hl
  obtain ⟨mod, ed, n, hL⟩ := g_lx hG hg
  have e1 : fI o 2 = nI n := hL.choose_spec.2.2.2.2.1
  refine r_lget C (k := 2) (v := .int (nI n)) (ref := "java/util/ArrayList") dJx4a65c_size_8abf5_1 (by decide) tw108 rfl hL rfl ?_
  exact r_iret C (Or.inl hQ : _ ∨ gRex X _ (fun _ _ => False) 0 0) dJx4a65c_size_8abf5_4 rfl (vp_nar_int _) ⟨Nat.le_refl _, Nat.le_refl _⟩ ⟨rfl, e1.symm⟩ H locs ls hS hG hl
/-- checkIndex within the range -/
theorem m_pci {Y : gWx} {i n : Int32} {g : GH} (h0 : ¬ i < 0) (h1 : i < n) : gMet Y yJ3_checkIndex_8e157 cJ3_checkIndex_8e157 3 (some .int) rm_0 [.int i, .int n, .null] g (gQi Y (fun _ g9 => g9 = g)) 0 0 := by
  refine gm_of rfl (Nat.le_of_ble_eq_true rfl) ?_
  intro X hY hn C hnm hQ
  subst hY
  have C : gC X cJ3_checkIndex_8e157 RJ3 (some .int) rm_0 := C
  show gX X 0 0 0 [(0, .int i), (1, .int n), (2, .null)] [] g
  refine r_iload_n C 0 dJ3_checkIndex_8e157_0 rfl (r_if_lt C 9 dJ3_checkIndex_8e157_1 (by decide) (fun q => absurd q h0) (fun _ => ?_))
  refine r_iload_n C 0 dJ3_checkIndex_8e157_4 rfl (r_iload_n C 1 dJ3_checkIndex_8e157_5 rfl (r_icmp_lt C 16 dJ3_checkIndex_8e157_6 (by decide) (fun _ => ?_) (fun q => absurd h1 q)))
  exact r_iload_n C 0 dJ3_checkIndex_8e157_16 rfl (r_iret C (Or.inl hQ : _ ∨ gRex X _ (fun _ _ => False) 0 0) dJ3_checkIndex_8e157_17 rfl (vp_nar_int _) ⟨Nat.le_refl _, Nat.le_refl _⟩ rfl)
theorem mt_J3_checkIndex_8e157 : gMt yJ3_checkIndex_8e157 cJ3_checkIndex_8e157 3 (some .int) 3 := ⟨tw476, tw78, by decide +kernel, by decide +kernel, by decide +kernel⟩
theorem mt_J15_checkIndex_7cf53 : gMt yJ15_checkIndex_7cf53 cJ15_checkIndex_7cf53 2 (some .int) 2 := ⟨tw473, tw77, by decide +kernel, by decide +kernel, by decide +kernel⟩
theorem mt_Jx4a65c_elementData_915e3 : gMt yJx4a65c_elementData_915e3 cJx4a65c_elementData_915e3 2 (some (.object "java/lang/Object")) 1 := ⟨tw480, tw62, by decide +kernel, by decide +kernel, by decide +kernel⟩
theorem mt_Jx4a65c_get_915e3 : gMt yJx4a65c_get_915e3 cJx4a65c_get_915e3 2 (some (.object "java/lang/Object")) 1 := ⟨tw470, tw62, by decide +kernel, by decide +kernel, by decide +kernel⟩
theorem mt_Jx4a65c_size_8abf5 : gMt yJx4a65c_size_8abf5 cJx4a65c_size_8abf5 1 (some .int) 0 := ⟨tw204, tw62, by decide +kernel, by decide +kernel, by decide +kernel⟩
abbrev gFit0 (rm rm' : Room) (maxL : Nat) : Prop := gFit rm rm' maxL 0 0 0 0
def rm_1 : Room := { frames := 1, cells := 0, slots := 0, locals := 40 }
def rm_2 : Room := { frames := 2, cells := 0, slots := 0, locals := 80 }
theorem r_null {X : gCx} {cc : ByteArray} {own : String} {ret : Option FieldType} {rm : Room} {mc ms pc : Nat} {loc : List (Nat × Value)} {stk : List Value} {h : GH} (C : gC X cc own ret rm) (hd : decode cc pc = .ok (.aconst_null, 1)) (kk : gX X mc ms (pc + 1) loc (.null :: stk) h) : gX X mc ms pc loc stk h := fun H locs ls hS hG hl => lv_null C.1 C.2.1 hd (kk H locs ls hS hG hl)
theorem m_oci {Y : gWx} {i n : Int32} {g : GH} (h0 : ¬ i < 0) (h1 : i < n) : gMet Y yJ15_checkIndex_7cf53 cJ15_checkIndex_7cf53 2 (some .int) rm_1 [.int i, .int n] g (gQi Y (fun _ g9 => g9 = g)) 0 0 := by
  refine gm_of rfl (Nat.le_of_ble_eq_true rfl) ?_
  intro X hY hn C hnm hQ
  subst hY
  have C : gC X cJ15_checkIndex_7cf53 RJ15 (some .int) rm_1 := C
  show gX X 0 0 0 [(0, .int i), (1, .int n)] [] g
  refine r_iload_n C 0 dJ15_checkIndex_7cf53_0 rfl (r_iload_n C 1 dJ15_checkIndex_7cf53_1 rfl (r_null C dJ15_checkIndex_7cf53_2 ?_))
  refine r_goi (r_runS C dJ15_checkIndex_7cf53_3 (m_pci h0 h1) mt_J3_checkIndex_8e157 tw474 tw475 rfl (stk := []) rfl (Nat.le_of_ble_eq_true rfl) ⟨rfl, rfl, ⟨Nat.le_of_ble_eq_true rfl, Nat.le_of_ble_eq_true rfl⟩, ⟨Nat.le_of_ble_eq_true rfl, Nat.le_of_ble_eq_true rfl⟩⟩) ?_
  intro r g9 hp
  subst hp
  exact r_iret C (Or.inl hQ : _ ∨ gRex X _ (fun _ _ => False) 0 0) dJ15_checkIndex_7cf53_6 rfl (vp_nar_int _) ⟨Nat.le_refl _, Nat.le_refl _⟩ rfl
theorem m_led {Y : gWx} {b : Nat} {i : Int32} {g : GH} {o : FO} (hg : g b = some (0, o)) (hi : vp_in i (fI o 2).toNatClampNeg) : gMet Y yJx4a65c_elementData_915e3 cJx4a65c_elementData_915e3 2 (some (.object "java/lang/Object")) rm_0 [.ref b, .int i] g (gQr Y (fun r g9 => g9 = g ∧ r = fR o i.toNatClampNeg)) 0 0 := by
  refine gm_of rfl (Nat.le_of_ble_eq_true rfl) ?_
  intro X hY hn C hnm hQ
  subst hY
  have C : gC X cJx4a65c_elementData_915e3 RJx4a65c (some (.object "java/lang/Object")) rm_0 := C
  show gX X 0 0 0 [(0, .ref b), (1, .int i)] [] g
  refine r_aload_n C 0 dJx4a65c_elementData_915e3_0 rfl ?_
  intro H locs ls hS hG hl
  obtain ⟨mod, ed, n, hL⟩ := g_lx hG hg
  refine r_lget C (k := 1) (v := .ref ed) (ref := "java/util/ArrayList") dJx4a65c_elementData_915e3_1 (by decide) tw107 rfl hL rfl ?_
  obtain ⟨tag, hGt, b1, b2, hn2, e1, e2, e3⟩ := hL
  have hcl : (fI o 2).toNatClampNeg = n := by rw [e1]; exact nI_clamp (by omega)
  rw [hcl] at hi
  have hlt : i.toNatClampNeg < n := Nat.not_le.mp fun q => hi (Or.inr q)
  rcases e3 with ⟨-, e4⟩ | ⟨cap, f, t1, t2, t3, t4, t5, t6⟩
  · omega
  · refine lv_iload_n C.1 C.2.1 dJx4a65c_elementData_915e3_4 rfl (lv_at hl 1 rfl) ?_
    refine va_aldq (ws := [(ed, .inl ((ydA (xY X)) 3, cap, .inr (.inr (.inr (.inr f)))))]) C.1 C.2.1 C.K (fun k q hk => by
      cases k with
      | zero => cases hk; exact t5
      | succ k => simp at hk) 0 3 rfl rfl (fun q => hi (q.imp id (fun z => Nat.le_trans t2 z))) dJx4a65c_elementData_915e3_5 ?_
    rw [t6 _ hlt]
    exact r_aret C (Or.inl hQ : _ ∨ gRex X _ (fun _ _ => False) 0 0) dJx4a65c_elementData_915e3_6 rfl (Or.inl ⟨_, rfl⟩) ⟨Nat.le_refl _, Nat.le_refl _⟩ ⟨rfl, rfl⟩ H locs ls hS hG hl
theorem m_lget {Y : gWx} {b : Nat} {i : Int32} {g : GH} {o : FO} (hg : g b = some (0, o)) (hi : vp_in i (fI o 2).toNatClampNeg) : gMet Y yJx4a65c_get_915e3 cJx4a65c_get_915e3 2 (some (.object "java/lang/Object")) rm_2 [.ref b, .int i] g (gQr Y (fun r g9 => g9 = g ∧ r = fR o i.toNatClampNeg)) 0 0 := by
  refine gm_of rfl (Nat.le_of_ble_eq_true rfl) ?_
  intro X hY hn C hnm hQ
  subst hY
  have C : gC X cJx4a65c_get_915e3 RJx4a65c (some (.object "java/lang/Object")) rm_2 := C
  show gX X 0 0 0 [(0, .ref b), (1, .int i)] [] g
  refine r_iload_n C 1 dJx4a65c_get_915e3_0 rfl (r_aload_n C 0 dJx4a65c_get_915e3_1 rfl ?_)
  intro H locs ls hS hG hl
  obtain ⟨mod, ed, n, hL⟩ := g_lx hG hg
  have e1 : fI o 2 = nI n := hL.choose_spec.2.2.2.2.1
  have hn2 : n < 2000 := hL.choose_spec.2.2.2.1
  refine r_lget C (k := 2) (v := .int (nI n)) (ref := "java/util/ArrayList") dJx4a65c_get_915e3_2 (by decide) tw108 rfl hL rfl ?_
  have hcl : (fI o 2).toNatClampNeg = n := by rw [e1]; exact nI_clamp (by omega)
  have hi0 : ¬ i < 0 := fun q => hi (Or.inl q)
  have hi1 : i < nI n := by
    rw [hcl] at hi
    obtain ⟨j, hj, rfl⟩ := vp_in_of hi (by omega)
    exact nI_lt hj (by omega)
  have K : gX X 0 0 5 [(0, .ref b), (1, .int i)] [.int (nI n), .int i] g := by
    refine r_goi (r_runS C dJx4a65c_get_915e3_5 (m_oci hi0 hi1) mt_J15_checkIndex_7cf53 tw471 tw472 rfl (stk := []) rfl (Nat.le_of_ble_eq_true rfl) ⟨rfl, rfl, ⟨Nat.le_of_ble_eq_true rfl, Nat.le_of_ble_eq_true rfl⟩, ⟨Nat.le_of_ble_eq_true rfl, Nat.le_of_ble_eq_true rfl⟩⟩) ?_
    intro r g9 hp
    subst hp
    refine r_pop C dJx4a65c_get_915e3_8 rfl (r_aload_n C 0 dJx4a65c_get_915e3_9 rfl (r_iload_n C 1 dJx4a65c_get_915e3_10 rfl ?_))
    refine r_gor (r_runV C dJx4a65c_get_915e3_11 (m_led hg hi) mt_Jx4a65c_elementData_915e3 tw477 tw478 tw479 (ci := 0) rfl hg rfl (stk := []) rfl (Nat.le_of_ble_eq_true rfl) ⟨rfl, rfl, ⟨Nat.le_of_ble_eq_true rfl, Nat.le_of_ble_eq_true rfl⟩, ⟨Nat.le_of_ble_eq_true rfl, Nat.le_of_ble_eq_true rfl⟩⟩) ?_
    intro r g9 hp
    obtain ⟨rfl, rfl⟩ := hp
    exact r_aret C (Or.inl hQ : _ ∨ gRex X _ (fun _ _ => False) 0 0) dJx4a65c_get_915e3_14 rfl (Or.inl ⟨_, rfl⟩) ⟨Nat.le_of_ble_eq_true rfl, Nat.le_of_ble_eq_true rfl⟩ ⟨rfl, rfl⟩
  exact K H locs ls hS hG hl
