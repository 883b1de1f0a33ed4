theorem tw3 : Cond.selects "java/util/ArrayList" ⟨"java/util/ArrayList","grow","(I)[Ljava/lang/Object;"⟩ ⟨"java/util/ArrayList","grow","(I)[Ljava/lang/Object;"⟩ ∈ TW := tw_in 3 (by decide +kernel) (by decide +kernel)
theorem tw72 : Cond.initialized "jdk/internal/util/ArraysSupport" ∈ TW := tw_in 72 (by decide +kernel) (by decide +kernel)
theorem tw73 : Cond.initialized "java/lang/Math" ∈ TW := tw_in 73 (by decide +kernel) (by decide +kernel)
theorem tw74 : Cond.initialized "java/util/Arrays" ∈ TW := tw_in 74 (by decide +kernel) (by decide +kernel)
theorem tw75 : Cond.initialized "java/lang/System" ∈ TW := tw_in 75 (by decide +kernel) (by decide +kernel)
theorem tw105 : Cond.fieldLink "java/util/ArrayList" 39 "java/util/ArrayList" "DEFAULTCAPACITY_EMPTY_ELEMENTDATA" "[Ljava/lang/Object;" ∈ TW := tw_in 105 (by decide +kernel) (by decide +kernel)
theorem tw370 : Cond.code ⟨"java/util/ArrayList","add","(Ljava/lang/Object;)Z"⟩ prog_27_method_25_code 2 (some .boolean) ∈ TW := tw_in 370 (by decide +kernel) (by decide +kernel)
theorem tw374 : Cond.code ⟨"java/util/ArrayList","add","(Ljava/lang/Object;[Ljava/lang/Object;I)V"⟩ prog_27_method_24_code 4 none ∈ TW := tw_in 374 (by decide +kernel) (by decide +kernel)
theorem tw378 : Cond.code ⟨"java/util/ArrayList","grow","()[Ljava/lang/Object;"⟩ prog_27_method_7_code 1 (some (.array (.object "java/lang/Object"))) ∈ TW := tw_in 378 (by decide +kernel) (by decide +kernel)
theorem tw379 : Cond.methodLink "java/util/ArrayList" 69 ⟨"java/util/ArrayList","grow","(I)[Ljava/lang/Object;"⟩ ∈ TW := tw_in 379 (by decide +kernel) (by decide +kernel)
theorem tw381 : Cond.instanceMethod ⟨"java/util/ArrayList","grow","(I)[Ljava/lang/Object;"⟩ ∈ TW := tw_in 381 (by decide +kernel) (by decide +kernel)
theorem tw382 : Cond.code ⟨"java/util/ArrayList","grow","(I)[Ljava/lang/Object;"⟩ prog_27_method_6_code 4 (some (.array (.object "java/lang/Object"))) ∈ TW := tw_in 382 (by decide +kernel) (by decide +kernel)
theorem tw383 : Cond.methodLink "java/util/ArrayList" 73 ⟨"jdk/internal/util/ArraysSupport","newLength","(III)I"⟩ ∈ TW := tw_in 383 (by decide +kernel) (by decide +kernel)
theorem tw384 : Cond.static ⟨"jdk/internal/util/ArraysSupport","newLength","(III)I"⟩ ∈ TW := tw_in 384 (by decide +kernel) (by decide +kernel)
theorem tw385 : Cond.code ⟨"jdk/internal/util/ArraysSupport","newLength","(III)I"⟩ prog_34_method_27_code 4 (some .int) ∈ TW := tw_in 385 (by decide +kernel) (by decide +kernel)
theorem tw386 : Cond.methodLink "jdk/internal/util/ArraysSupport" 194 ⟨"java/lang/Math","max","(II)I"⟩ ∈ TW := tw_in 386 (by decide +kernel) (by decide +kernel)
theorem tw387 : Cond.static ⟨"java/lang/Math","max","(II)I"⟩ ∈ TW := tw_in 387 (by decide +kernel) (by decide +kernel)
theorem tw388 : Cond.code ⟨"java/lang/Math","max","(II)I"⟩ prog_20_method_65_code 2 (some .int) ∈ TW := tw_in 388 (by decide +kernel) (by decide +kernel)
theorem tw389 : Cond.constant "jdk/internal/util/ArraysSupport" 200 (2147483639 : Int32) ∈ TW := tw_in 389 (by decide +kernel) (by decide +kernel)
theorem tw393 : Cond.methodLink "java/util/ArrayList" 66 ⟨"java/util/Arrays","copyOf","([Ljava/lang/Object;I)[Ljava/lang/Object;"⟩ ∈ TW := tw_in 393 (by decide +kernel) (by decide +kernel)
theorem tw394 : Cond.static ⟨"java/util/Arrays","copyOf","([Ljava/lang/Object;I)[Ljava/lang/Object;"⟩ ∈ TW := tw_in 394 (by decide +kernel) (by decide +kernel)
theorem tw395 : Cond.code ⟨"java/util/Arrays","copyOf","([Ljava/lang/Object;I)[Ljava/lang/Object;"⟩ prog_28_method_119_code 2 (some (.array (.object "java/lang/Object"))) ∈ TW := tw_in 395 (by decide +kernel) (by decide +kernel)
theorem tw396 : Cond.methodLink "java/util/Arrays" 86 ⟨"java/lang/Object","getClass","()Ljava/lang/Class;"⟩ ∈ TW := tw_in 396 (by decide +kernel) (by decide +kernel)
theorem tw397 : Cond.instanceMethod ⟨"java/lang/Object","getClass","()Ljava/lang/Class;"⟩ ∈ TW := tw_in 397 (by decide +kernel) (by decide +kernel)
theorem tw412 : Cond.native ⟨"java/lang/Object","getClass","()Ljava/lang/Class;"⟩ ∈ TW := tw_in 412 (by decide +kernel) (by decide +kernel)
theorem tw413 : Cond.methodLink "java/util/Arrays" 300 ⟨"java/util/Arrays","copyOf","([Ljava/lang/Object;ILjava/lang/Class;)[Ljava/lang/Object;"⟩ ∈ TW := tw_in 413 (by decide +kernel) (by decide +kernel)
theorem tw414 : Cond.static ⟨"java/util/Arrays","copyOf","([Ljava/lang/Object;ILjava/lang/Class;)[Ljava/lang/Object;"⟩ ∈ TW := tw_in 414 (by decide +kernel) (by decide +kernel)
theorem tw415 : Cond.code ⟨"java/util/Arrays","copyOf","([Ljava/lang/Object;ILjava/lang/Class;)[Ljava/lang/Object;"⟩ prog_28_method_120_code 4 (some (.array (.object "java/lang/Object"))) ∈ TW := tw_in 415 (by decide +kernel) (by decide +kernel)
theorem tw416 : Cond.classLink "java/util/Arrays" 110 "[Ljava/lang/Object;" ∈ TW := tw_in 416 (by decide +kernel) (by decide +kernel)
theorem tw418 : Cond.classLink "java/util/Arrays" 2 "java/lang/Object" ∈ TW := tw_in 418 (by decide +kernel) (by decide +kernel)
theorem tw419 : Cond.methodLink "java/util/Arrays" 304 ⟨"java/lang/Math","min","(II)I"⟩ ∈ TW := tw_in 419 (by decide +kernel) (by decide +kernel)
theorem tw420 : Cond.static ⟨"java/lang/Math","min","(II)I"⟩ ∈ TW := tw_in 420 (by decide +kernel) (by decide +kernel)
theorem tw421 : Cond.code ⟨"java/lang/Math","min","(II)I"⟩ prog_20_method_69_code 2 (some .int) ∈ TW := tw_in 421 (by decide +kernel) (by decide +kernel)
theorem tw422 : Cond.methodLink "java/util/Arrays" 150 ⟨"java/lang/System","arraycopy","(Ljava/lang/Object;ILjava/lang/Object;II)V"⟩ ∈ TW := tw_in 422 (by decide +kernel) (by decide +kernel)
theorem tw423 : Cond.static ⟨"java/lang/System","arraycopy","(Ljava/lang/Object;ILjava/lang/Object;II)V"⟩ ∈ TW := tw_in 423 (by decide +kernel) (by decide +kernel)
theorem tw424 : Cond.native ⟨"java/lang/System","arraycopy","(Ljava/lang/Object;ILjava/lang/Object;II)V"⟩ ∈ TW := tw_in 424 (by decide +kernel) (by decide +kernel)
theorem tw425 : Cond.methodLink "java/util/ArrayList" 79 ⟨"java/lang/Math","max","(II)I"⟩ ∈ TW := tw_in 425 (by decide +kernel) (by decide +kernel)
theorem tw426 : Cond.classLink "java/util/ArrayList" 7 "java/lang/Object" ∈ TW := tw_in 426 (by decide +kernel) (by decide +kernel)
theorem tw1482 : Cond.selects "[Ljava/lang/Object;" ⟨"java/lang/Object","getClass","()Ljava/lang/Class;"⟩ ⟨"java/lang/Object","getClass","()Ljava/lang/Class;"⟩ ∈ TW := tw_in 1482 (by decide +kernel) (by decide +kernel)
theorem tw1483 : Cond.declares ⟨"java/lang/Object","getClass","()Ljava/lang/Class;"⟩ ∈ TW := tw_in 1483 (by decide +kernel) (by decide +kernel)
/-! ArrayList.add, and what stands below it -/
abbrev q_arr (dA : Nat → ClassId) (n : Nat) (f : Nat → Option Nat) : va_E := .inl (dA 3, n, .inr (.inr (.inr (.inr f))))
theorem gm_ofP {Y : gWx} {y : MethodName} {bytes : ByteArray} {maxL : Nat} {rt : Option FieldType} {rm : Room} {av : List Value} {P : State → Prop} {Qc : Array Value → State → Outcome → State → Prop} {mc ms : Nat} {free : Nat → Prop} (hy : plainName y.cls = true) (hlen : (lg_sl av).length ≤ maxL)
    (body : ∀ X : gCx, xY X = Y → xn X = maxL → gC X bytes y.cls rt rm → xQ X = MQ (xb X) Qc (xa X) (xs X) mc ms free → P (xs X) → ∀ ls, lv_has ls maxL (lv_args 0 av) → gV X (xs X).heap [] 0 0 (F0 (xm X) 0 ls [])) : Met (yl Y) y [Cond.code y bytes maxL rt] rm (va_Pc av (fun U => P U ∧ yE Y U)) Qc mc ms free := by
  refine Met.ofW (cc := bytes) (maxL := maxL) (ret := rt) hy rfl ?_
  intro p e s m args below meth c s₁ B hml hv
  obtain ⟨rfl, hP, hE⟩ := hv
  rw [lg_entry_eq]
  exact body (Y, p, e, rm, s, m, av.toArray, below, meth, c, MQ below Qc av.toArray s mc ms free, maxL) rfl rfl ⟨B.exec, B.bytes, hml, findClass_of_methodNamed B.named, B.returns, B.notSynchronized, hE, rfl⟩ rfl hP _ (lv_entry av hlen)
theorem va_D1 {A : Nat → Prop} {a : Nat} {e : va_E} (h : A a) : va_D A [(a, e)] := ⟨fun i j p q h1 h2 _ => by
    cases i with
    | zero => cases j with
      | zero => rfl
      | succ j => simp at h2
    | succ i => simp at h1, fun k q hk => by
    cases k with
    | zero => cases hk; exact h
    | succ k => simp at hk⟩
theorem va_P1 {D : va_G} {cl : List vw_C} {q : Nat × va_E} {H : Heap} (h : va_at D cl q H) : va_P D cl [q] H := fun k x hk => by
  cases k with
  | zero => cases hk; exact h
  | succ k => simp at hk
theorem ra_one {U : State} {C : String} {c1 c2 : ClassId} (h1 : va_RA U c1 (.object C)) (h2 : va_RA U c2 (.object C)) : c1 = c2 := by
  obtain ⟨_, _, -, -, -, g1⟩ := h1
  obtain ⟨_, _, -, -, -, g2⟩ := h2
  exact Option.some.inj (g1.symm.trans g2)
def rm_cp3 (B : Nat) : Room := { frames := 1, cells := 1, slots := B, locals := 60 }
def rm_cp2 (B : Nat) : Room := { frames := 2, cells := 1, slots := B, locals := 100 }
abbrev q_post (Y : gWx) (ed cap L sz : Nat) (f : Nat → Option Nat) := va_Qr (S := Unit) (fun _ => True) (fun _ a t => sz ≤ a ∧ va_P (yD Y) vwCl [(ed, q_arr (ydA Y) cap f), (a, q_arr (ydA Y) L (va_cpy f (fun _ => none) 0 0 cap))] t.heap) (fun q => q = ed ∨ sz ≤ q)
set_option maxHeartbeats 4000000 in
set_option maxRecDepth 100000 in
theorem k_cp3 {Y : gWx} {ed cap L mi sz B : Nat} {f : Nat → Option Nat} (hL : cap ≤ L) (hL2 : L ≤ 5000) (hB : L ≤ B) (hed : ed < sz) :
    Met (yl Y) yJ7_copyOf_6403c [Cond.code yJ7_copyOf_6403c cJ7_copyOf_6403c 4 (some (.array (.object "java/lang/Object")))] (rm_cp3 B) (va_Pc [.ref ed, .int (nI L), .ref mi] (fun U => (U.heap.size = sz ∧ va_P (yD Y) vwCl [(ed, q_arr (ydA Y) cap f)] U.heap ∧ va_Mi "[Ljava/lang/Object;" mi U ∧ ∀ j y, j < cap → f j = some y → va_Any "java/lang/Object" U U.heap y) ∧ yE Y U)) (q_post Y ed cap L sz f) 1 B (fun q => q = ed ∨ sz ≤ q) := by
  refine gm_ofP rfl (Nat.le_of_ble_eq_true rfl) ?_
  intro X hY hn C hQ hP ls hl
  subst hY
  obtain ⟨hsz, hP, hM, hel⟩ := hP
  have hP0 := hP
  have C : gC X cJ7_copyOf_6403c RJ7 (some (.array (.object "java/lang/Object"))) (rm_cp3 B) := C
  have hl : lv_has ls 4 [(0, .ref ed), (1, .int (nI L)), (2, .ref mi)] := hl
  have hx := C.1
  have hb := C.2.1
  have hAO : va_AO "java/lang/Object" (xs X) := C.2.2.2.2.2.2.1.2.2.2.2.2.2.2.1.2.1
  have hR := C.2.2.2.2.2.2.2
  have hA : ∀ q, (xs X).heap.size ≤ q → q = ed ∨ sz ≤ q := fun q h => Or.inr (by rw [← hsz]; exact h)
  have hD : va_D (fun q => q = ed ∨ sz ≤ q) [(ed, q_arr (ydA (xY X)) cap f)] := va_D1 (Or.inl rfl)
  have hS : va_S (fun q => q = ed ∨ sz ≤ q) (xs X).heap (xs X).heap [] := va_S.rf
  refine lv_aload_n hx hb dJ7_copyOf_6403c_0 rfl (lv_at hl 2 rfl) ?_
  refine va_ldcM hx hb C.2.2.2.1 (C.ht tw416) hM dJ7_copyOf_6403c_1 ?_
  refine lv_acmp_ne (rx := some mi) (ry := some mi) (tgt := 13) hx hb dJ7_copyOf_6403c_3 (by decide) (fun q => absurd rfl q) (fun _ => ?_)
  refine lv_iload_n hx hb dJ7_copyOf_6403c_6 rfl (lv_at hl 1 rfl) ?_
  have hcl : (nI L).toNatClampNeg = L := nI_clamp (by omega)
  refine va_newq hx hb C.2.2.2.1 (C.ht tw418) hAO C.K hP hD hS hA (nI_pos (by omega)) hcl (by omega) (by rw [hR]; exact Nat.le_refl 1) (by rw [hR]; show 0 + L ≤ B; omega) dJ7_copyOf_6403c_7 (fun q cA H1 hK hP hD hS => ?_)
  have hcA : cA = (ydA (xY X)) 3 := ra_one (hK.2 4 _ rfl).2 (hK.2 3 _ rfl).2
  subst hcA
  have hqz : sz ≤ q := by
    rcases hD.2 1 _ rfl with h | h
    · exact absurd (hD.1 0 1 _ _ rfl rfl h.symm) (by decide)
    · exact h
  refine lv_goto (tgt := 24) hx hb dJ7_copyOf_6403c_10 (by decide) ?_
  refine lv_astore_n (lv' := [(3, .ref q), (0, .ref ed), (1, .int (nI L)), (2, .ref mi)]) hx hb dJ7_copyOf_6403c_24 rfl hl (by decide) rfl (fun ls hl => ?_)
  refine lv_aload_n hx hb dJ7_copyOf_6403c_25 rfl (lv_at hl 1 rfl) ?_
  refine lv_iconst (v := 0) hx hb dJ7_copyOf_6403c_26 (by decide) ?_
  refine lv_aload_n hx hb dJ7_copyOf_6403c_27 rfl (lv_at hl 0 rfl) ?_
  refine lv_iconst (v := 0) hx hb dJ7_copyOf_6403c_28 (by decide) ?_
  refine lv_aload_n hx hb dJ7_copyOf_6403c_29 rfl (lv_at hl 1 rfl) ?_
  refine va_alen hx hb hK hP 0 3 rfl rfl (v := nI cap) rfl dJ7_copyOf_6403c_30 ?_
  refine lv_iload_n hx hb dJ7_copyOf_6403c_31 rfl (lv_at hl 2 rfl) ?_
  refine va_mmin hx hb (C.2.2.1.trans (hl.1.trans hn.symm).symm) C.2.2.2.1 (C.ht tw419) (C.ht tw420) (C.ht tw73) (C.ht tw421) (by rw [hR]; exact Nat.le_refl 1) (by rw [hR]; show 4 + 13 ≤ 60; decide) (by rw [hR]; exact Nat.le_refl 1) (by rw [hR]; show 0 + L ≤ B; omega) dJ7_copyOf_6403c_32 ?_
  rw [if_neg (nI_nlt hL (by omega))]
  have hcc : (nI cap).toNatClampNeg = cap := nI_clamp (by omega)
  refine va_copyM hx hb (C.2.2.1.trans (hl.1.trans hn.symm).symm) C.2.2.2.1 (C.ht tw422) (C.ht tw424) (C.ht tw423) (C.ht tw75) hK hP hD hS 0 1 3 4 rfl rfl rfl rfl (by decide) (by decide) (nI_pos (by omega)) (by rw [hcc]; show 0 + cap ≤ cap; omega) (by rw [hcc]; show 0 + cap ≤ L; omega) (fun i hi y hy => ?_) (by rw [hR]; exact Nat.le_refl 1) (by rw [hR]; show 0 + (_ + 11) ≤ 60; decide) dJ7_copyOf_6403c_35 (fun H2 locs hP2 hD2 hS2 => ?_)
  · rw [hcc] at hi
    have hy : f (0 + i) = some y := hy
    rw [Nat.zero_add] at hy
    obtain ⟨cv, g1, g2, g3, g4⟩ := hel i y hi hy
    have hlt : y < (xs X).heap.size := some_lt g1
    refine ⟨cv, ?_, g2, g3, g4⟩
    by_cases e : y = ed
    · subst e
      have e1 : H1[y]? = _ := hP 0 _ rfl
      have e2 := hP0 0 _ rfl
      exact (e1.trans (Eq.symm e2)).trans g1
    · rw [hS.2.1 y hlt (fun z => z.elim e (fun z => by omega))]; exact g1
  · rw [hcc] at hP2
    refine lv_aload_n hx hb dJ7_copyOf_6403c_38 rfl (lv_at hl 0 rfl) ?_
    rw [hQ]
    exact W.widen (Nat.le_refl 1) (by omega) (W.aret hx hb C.2.2.2.2.1 (Or.inr ⟨_, rfl⟩) (Or.inr ⟨q, rfl⟩) (fun t ht hW => ⟨⟨(), q, rfl, True.intro, hqz, by rw [ht]; exact hP2⟩, hS2.F ht⟩) hS2.2.2 dJ7_copyOf_6403c_39 C.2.2.2.2.2.1)
theorem mt_J7_copyOf_6403c : gMt yJ7_copyOf_6403c cJ7_copyOf_6403c 4 (some (.array (.object "java/lang/Object"))) 3 := ⟨tw415, tw74, by decide +kernel, by decide +kernel, by decide +kernel⟩
theorem mt_J7_copyOf_1904c : gMt yJ7_copyOf_1904c cJ7_copyOf_1904c 2 (some (.array (.object "java/lang/Object"))) 2 := ⟨tw395, tw74, by decide +kernel, by decide +kernel, by decide +kernel⟩
set_option maxHeartbeats 4000000 in
set_option maxRecDepth 100000 in
theorem k_cp2 {Y : gWx} {ed cap L sz B : Nat} {f : Nat → Option Nat} (hL : cap ≤ L) (hL2 : L ≤ 5000) (hB : L ≤ B) (hed : ed < sz) :
    Met (yl Y) yJ7_copyOf_1904c [Cond.code yJ7_copyOf_1904c cJ7_copyOf_1904c 2 (some (.array (.object "java/lang/Object")))] (rm_cp2 B) (va_Pc [.ref ed, .int (nI L)] (fun U => (U.heap.size = sz ∧ va_P (yD Y) vwCl [(ed, q_arr (ydA Y) cap f)] U.heap ∧ ∀ j y, j < cap → f j = some y → va_Any "java/lang/Object" U U.heap y) ∧ yE Y U)) (q_post Y ed cap L sz f) 1 B (fun q => q = ed ∨ sz ≤ q) := by
  refine gm_ofP rfl (Nat.le_of_ble_eq_true rfl) ?_
  intro X hY hn C hQ hP ls hl
  subst hY
  obtain ⟨hsz, hP, hel⟩ := hP
  have C : gC X cJ7_copyOf_1904c RJ7 (some (.array (.object "java/lang/Object"))) (rm_cp2 B) := C
  have hl : lv_has ls 2 [(0, .ref ed), (1, .int (nI L))] := hl
  have hx := C.1
  have hb := C.2.1
  obtain ⟨mi, hM⟩ := C.2.2.2.2.2.2.1.2.2.2.2.2.2.2.1.1
  have hR := C.2.2.2.2.2.2.2
  have hS : va_S (fun q => q = ed ∨ sz ≤ q) (xs X).heap (xs X).heap [] := va_S.rf
  have hml := C.2.2.1.trans (hl.1.trans hn.symm).symm
  refine lv_aload_n hx hb dJ7_copyOf_1904c_0 rfl (lv_at hl 0 rfl) ?_
  refine lv_iload_n hx hb dJ7_copyOf_1904c_1 rfl (lv_at hl 1 rfl) ?_
  refine lv_aload_n hx hb dJ7_copyOf_1904c_2 rfl (lv_at hl 0 rfl) ?_
  have e1 : (xs X).heap[ed]? = some (arrV ((ydA (xY X)) 3) cap (fun j => va_rf (f j))) := hP 0 _ rfl
  obtain ⟨kA, comp, k1, k2, k3, k4⟩ := (C.K.2 3 _ rfl).2
  refine va_getC (C := "[Ljava/lang/Object;") hx hb hml C.2.2.2.1 (C.ht tw396) (C.ht tw1483) (C.ht tw1482) (C.ht tw397) (C.ht tw412) hM ⟨_, e1, rfl, k4⟩ (by rw [hR]; show 1 ≤ 2; decide) (by rw [hR]; show 2 + 14 ≤ 100; decide) dJ7_copyOf_1904c_3 ?_
  have hcw : CallB (xR X) (xs X) (xa X) RJ7 300 yJ7_copyOf_6403c cJ7_copyOf_6403c 4 (some (.array (.object "java/lang/Object"))) [Cond.code yJ7_copyOf_6403c cJ7_copyOf_6403c 4 (some (.array (.object "java/lang/Object")))] (rm_cp3 B) 1 B 3 := g_callB (mc := 0) (ms := 0) C mt_J7_copyOf_6403c tw413 ⟨rfl, rfl, ⟨Nat.le_of_ble_eq_true rfl, Nat.le_of_ble_eq_true rfl⟩, ⟨by show 0 + 1 ≤ 1; decide, by show 0 + B ≤ B; omega⟩⟩
  refine va_callr (va_runS (As := [.ref ed, .int (nI L), .ref mi]) (rest := []) ⟨hx, hb, hml.trans hl.1, C.2.2.2.1, C.hts⟩ (k_cp3 (mi := mi) (f := f) hL hL2 hB hed) ⟨hcw, C.ht tw414⟩ ⟨fun a U g mk q => ⟨q.1, ⟨q.2.1.1, q.2.1.2.1, q.2.1.2.2.1, q.2.1.2.2.2⟩, gE_go q.2.2 va_S.rf rfl (State.WarmedH.refl U)⟩, fun U hU hW => ⟨rfl, ⟨by rw [hU]; exact hsz, by rw [hU]; exact hP, hM.moved hW.alike, fun j y hj hy => by
      obtain ⟨cv, g1, g2, ⟨kC, g3⟩, g4⟩ := hel j y hj hy
      obtain ⟨k', hk', -⟩ := hW.alike.2.2 _ _ g3
      exact ⟨cv, by rw [hU]; exact g1, g2, ⟨k', hk'⟩, fun c9 h9 => by rw [hW.alike.assignable]; exact g4 c9 (by rw [← hW.alike.findClass]; exact h9)⟩⟩, gE_go C.2.2.2.2.2.2.1 va_S.rf hU hW⟩⟩ rfl rfl hl.1 rfl (lv_room (Nat.le_of_ble_eq_true rfl)) dJ7_copyOf_1904c_6 (by rw [hR]; exact ⟨by show 0 + 1 ≤ 1; decide, by show 0 + B ≤ B; omega⟩)) hS (fun _ _ z => z) (fun _ z => z) (fun u ra t H1 locs1 ht hvm hp hB9 hz hk hS1 => ?_)
  obtain ⟨hra, hP1⟩ := hB9
  rw [ht] at hP1
  rw [hQ]
  exact W.widen (Nat.le_refl 1) (by omega) (W.aret hx hb C.2.2.2.2.1 (Or.inr ⟨_, rfl⟩) (Or.inr ⟨ra, rfl⟩) (fun t ht hW => ⟨⟨(), ra, rfl, True.intro, hra, by rw [ht]; exact hP1⟩, hS1.F ht⟩) hS1.2.2 dJ7_copyOf_1904c_9 C.2.2.2.2.2.1)
/-! the list's own cells, with tags in sight -/
def LT (Y : gWx) (tag : Nat → Nat × Nat) (h : GH) (b : Nat) (o : FO) (mod : Int32) (ed n : Nat) (H : Heap) : Prop := GWt (yD Y) (ydA Y) (yE0 Y) (yB0 Y) tag h H ∧ h b = some (0, o) ∧ n < 1000 ∧ fI o 2 = nI n ∧ t_OB b ((yD Y).1 0) 3 ((yD Y).2 0) H (vp_V [.int mod, .ref ed, .int (nI n)])
def LA (Y : gWx) (tag : Nat → Nat × Nat) (b : Nat) (o : FO) (ed n cap : Nat) (f : Nat → Option Nat) (H : Heap) : Prop := (tag ed = (b, 1) ∧ b < ed) ∧ H[ed]? = some (arrV ((ydA Y) 3) cap (fun j => va_rf (f j))) ∧ ∀ j, j < n → f j = some (fR o j)
theorem LT.kept {Y : gWx} {tag : Nat → Nat × Nat} {h : GH} {b : Nat} {o : FO} {mod : Int32} {ed n : Nat} {H H' : Heap} (hL : LT Y tag h b o mod ed n H) (hq : ∀ q, q < H.size → H'[q]? = H[q]?) : LT Y tag h b o mod ed n H' :=
  ⟨hL.1.kept fun q h1 => ⟨hq q h1, rfl⟩, hL.2.1, hL.2.2.1, hL.2.2.2.1, hL.2.2.2.2.kept (hq b (t_OB_lt hL.2.2.2.2))⟩
theorem LA.kept {Y : gWx} {tag : Nat → Nat × Nat} {b : Nat} {o : FO} {ed n cap : Nat} {f : Nat → Option Nat} {H H' : Heap} (hA : LA Y tag b o ed n cap f H) (hq : ∀ q, q < H.size → H'[q]? = H[q]?) : LA Y tag b o ed n cap f H' :=
  ⟨hA.1, (hq ed (some_lt hA.2.1)).trans hA.2.1, hA.2.2⟩
/-- what a full list holds ahead of growing -/
def PG (Y : gWx) (h : GH) (b : Nat) (o : FO) (n : Nat) (H : Heap) : Prop := ∃ tag mod ed, LT Y tag h b o mod ed n H ∧ ((ed = yE0 Y ∧ n = 0) ∨ (2 ≤ n ∧ ∃ f, LA Y tag b o ed n n f H))
/-- and behind it -/
def QG (Y : gWx) (h : GH) (b : Nat) (o : FO) (n q : Nat) (H : Heap) : Prop := ∃ tag mod cap f, LT Y tag h b o mod q n H ∧ LA Y tag b o q n cap f H ∧ n < cap ∧ 2 ≤ cap ∧ cap ≤ 10 + n + n / 2
theorem g_anyO {X : gCx} {cc : ByteArray} {own : String} {ret : Option FieldType} {rm : Room} (C : gC X cc own ret rm) {tag : Nat → Nat × Nat} {h : GH} {H : Heap} {y c : Nat} {o : FO} (hG : GWt (yD (xY X)) (ydA (xY X)) (yE0 (xY X)) (yB0 (xY X)) tag h H) (hc : c < 10) (hy : h y = some (c, o)) : va_Any "java/lang/Object" (xs X) H y := by
  have hcast : ∀ q ∈ vwCl, Cond.castable q.1 "java/lang/Object" ∈ TW := by decide +kernel
  obtain ⟨q, hq⟩ : ∃ q, vwCl[c]? = some q := ⟨vwCl[c], List.getElem?_eq_getElem hc⟩
  obtain ⟨Cn, T, N⟩ := q
  obtain ⟨cell, g1, g2, g3⟩ := g_recv (X := X) C.K ⟨tag, hG⟩ hq hy
  obtain ⟨c1, c2, hc1, hc2, hasg⟩ := Cond.castable_spec (C.ht (hcast _ (List.mem_of_getElem? hq)))
  obtain ⟨kC, hkC, -⟩ := Vm.findClass_spec g3
  refine ⟨cell, g1, g2, ⟨kC, hkC⟩, fun comp h9 => ?_⟩
  cases hc1.symm.trans g3
  cases hc2.symm.trans h9
  exact hasg
section VL
variable {X : gCx} {cc : ByteArray} {own : String} {ret : Option FieldType} {rm : Room} {mc ms pc : Nat} {stk : List Value} {H : Heap} {locs : List Loc} {ls : Array Slot}
/-- a store into a list's own slot -/
theorem v_lset (C : gC X cc RJx4a65c ret rm) {b k index : Nat} {ref : String} {fs : List Value} {v : Value} (hd : decode cc pc = .ok (.putfield index, 3)) (hk : k < 3) (hl1 : Cond.fieldLink RJx4a65c index ref (TJx4a65c k).2.1 (TJx4a65c k).2.2.1 ∈ TW) (hsame : ∀ x, (xs X).fieldFound? (TJx4a65c k).1 (TJx4a65c k).2.1 (TJx4a65c k).2.2.1 = some x → (xs X).fieldFound? ref (TJx4a65c k).2.1 (TJx4a65c k).2.2.1 = some x) (hfl : fs.length = 3) (hob : t_OB b ((yD (xY X)).1 0) 3 ((yD (xY X)).2 0) H (vp_V fs)) (hn : narrow (tyJx4a65c k) v = v) (hf : fits (tyJx4a65c k) v = true) (hbB : yB0 (xY X) ≤ b) (hS : va_S (gA (yB0 (xY X))) (xs X).heap H locs)
    (kk : ∀ (H' : Heap) (locs' : List Loc), t_OB b ((yD (xY X)).1 0) 3 ((yD (xY X)).2 0) H' (vp_V (fs.set k v)) → H'.size = H.size → (∀ q, q ≠ b → H'[q]? = H[q]?) → va_S (gA (yB0 (xY X))) (xs X).heap H' locs' → gV X H' locs' mc ms (F0 (xm X) (pc + 3) ls stk)) : gV X H locs mc ms (F0 (xm X) pc ls (v :: .ref b :: stk)) := by
  have c1 : vwCl[0]? = some (RJx4a65c, TJx4a65c, 3) := rfl
  have hap := va_apart (own := RJx4a65c) C.hts gcl0_in tyJx4a65c tyJx4a65c_ok nmJx4a65c C.K c1
  obtain ⟨cell, q1, q2, q3, q4⟩ := hob
  obtain ⟨hSl, hfc, kC, hkC, hkind⟩ := C.K.1 0 _ c1
  obtain ⟨cf, kf, fi, f, hi, hsl⟩ := hSl k hk
  have hlay := C.hts _ (gcl0_in _ (u_in_lay hk))
  unfold u_lay at hlay
  have hfin : (TJx4a65c k).2.2.2 = false := by
    match k, hk with
    | 0, _ => rfl
    | 1, _ => rfl
    | 2, _ => rfl
  rw [if_neg (by rw [hfin]; decide)] at hlay
  have hst := (u_facts hfc hkC (u_lays C.hts gcl0_in hk) hi).1
  have h6 := u_store hfc hkC hkind hlay hi (tyJx4a65c_ok k hk) hn hf
  refine W.putK C.1 C.2.1 (f := f) ⟨C.2.2.2.1, C.ht hl1, ⟨_, _, _, hsame _ hi⟩, hst⟩ (by rw [q2]; exact h6) q1 q3 (by rw [hsl]; exact k2_hasslot (q4 k hk)) rfl rfl hd fun H' e1 e2 e3 => ?_
  rw [hsl] at e1
  exact kk H' _ (t_OB.to (V := updV (vp_V fs) k v) ⟨_, e1, q2, q3, t_set q4 hap hk v⟩ (fun j _ => vp_updV_set (by rw [hfl]; exact hk) v j)) e2 e3 (hS.put e2 e3 hbB)
/-- the list's row becomes another -/
theorem v_lput (C : gC X cc RJx4a65c ret rm) {tag : Nat → Nat × Nat} {h : GH} {b q n cap : Nat} {o : FO} {mod : Int32} {ed : Nat} {f : Nat → Option Nat} (hd : decode cc pc = .ok (.putfield 9, 3)) (hL : LT (xY X) tag h b o mod ed n H) (hA : LA (xY X) tag b o q n cap f H) (hc : n ≤ cap ∧ 2 ≤ cap ∧ cap ≤ 10 + n + n / 2) (hS : va_S (gA (yB0 (xY X))) (xs X).heap H locs)
    (kk : ∀ (H' : Heap) (locs' : List Loc), LT (xY X) tag h b o mod q n H' → LA (xY X) tag b o q n cap f H' → va_S (gA (yB0 (xY X))) (xs X).heap H' locs' → gV X H' locs' mc ms (F0 (xm X) (pc + 3) ls stk)) : gV X H locs mc ms (F0 (xm X) pc ls (.ref q :: .ref b :: stk)) := by
  obtain ⟨hG, hb, hn, e1, hob⟩ := hL
  obtain ⟨b1, b2, b3⟩ := hG b 0 o hb
  refine v_lset C (k := 1) (ref := "java/util/ArrayList") (fs := [.int mod, .ref ed, .int (nI n)]) hd (by decide) tw107 (fun _ h9 => h9) rfl hob rfl rfl b1 hS (fun H' locs' e2 e3 e4 hS' => ?_)
  have hqb : q ≠ b := fun e => by
    have := hA.1.1
    rw [e, b2] at this
    cases this
  have hA' : LA (xY X) tag b o q n cap f H' := ⟨hA.1, (e4 q hqb).trans hA.2.1, hA.2.2⟩
  refine kk H' locs' ⟨?_, hb, hn, e1, e2⟩ hA' hS'
  have hG' := hG.upd (H' := H') (tag' := tag) b1 b2 (fun x _ h2 => ⟨e4 x (fun e => h2 (by rw [e, b2])), rfl⟩) (ci := 0) (o := o) ⟨mod, q, n, by omega, e1, e2, Or.inr ⟨cap, f, hA.1, hc.1, hc.2.1, hc.2.2, hA'.2.1, hA.2.2⟩⟩
  rw [hu_id hb] at hG'
  exact hG'
/-- a new row of references -/
theorem v_anew (C : gC X cc own ret rm) {ix N : Nat} (hd : decode cc pc = .ok (.anewarray ix, 3)) (hw : Cond.classLink own ix "java/lang/Object" ∈ TW) (hN : N ≤ 5000) (hc : mc + 1 ≤ rm.cells ∧ ms + N ≤ rm.slots) (hS : va_S (gA (yB0 (xY X))) (xs X).heap H locs)
    (kk : ∀ (H' : Heap), H'[H.size]? = some (arrV ((ydA (xY X)) 3) N (fun _ => va_rf none)) → H'.size = H.size + 1 → (∀ q, q < H.size → H'[q]? = H[q]?) → va_S (gA (yB0 (xY X))) (xs X).heap H' locs → gV X H' locs (mc + 1) (ms + N) (F0 (xm X) (pc + 3) ls (.ref H.size :: stk))) : gV X H locs mc ms (F0 (xm X) pc ls (.int (nI N) :: stk)) := by
  have hAO : va_AO "java/lang/Object" (xs X) := C.2.2.2.2.2.2.1.2.2.2.2.2.2.2.1.2.1
  have hR := C.2.2.2.2.2.2.2
  have hcl : (nI N).toNatClampNeg = N := nI_clamp (by omega)
  refine W.anew C.1 C.2.1 C.2.2.2.1 (C.ht hw) (va_AO.use hAO) rfl hd rfl (nI_pos (by omega)) (by rw [hcl]; omega) (by rw [hR]; exact hc.1) (by rw [hR, hcl]; exact hc.2) fun cA kA comp f1 f2 f3 f4 => ?_
  have hcA : cA = (ydA (xY X)) 3 := ra_one (U := xs X) (C := "java/lang/Object") ⟨kA, comp, f2, f3, f4, f1⟩ (C.K.2 3 _ rfl).2
  subst hcA
  rw [hcl]
  generalize hH1 : H.push ({ cls := (ydA (xY X)) 3, slots := Array.replicate N .null, vm := .none } : Cell) = H1
  have z1 : H1.size = H.size + 1 := by rw [← hH1, Array.size_push]
  have o1 : ∀ q : Nat, q < H.size → H1[q]? = H[q]? := fun q hq => by rw [← hH1, Array.getElem?_push, if_neg (Nat.ne_of_lt hq)]
  refine kk H1 ?_ z1 o1 ⟨by rw [z1]; exact Nat.le_trans hS.1 (Nat.le_succ _), fun x h1 h2 => (o1 x (Nat.lt_of_lt_of_le h1 hS.1)).trans (hS.2.1 x h1 h2), hS.2.2⟩
  rw [← hH1, Array.getElem?_push_size]
  exact congrArg some (arrV_new _ _ _)
end VL
def rm_nl : Room := { frames := 1, cells := 0, slots := 0, locals := 40 }
def rm_gr (B : Nat) : Room := { frames := 3, cells := 1, slots := B, locals := 160 }
def rm_gr0 (B : Nat) : Room := { frames := 4, cells := 1, slots := B, locals := 200 }
def rm_ad3 (B : Nat) : Room := { frames := 5, cells := 1, slots := B, locals := 240 }
def rm_ad (B : Nat) : Room := { frames := 6, cells := 1, slots := B, locals := 280 }
theorem mt_J8_newLength_cabcc : gMt yJ8_newLength_cabcc cJ8_newLength_cabcc 4 (some .int) 3 := ⟨tw385, tw72, by decide +kernel, by decide +kernel, by decide +kernel⟩
theorem mt_Jx4a65c_grow_92f84 : gMt yJx4a65c_grow_92f84 cJx4a65c_grow_92f84 4 (some (.array (.object "java/lang/Object"))) 1 := ⟨tw382, tw62, by decide +kernel, by decide +kernel, by decide +kernel⟩
theorem mt_Jx4a65c_grow_d5877 : gMt yJx4a65c_grow_d5877 cJx4a65c_grow_d5877 1 (some (.array (.object "java/lang/Object"))) 0 := ⟨tw378, tw62, by decide +kernel, by decide +kernel, by decide +kernel⟩
theorem mt_Jx4a65c_add_72be8 : gMt yJx4a65c_add_72be8 cJx4a65c_add_72be8 4 none 3 := ⟨tw374, tw62, by decide +kernel, by decide +kernel, by decide +kernel⟩
theorem mt_Jx4a65c_add_9ea2d : gMt yJx4a65c_add_9ea2d cJx4a65c_add_9ea2d 2 (some .boolean) 1 := ⟨tw370, tw62, by decide +kernel, by decide +kernel, by decide +kernel⟩
set_option maxHeartbeats 4000000 in
set_option maxRecDepth 100000 in
theorem k_nl {Y : gWx} {n : Nat} (h2 : 2 ≤ n) (hn : n < 1000) : Met (yl Y) yJ8_newLength_cabcc [Cond.code yJ8_newLength_cabcc cJ8_newLength_cabcc 4 (some .int)] rm_nl (va_Pc [.int (nI n), .int 1, .int (nI (n / 2))] (fun U => True ∧ yE Y U)) (va_Qi (S := Unit) (fun r _ => r = nI (n + n / 2)) (fun _ _ => True) (fun _ => False)) 0 0 (fun _ => False) := by
  refine gm_ofP rfl (Nat.le_of_ble_eq_true rfl) ?_
  intro X hY hxn C hQ hP ls hl
  subst hY
  have C : gC X cJ8_newLength_cabcc RJ8 (some .int) rm_nl := C
  have hl : lv_has ls 4 [(0, .int (nI n)), (1, .int 1), (2, .int (nI (n / 2)))] := hl
  have hx := C.1
  have hb := C.2.1
  have hR := C.2.2.2.2.2.2.2
  have hml := C.2.2.1.trans (hl.1.trans hxn.symm).symm
  have hS : va_S (fun _ => False) (xs X).heap (xs X).heap [] := va_S.rf
  refine lv_iload_n hx hb dJ8_newLength_cabcc_0 rfl (lv_at hl 0 rfl) ?_
  refine lv_iload_n hx hb dJ8_newLength_cabcc_1 rfl (lv_at hl 1 rfl) ?_
  refine lv_iload_n hx hb dJ8_newLength_cabcc_2 rfl (lv_at hl 2 rfl) ?_
  refine va_mmax hx hb hml C.2.2.2.1 (C.ht tw386) (C.ht tw387) (C.ht tw73) (C.ht tw388) (by rw [hR]; exact Nat.le_refl 1) (by rw [hR]; show 1 + 13 ≤ 40; decide) (by rw [hR]; exact Nat.le_refl 0) (by rw [hR]; exact Nat.le_refl 0) dJ8_newLength_cabcc_3 ?_
  have hmx : (if (1 : Int32) < nI (n / 2) then nI (n / 2) else 1) = nI (n / 2) := by
    rcases Nat.lt_or_ge 1 (n / 2) with q | q
    · rw [if_pos (show (1 : Int32) < nI (n / 2) from nI_lt (a := 1) q (by omega))]
    · have : n / 2 = 1 := by omega
      rw [this]; rfl
  rw [hmx]
  refine lv_iadd hx hb dJ8_newLength_cabcc_6 ?_
  rw [nI_add]
  refine lv_istore_n (lv' := [(3, .int (nI (n + n / 2))), (0, .int (nI n)), (1, .int 1), (2, .int (nI (n / 2)))]) hx hb dJ8_newLength_cabcc_7 rfl hl (by decide) rfl (fun ls hl => ?_)
  refine lv_iconst (v := 0) hx hb dJ8_newLength_cabcc_8 (by decide) ?_
  refine lv_iload_n hx hb dJ8_newLength_cabcc_9 rfl (lv_at hl 0 rfl) ?_
  refine lv_icmp_ge (tgt := 21) hx hb dJ8_newLength_cabcc_10 (by decide) (fun q => absurd q (nI_ge (a := 0) (by omega) (by omega))) (fun _ => ?_)
  refine lv_iload_n hx hb dJ8_newLength_cabcc_13 rfl (lv_at hl 0 rfl) ?_
  refine lv_ldc hx hb C.2.2.2.1 (C.ht tw389) dJ8_newLength_cabcc_14 ?_
  refine lv_icmp_gt (tgt := 21) hx hb dJ8_newLength_cabcc_16 (by decide) (fun q => absurd q (show ¬ nI 2147483639 < nI (n + n / 2) from nI_nlt (by omega) (by omega))) (fun _ => ?_)
  refine lv_iload_n hx hb dJ8_newLength_cabcc_19 rfl (lv_at hl 0 rfl) ?_
  rw [hQ]
  exact W.zret hx hb C.2.2.2.2.1 (vp_nar_int _) (fun t ht hW => ⟨⟨_, (), rfl, rfl, True.intro⟩, hS.F ht⟩) hS.2.2 dJ8_newLength_cabcc_20 C.2.2.2.2.2.1
set_option maxHeartbeats 4000000 in
set_option maxRecDepth 100000 in
theorem k_gr {Y : gWx} {h : GH} {b n B : Nat} {o : FO} (hn : n < 1000) (hB : 10 + n + n / 2 ≤ B) (hel : ∀ j, j < n → ∃ c oo, c < 10 ∧ h (fR o j) = some (c, oo)) : Met (yl Y) yJx4a65c_grow_92f84 [Cond.code yJx4a65c_grow_92f84 cJx4a65c_grow_92f84 4 (some (.array (.object "java/lang/Object")))] (rm_gr B) (va_Pc [.ref b, .int (nI (n + 1))] (fun U => PG Y h b o n U.heap ∧ yE Y U)) (va_Qr (S := Unit) (fun _ => True) (fun _ q t => QG Y h b o n q t.heap) (gA (yB0 Y))) 1 B (gA (yB0 Y)) := by
  refine gm_ofP (P := fun U => PG Y h b o n U.heap) rfl (Nat.le_of_ble_eq_true rfl) ?_
  intro X hY hxn C hQ hP ls hl
  subst hY
  have C : gC X cJx4a65c_grow_92f84 RJx4a65c (some (.array (.object "java/lang/Object"))) (rm_gr B) := C
  have hl : lv_has ls 4 [(0, .ref b), (1, .int (nI (n + 1)))] := hl
  obtain ⟨tag, mod, ed, hL, hcase⟩ := hP
  have hx := C.1
  have hb := C.2.1
  have hR := C.2.2.2.2.2.2.2
  have hml := C.2.2.1.trans (hl.1.trans hxn.symm).symm
  have hS : va_S (gA (yB0 (xY X))) (xs X).heap (xs X).heap [] := va_S.rf
  have rd : ∀ {H : Heap} {locs : List Loc} {pc mc ms : Nat} {ls : Array Slot} {stk : List Value} {ed' : Nat}, LT (xY X) tag h b o mod ed' n H → decode cJx4a65c_grow_92f84 pc = .ok (.getfield 9, 3) → gV X H locs mc ms (F0 (xm X) (pc + 3) ls (.ref ed' :: stk)) → gV X H locs mc ms (F0 (xm X) pc ls (.ref b :: stk)) := fun hL hd kk =>
    va_get (ws := [(b, .inr (0, [.int mod, .ref _, .int (nI n)]))]) (ci := 0) (C := RJx4a65c) (T := TJx4a65c) (N := 3) (ref := "java/util/ArrayList") hx hb C.hts gcl0_in C.2.2.2.1 C.K (va_P1 ⟨_, rfl, hL.2.2.2.2⟩) 0 rfl rfl 1 (by decide) (C.ht tw107) (fun _ h9 => h9) rfl hd kk
  refine lv_aload_n hx hb dJx4a65c_grow_92f84_0 rfl (lv_at hl 0 rfl) ?_
  refine rd hL dJx4a65c_grow_92f84_1 ?_
  rcases hcase with ⟨rfl, rfl⟩ | ⟨h2, f, hA⟩
  · obtain ⟨-, -, -, -, -, hZ, ⟨-, cell, g1, g2, g3, g4⟩, -, -⟩ := C.2.2.2.2.2.2.1
    refine W.alen (n := nI 0) hx hb g1 g2 (by rw [g4]; rfl) rfl rfl dJx4a65c_grow_92f84_4 ?_
    refine W.eq (g2 := F0 (xm X) 5 ls [.int (nI 0)]) rfl ?_
    refine lv_istore_n (lv' := [(2, .int (nI 0)), (0, .ref b), (1, .int (nI 1))]) hx hb dJx4a65c_grow_92f84_5 rfl hl (by decide) rfl (fun ls hl => ?_)
    refine lv_iload_n hx hb dJx4a65c_grow_92f84_6 rfl (lv_at hl 0 rfl) ?_
    refine lv_if_gt (tgt := 20) hx hb dJx4a65c_grow_92f84_7 (by decide) (fun q => absurd q (by decide)) (fun _ => ?_)
    refine lv_aload_n hx hb dJx4a65c_grow_92f84_10 rfl (lv_at hl 1 rfl) ?_
    refine rd hL dJx4a65c_grow_92f84_11 ?_
    refine va_gets hx hb hZ hS C.2.2.2.1 (C.ht tw105) (fun _ h9 => h9) dJx4a65c_grow_92f84_14 ?_
    refine lv_acmp_eq (rx := some (yE0 (xY X))) (ry := some (yE0 (xY X))) (tgt := 45) hx hb dJx4a65c_grow_92f84_17 (by decide) (fun _ => ?_) (fun q => absurd rfl q)
    refine lv_aload_n hx hb dJx4a65c_grow_92f84_45 rfl (lv_at hl 1 rfl) ?_
    refine lv_bipush (v := nI 10) hx hb dJx4a65c_grow_92f84_46 (by decide) ?_
    refine lv_iload_n hx hb dJx4a65c_grow_92f84_48 rfl (lv_at hl 2 rfl) ?_
    refine va_mmax hx hb (C.2.2.1.trans (hl.1.trans hxn.symm).symm) C.2.2.2.1 (C.ht tw425) (C.ht tw387) (C.ht tw73) (C.ht tw388) (by rw [hR]; show 1 ≤ 3; decide) (by rw [hR]; show 1 + 13 ≤ 160; decide) (by rw [hR]; show 0 ≤ 1; decide) (by rw [hR]; exact Nat.zero_le _) dJx4a65c_grow_92f84_49 ?_
    rw [if_neg (show ¬ nI 10 < nI 1 by decide)]
    refine v_anew (N := 10) C dJx4a65c_grow_92f84_52 tw426 (by omega) ⟨Nat.le_refl 1, by show 0 + 10 ≤ B; omega⟩ hS (fun H' e1 e2 e3 hS' => ?_)
    refine lv_dup_x1 hx hb dJx4a65c_grow_92f84_55 rfl rfl ?_
    have hL' : LT (xY X) (fun q => if q = (xs X).heap.size then (b, 1) else tag q) h b o mod (yE0 (xY X)) 0 H' := ⟨hL.1.kept fun q h1 => ⟨e3 q h1, if_neg (Nat.ne_of_lt h1)⟩, hL.2.1, hL.2.2.1, hL.2.2.2.1, hL.2.2.2.2.kept (e3 b (t_OB_lt hL.2.2.2.2))⟩
    have hA' : LA (xY X) (fun q => if q = (xs X).heap.size then (b, 1) else tag q) b o (xs X).heap.size 0 10 (fun _ => none) H' := ⟨⟨if_pos rfl, t_OB_lt hL.2.2.2.2⟩, e1, fun j hj => absurd hj (Nat.not_lt_zero j)⟩
    refine v_lput C dJx4a65c_grow_92f84_56 hL' hA' (by omega) hS' (fun H2 locs2 hL2 hA2 hS2 => ?_)
    rw [gV, hQ]
    exact W.widen (Nat.le_refl 1) (by show 0 + 10 ≤ B; omega) (W.aret hx hb C.2.2.2.2.1 (Or.inr ⟨_, rfl⟩) (Or.inr ⟨_, rfl⟩) (fun t ht hW => ⟨⟨(), _, rfl, True.intro, by show QG _ _ _ _ _ _ t.heap; rw [ht]; exact ⟨_, _, _, _, hL2, hA2, by omega⟩⟩, hS2.F ht⟩) hS2.2.2 dJx4a65c_grow_92f84_59 C.2.2.2.2.2.1)
  · have h1 : (xs X).heap[ed]? = some (arrV ((ydA (xY X)) 3) n (fun j => va_rf (f j))) := hA.2.1
    refine va_alen (ws := [(ed, q_arr (ydA (xY X)) n f)]) hx hb C.K (va_P1 h1) 0 3 rfl rfl (v := nI n) rfl dJx4a65c_grow_92f84_4 ?_
    refine lv_istore_n (lv' := [(2, .int (nI n)), (0, .ref b), (1, .int (nI (n + 1)))]) hx hb dJx4a65c_grow_92f84_5 rfl hl (by decide) rfl (fun ls hl => ?_)
    refine lv_iload_n hx hb dJx4a65c_grow_92f84_6 rfl (lv_at hl 0 rfl) ?_
    refine lv_if_gt (tgt := 20) hx hb dJx4a65c_grow_92f84_7 (by decide) (fun _ => ?_) (fun q => absurd (show nI 0 < nI n from nI_lt (by omega) (by omega)) q)
    refine lv_iload_n hx hb dJx4a65c_grow_92f84_20 rfl (lv_at hl 0 rfl) ?_
    refine lv_iload_n hx hb dJx4a65c_grow_92f84_21 rfl (lv_at hl 2 rfl) ?_
    refine lv_iload_n hx hb dJx4a65c_grow_92f84_22 rfl (lv_at hl 0 rfl) ?_
    refine lv_isub hx hb dJx4a65c_grow_92f84_23 ?_
    rw [pk_sub (by omega : n ≤ n + 1), show n + 1 - n = 1 by omega]
    refine lv_iload_n hx hb dJx4a65c_grow_92f84_24 rfl (lv_at hl 0 rfl) ?_
    refine lv_iconst (v := 1) hx hb dJx4a65c_grow_92f84_25 (by decide) ?_
    refine lv_ishr hx hb dJx4a65c_grow_92f84_26 ?_
    rw [pk_shrN (by omega) _ 1 (by decide), Nat.pow_one]
    have hcw : CallB (xR X) (xs X) (xa X) RJx4a65c 73 yJ8_newLength_cabcc cJ8_newLength_cabcc 4 (some .int) [Cond.code yJ8_newLength_cabcc cJ8_newLength_cabcc 4 (some .int)] rm_nl 0 0 3 := g_callB (mc := 0) (ms := 0) C mt_J8_newLength_cabcc tw383 ⟨rfl, rfl, ⟨Nat.le_of_ble_eq_true rfl, Nat.le_of_ble_eq_true rfl⟩, ⟨by show 0 + 0 ≤ 1; decide, by show 0 + 0 ≤ B; omega⟩⟩
    refine va_calli (va_runS (As := [.int (nI n), .int 1, .int (nI (n / 2))]) (rest := []) ⟨hx, hb, C.2.2.1.trans hxn, C.2.2.2.1, C.hts⟩ (k_nl h2 hn) ⟨hcw, C.ht tw384⟩ ⟨fun a U g mk q => ⟨q.1, True.intro, gE_go q.2.2 va_S.rf rfl (State.WarmedH.refl U)⟩, fun U hU hW => ⟨rfl, True.intro, gE_go C.2.2.2.2.2.2.1 hS hU hW⟩⟩ rfl rfl hl.1 rfl (lv_room (Nat.le_of_ble_eq_true rfl)) dJx4a65c_grow_92f84_27 (by rw [hR]; exact ⟨by show 0 + 0 ≤ 1; decide, by show 0 + 0 ≤ B; omega⟩)) hS (fun _ _ z => z.elim) (fun _ z => z.elim) (fun r u t H1 locs1 ht hvm hr hB9 hz hk hS1 => ?_)
    subst hr
    have hk : ∀ q, q < (xs X).heap.size → H1[q]? = (xs X).heap[q]? := fun q z => hk q z (fun e => e)
    have hL1 := hL.kept hk
    have hA1 := hA.kept hk
    refine lv_istore_n (lv' := [(3, .int (nI (n + n / 2))), (2, .int (nI n)), (0, .ref b), (1, .int (nI (n + 1)))]) hx hb dJx4a65c_grow_92f84_30 rfl hl (by decide) rfl (fun ls hl => ?_)
    refine lv_aload_n hx hb dJx4a65c_grow_92f84_31 rfl (lv_at hl 2 rfl) ?_
    refine lv_aload_n hx hb dJx4a65c_grow_92f84_32 rfl (lv_at hl 2 rfl) ?_
    refine rd hL1 dJx4a65c_grow_92f84_33 ?_
    refine lv_iload_n hx hb dJx4a65c_grow_92f84_36 rfl (lv_at hl 0 rfl) ?_
    have hcw2 : CallB (xR X) (xs X) (xa X) RJx4a65c 66 yJ7_copyOf_1904c cJ7_copyOf_1904c 2 (some (.array (.object "java/lang/Object"))) [Cond.code yJ7_copyOf_1904c cJ7_copyOf_1904c 2 (some (.array (.object "java/lang/Object")))] (rm_cp2 B) 1 B 2 := g_callB (mc := 0) (ms := 0) C mt_J7_copyOf_1904c tw393 ⟨rfl, rfl, ⟨Nat.le_of_ble_eq_true rfl, Nat.le_of_ble_eq_true rfl⟩, ⟨by show 0 + 1 ≤ 1; decide, by show 0 + B ≤ B; omega⟩⟩
    have hbB : yB0 (xY X) ≤ ed := Nat.le_of_lt (Nat.lt_of_le_of_lt (hL.1 b 0 o hL.2.1).1 hA.1.2)
    have hB1 : yB0 (xY X) ≤ H1.size := by
      obtain ⟨-, -, -, -, -, -, -, -, h13⟩ := C.2.2.2.2.2.2.1
      exact Nat.le_trans h13 hS1.1
    refine va_callr (va_runS (As := [.ref ed, .int (nI (n + n / 2))]) (rest := [.ref b]) ⟨hx, hb, C.2.2.1.trans hxn, C.2.2.2.1, C.hts⟩ (k_cp2 (B := B) (sz := H1.size) (f := f) (cap := n) (L := n + n / 2) (by omega) (by omega) (by omega) (some_lt hA1.2.1)) ⟨hcw2, C.ht tw394⟩ ⟨fun a U g mk q => ⟨q.1, ⟨q.2.1.1, q.2.1.2.1, q.2.1.2.2⟩, gE_go q.2.2 va_S.rf rfl (State.WarmedH.refl U)⟩, fun U hU hW => ⟨rfl, ⟨by rw [hU], by rw [hU]; exact va_P1 hA1.2.1, fun j y hj hy => by
        obtain ⟨c9, oo, hc9, hy9⟩ := hel j hj
        have ey : y = fR o j := Option.some.inj (hy.symm.trans (hA1.2.2 j hj))
        obtain ⟨cv, g1, g2, ⟨kC, g3⟩, g4⟩ := g_anyO C hL1.1 hc9 hy9
        obtain ⟨k', hk', -⟩ := hW.alike.2.2 _ _ g3
        exact ⟨cv, by rw [hU, ey]; exact g1, g2, ⟨k', hk'⟩, fun c9 h9 => by rw [hW.alike.assignable]; exact g4 c9 (by rw [← hW.alike.findClass]; exact h9)⟩⟩, gE_go C.2.2.2.2.2.2.1 hS1 hU hW⟩⟩ rfl rfl hl.1 rfl (lv_room (Nat.le_of_ble_eq_true rfl)) dJx4a65c_grow_92f84_37 (by rw [hR]; exact ⟨by show 0 + 0 + 1 ≤ 1; decide, by show 0 + 0 + B ≤ B; omega⟩)) hS1 (fun q _ z => z.elim (fun e => by rw [e]; exact hbB) (fun e => Nat.le_trans hB1 e)) (fun q z => z.elim (fun e => by rw [e]; exact hbB) (fun e => Nat.le_trans hB1 e)) (fun u q t H2 locs2 ht hvm hr hB9 hz hk2 hS2 => ?_)
    obtain ⟨hqz, hP2⟩ := hB9
    rw [ht] at hP2
    have e2 : H2[ed]? = some (arrV ((ydA (xY X)) 3) n (fun j => va_rf (f j))) := hP2 0 _ rfl
    have e3 : H2[q]? = some (arrV ((ydA (xY X)) 3) (n + n / 2) (fun j => va_rf (va_cpy f (fun _ => none) 0 0 n j))) := hP2 1 _ rfl
    have hk2 : ∀ x, x < H1.size → H2[x]? = H1[x]? := fun x hx => by
      by_cases e : x = ed
      · rw [e, e2]; exact hA1.2.1.symm
      · exact hk2 x hx (fun z => z.elim e (fun z => by omega))
    refine lv_dup_x1 hx hb dJx4a65c_grow_92f84_40 rfl rfl ?_
    have hL' : LT (xY X) (fun x => if x = q then (b, 1) else tag x) h b o mod ed n H2 := ⟨hL1.1.kept fun x h1 => ⟨hk2 x h1, if_neg (by omega)⟩, hL1.2.1, hL1.2.2.1, hL1.2.2.2.1, hL1.2.2.2.2.kept (hk2 b (t_OB_lt hL1.2.2.2.2))⟩
    have hA' : LA (xY X) (fun x => if x = q then (b, 1) else tag x) b o q n (n + n / 2) (va_cpy f (fun _ => none) 0 0 n) H2 := ⟨⟨if_pos rfl, Nat.lt_of_lt_of_le (t_OB_lt hL1.2.2.2.2) hqz⟩, e3, fun j hj => by rw [pk_cpy_in (Nat.zero_le j) (by omega)]; simpa using hA1.2.2 j hj⟩
    refine v_lput C dJx4a65c_grow_92f84_41 hL' hA' (by omega) hS2 (fun H3 locs3 hL3 hA3 hS3 => ?_)
    rw [gV, hQ]
    exact W.widen (by show 0 + 0 + 1 ≤ 1; decide) (by show 0 + 0 + B ≤ B; omega) (W.aret hx hb C.2.2.2.2.1 (Or.inr ⟨_, rfl⟩) (Or.inr ⟨_, rfl⟩) (fun t ht hW => ⟨⟨(), _, rfl, True.intro, by show QG _ _ _ _ _ _ t.heap; rw [ht]; exact ⟨_, _, _, _, hL3, hA3, by omega⟩⟩, hS3.F ht⟩) hS3.2.2 dJx4a65c_grow_92f84_44 C.2.2.2.2.2.1)
theorem PG.blind {Y : gWx} {h : GH} {b n : Nat} {o : FO} {av : List Value} : FrameBlind (va_Pc av (fun U => PG Y h b o n U.heap ∧ yE Y U)) := fun a U g mk q => ⟨q.1, q.2.1, gE_go q.2.2 va_S.rf rfl (State.WarmedH.refl U)⟩
set_option maxHeartbeats 4000000 in
set_option maxRecDepth 100000 in
theorem k_gr0 {Y : gWx} {h : GH} {b n B : Nat} {o : FO} (hn : n < 1000) (hB : 10 + n + n / 2 ≤ B) (hel : ∀ j, j < n → ∃ c oo, c < 10 ∧ h (fR o j) = some (c, oo)) : Met (yl Y) yJx4a65c_grow_d5877 [Cond.code yJx4a65c_grow_d5877 cJx4a65c_grow_d5877 1 (some (.array (.object "java/lang/Object")))] (rm_gr0 B) (va_Pc [.ref b] (fun U => PG Y h b o n U.heap ∧ yE Y U)) (va_Qr (S := Unit) (fun _ => True) (fun _ q t => QG Y h b o n q t.heap) (gA (yB0 Y))) 1 B (gA (yB0 Y)) := by
  refine gm_ofP (P := fun U => PG Y h b o n U.heap) rfl (Nat.le_of_ble_eq_true rfl) ?_
  intro X hY hxn C hQ hP ls hl
  subst hY
  have C : gC X cJx4a65c_grow_d5877 RJx4a65c (some (.array (.object "java/lang/Object"))) (rm_gr0 B) := C
  have hl : lv_has ls 1 [(0, .ref b)] := hl
  have hP0 := hP
  obtain ⟨tag, mod, ed, hL, hcase⟩ := hP
  have hx := C.1
  have hb := C.2.1
  have hR := C.2.2.2.2.2.2.2
  have hS : va_S (gA (yB0 (xY X))) (xs X).heap (xs X).heap [] := va_S.rf
  refine lv_aload_n hx hb dJx4a65c_grow_d5877_0 rfl (lv_at hl 0 rfl) ?_
  refine lv_aload_n hx hb dJx4a65c_grow_d5877_1 rfl (lv_at hl 0 rfl) ?_
  refine va_get (ws := [(b, .inr (0, [.int mod, .ref ed, .int (nI n)]))]) (ci := 0) (C := RJx4a65c) (T := TJx4a65c) (N := 3) (ref := "java/util/ArrayList") hx hb C.hts gcl0_in C.2.2.2.1 C.K (va_P1 ⟨_, rfl, hL.2.2.2.2⟩) 0 rfl rfl 2 (by decide) (C.ht tw108) (fun _ h9 => h9) rfl dJx4a65c_grow_d5877_2 ?_
  refine lv_iconst (v := 1) hx hb dJx4a65c_grow_d5877_5 (by decide) ?_
  refine lv_iadd hx hb dJx4a65c_grow_d5877_6 ?_
  rw [nI_1]
  have hcw : CallB (xR X) (xs X) (xa X) RJx4a65c 69 yJx4a65c_grow_92f84 cJx4a65c_grow_92f84 4 (some (.array (.object "java/lang/Object"))) [Cond.code yJx4a65c_grow_92f84 cJx4a65c_grow_92f84 4 (some (.array (.object "java/lang/Object")))] (rm_gr B) 1 B 1 := g_callB (mc := 0) (ms := 0) C mt_Jx4a65c_grow_92f84 tw379 ⟨rfl, rfl, ⟨Nat.le_of_ble_eq_true rfl, Nat.le_of_ble_eq_true rfl⟩, ⟨by show 0 + 1 ≤ 1; decide, by show 0 + B ≤ B; omega⟩⟩
  refine va_callr (va_runV (C := RJx4a65c) (As := [.int (nI (n + 1))]) (rest := []) ⟨hx, hb, C.2.2.1.trans hxn, C.2.2.2.1, C.hts⟩ (k_gr hn hB hel) ⟨hcw, C.ht tw381, C.ht tw3⟩ ⟨PG.blind, g_recv C.K ⟨tag, hL.1⟩ (ci := 0) rfl hL.2.1, fun U hU hW => ⟨rfl, by rw [hU]; exact hP0, gE_go C.2.2.2.2.2.2.1 hS hU hW⟩⟩ rfl rfl hl.1 rfl (lv_room (Nat.le_of_ble_eq_true rfl)) dJx4a65c_grow_d5877_7 (by rw [hR]; exact ⟨by show 0 + 1 ≤ 1; decide, by show 0 + B ≤ B; omega⟩)) hS (fun _ _ z => z) (fun _ z => z) (fun u q t H2 locs2 ht hvm hr hB9 hz hk2 hS2 => ?_)
  have hB9 : QG (xY X) h b o n q t.heap := hB9
  rw [ht] at hB9
  rw [hQ]
  exact W.widen (by show 0 + 1 ≤ 1; decide) (by show 0 + B ≤ B; omega) (W.aret hx hb C.2.2.2.2.1 (Or.inr ⟨_, rfl⟩) (Or.inr ⟨_, rfl⟩) (fun t ht hW => ⟨⟨(), _, rfl, True.intro, by show QG _ _ _ _ _ _ t.heap; rw [ht]; exact hB9⟩, hS2.F ht⟩) hS2.2.2 dJx4a65c_grow_d5877_10 C.2.2.2.2.2.1)
/-- a list ahead of an addition -/
def PA (Y : gWx) (h : GH) (b : Nat) (o : FO) (n ed : Nat) (H : Heap) : Prop := ∃ tag mod, LT Y tag h b o mod ed n H ∧ ((ed = yE0 Y ∧ n = 0) ∨ (∃ cap f, LA Y tag b o ed n cap f H ∧ n ≤ cap ∧ 2 ≤ cap ∧ cap ≤ 10 + n + n / 2))
theorem PA.blind {Y : gWx} {h : GH} {b n ed : Nat} {o : FO} {av : List Value} : FrameBlind (va_Pc av (fun U => PA Y h b o n ed U.heap ∧ yE Y U)) := fun a U g mk q => ⟨q.1, q.2.1, gE_go q.2.2 va_S.rf rfl (State.WarmedH.refl U)⟩
theorem lAdd_sz {o : FO} {n x : Nat} (e : fI o 2 = nI n) : fI (lAdd o x) 2 = nI (n + 1) := by
  show fI o 2 + 1 = _
  rw [e, nI_1]
theorem lAdd_at {o : FO} {n x j : Nat} (hn : n < 1000) (e : fI o 2 = nI n) : fR (lAdd o x) j = if j = n then x else fR o j := by
  show va_up _ _ _ _ = _
  unfold va_up
  rw [show (fI o 2).toNatClampNeg = n by rw [e]; exact nI_clamp (by omega)]
  rfl
section VL2
variable {X : gCx} {cc : ByteArray} {own : String} {ret : Option FieldType} {rm : Room} {mc ms pc : Nat} {stk : List Value} {H : Heap} {locs : List Loc} {ls : Array Slot}
/-- the rest of an addition, once the row has a place free: aastore, size -/
theorem v_add (C : gC X cJx4a65c_add_72be8 RJx4a65c none rm) {tag : Nat → Nat × Nat} {h : GH} {b q n cap x c9 : Nat} {o o9 : FO} {mod : Int32} {f : Nat → Option Nat} (hxn : xn X = 4) (hL : LT (xY X) tag h b o mod q n H) (hA : LA (xY X) tag b o q n cap f H) (hc : n < cap ∧ 2 ≤ cap ∧ cap ≤ 10 + n + n / 2) (hS : va_S (gA (yB0 (xY X))) (xs X).heap H locs) (hc9 : c9 < 10) (hx9 : h x = some (c9, o9))
    (hl : lv_has ls 4 [(0, .ref b), (1, .ref x), (2, .ref q), (3, .int (nI n))]) (hQ : xQ X = MQ (xb X) (gQv (xY X) (fun g9 => g9 = hu h b (0, lAdd o x))) (xa X) (xs X) 1 ms (gA (yB0 (xY X)))) {ms' : Nat} (hms : ms' ≤ ms) {mc' : Nat} (hmc : mc' ≤ 1) : gV X H locs mc' ms' (F0 (xm X) 11 ls []) := by
  have hx := C.1
  have hb := C.2.1
  obtain ⟨hG, hhb, hn, e1, hob⟩ := hL
  obtain ⟨b1, b2, b3⟩ := hG b 0 o hhb
  refine lv_aload_n hx hb dJx4a65c_add_72be8_11 rfl (lv_at hl 2 rfl) ?_
  refine lv_iload_n hx hb dJx4a65c_add_72be8_12 rfl (lv_at hl 3 rfl) ?_
  refine lv_aload_n hx hb dJx4a65c_add_72be8_13 rfl (lv_at hl 1 rfl) ?_
  obtain ⟨cellV, g1, g3, ⟨kC, hkC⟩, hasg⟩ := g_anyO C hG hc9 hx9
  obtain ⟨kA, comp, k1, k2, k3, -⟩ := (C.K.2 3 _ rfl).2
  obtain ⟨kE, hkE, -⟩ := Vm.findClass_spec k3
  have hcl : (nI n).toNatClampNeg = n := nI_clamp (by omega)
  refine W.aast hx hb hA.2.1 (fun q h => by cases h) (fun h => by cases h) k1 k2 rfl hkE ⟨nI_pos (by omega), by show _ < (arrV _ _ _).slots.size; rw [arrV_size, hcl]; exact hc.1⟩ g1 (fun q h => by rw [h] at g3; cases g3) hkC (hasg _ k3) rfl rfl dJx4a65c_add_72be8_14 fun H1 e z oq => ?_
  refine W.eq (g2 := F0 (xm X) 15 ls []) rfl ?_
  rw [hcl, arrV_store] at e
  have hqB : yB0 (xY X) ≤ q := Nat.le_of_lt (Nat.lt_of_le_of_lt b1 hA.1.2)
  have hqb : b ≠ q := Nat.ne_of_lt hA.1.2
  have hS1 := hS.put (k := (nI n).toNatClampNeg) z oq hqB
  refine lv_aload_n hx hb dJx4a65c_add_72be8_15 rfl (lv_at hl 0 rfl) ?_
  refine lv_iload_n hx hb dJx4a65c_add_72be8_16 rfl (lv_at hl 3 rfl) ?_
  refine lv_iconst (v := 1) hx hb dJx4a65c_add_72be8_17 (by decide) ?_
  refine lv_iadd hx hb dJx4a65c_add_72be8_18 ?_
  rw [nI_1]
  refine v_lset C (k := 2) (ref := "java/util/ArrayList") (fs := [.int mod, .ref q, .int (nI n)]) dJx4a65c_add_72be8_19 (by decide) tw108 (fun _ h9 => h9) rfl (hob.kept (oq b hqb)) (vp_nar_int _) rfl b1 hS1 (fun H2 locs2 e2 e3 e4 hS2 => ?_)
  have hf : (fun j => va_rf (va_up f n (some x) j)) = updV (fun j => va_rf (f j)) n (.ref x) := by
    funext j
    by_cases hj : j = n
    · subst hj; simp [updV, va_up, va_rf]
    · simp [updV, va_up, hj]
  have hq2 : H2[q]? = some (arrV ((ydA (xY X)) 3) cap (fun j => va_rf (va_up f n (some x) j))) := by rw [e4 q (Ne.symm hqb), e, hf]
  have hGf : yW (xY X) (hu h b (0, lAdd o x)) H2 := by
    refine ⟨tag, hG.upd b1 b2 (fun y h1 h2 => ⟨?_, rfl⟩) ⟨mod, q, n + 1, by omega, lAdd_sz e1, e2, Or.inr ⟨cap, _, hA.1, by omega, by omega, by omega, hq2, fun j hj => ?_⟩⟩⟩
    · rw [e4 y (fun z => h2 (by rw [z, b2])), oq y (fun z => h2 (by rw [z, hA.1.1]))]
    · rw [lAdd_at hn e1]
      by_cases e : j = n
      · subst e; simp [va_up]
      · simp only [va_up, if_neg e]; exact hA.2.2 j (by omega)
  rw [gV, hQ]
  exact W.widen hmc hms (W.vret hx hb C.2.2.2.2.1 (fun t ht hW => ⟨⟨_, rfl, rfl, by show yW _ _ t.heap; rw [ht]; exact hGf⟩, hS2.F ht⟩) hS2.2.2 dJx4a65c_add_72be8_22 C.2.2.2.2.2.1)
end VL2
