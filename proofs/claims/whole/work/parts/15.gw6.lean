theorem tw73 : Cond.initialized "java/lang/Math" ∈ TW := tw_in 73 (by decide +kernel) (by decide +kernel)
theorem tw74 : Cond.initialized "java/util/Arrays" ∈ TW := tw_in 74 (by decide +kernel) (by decide +kernel)
theorem tw75 : Cond.initialized "java/lang/System" ∈ TW := tw_in 75 (by decide +kernel) (by decide +kernel)
theorem tw395 : Cond.code ⟨"java/util/Arrays","copyOf","([Ljava/lang/Object;I)[Ljava/lang/Object;"⟩ prog_28_method_119_code 2 (some (.array (.object "java/lang/Object"))) ∈ TW := tw_in 395 (by decide +kernel) (by decide +kernel)
theorem tw396 : Cond.methodLink "java/util/Arrays" 86 ⟨"java/lang/Object","getClass","()Ljava/lang/Class;"⟩ ∈ TW := tw_in 396 (by decide +kernel) (by decide +kernel)
theorem tw397 : Cond.instanceMethod ⟨"java/lang/Object","getClass","()Ljava/lang/Class;"⟩ ∈ TW := tw_in 397 (by decide +kernel) (by decide +kernel)
theorem tw412 : Cond.native ⟨"java/lang/Object","getClass","()Ljava/lang/Class;"⟩ ∈ TW := tw_in 412 (by decide +kernel) (by decide +kernel)
theorem tw413 : Cond.methodLink "java/util/Arrays" 300 ⟨"java/util/Arrays","copyOf","([Ljava/lang/Object;ILjava/lang/Class;)[Ljava/lang/Object;"⟩ ∈ TW := tw_in 413 (by decide +kernel) (by decide +kernel)
theorem tw414 : Cond.static ⟨"java/util/Arrays","copyOf","([Ljava/lang/Object;ILjava/lang/Class;)[Ljava/lang/Object;"⟩ ∈ TW := tw_in 414 (by decide +kernel) (by decide +kernel)
theorem tw415 : Cond.code ⟨"java/util/Arrays","copyOf","([Ljava/lang/Object;ILjava/lang/Class;)[Ljava/lang/Object;"⟩ prog_28_method_120_code 4 (some (.array (.object "java/lang/Object"))) ∈ TW := tw_in 415 (by decide +kernel) (by decide +kernel)
theorem tw416 : Cond.classLink "java/util/Arrays" 110 "[Ljava/lang/Object;" ∈ TW := tw_in 416 (by decide +kernel) (by decide +kernel)
theorem tw418 : Cond.classLink "java/util/Arrays" 2 "java/lang/Object" ∈ TW := tw_in 418 (by decide +kernel) (by decide +kernel)
theorem tw419 : Cond.methodLink "java/util/Arrays" 304 ⟨"java/lang/Math","min","(II)I"⟩ ∈ TW := tw_in 419 (by decide +kernel) (by decide +kernel)
theorem tw420 : Cond.static ⟨"java/lang/Math","min","(II)I"⟩ ∈ TW := tw_in 420 (by decide +kernel) (by decide +kernel)
theorem tw421 : Cond.code ⟨"java/lang/Math","min","(II)I"⟩ prog_20_method_69_code 2 (some .int) ∈ TW := tw_in 421 (by decide +kernel) (by decide +kernel)
theorem tw422 : Cond.methodLink "java/util/Arrays" 150 ⟨"java/lang/System","arraycopy","(Ljava/lang/Object;ILjava/lang/Object;II)V"⟩ ∈ TW := tw_in 422 (by decide +kernel) (by decide +kernel)
theorem tw423 : Cond.static ⟨"java/lang/System","arraycopy","(Ljava/lang/Object;ILjava/lang/Object;II)V"⟩ ∈ TW := tw_in 423 (by decide +kernel) (by decide +kernel)
theorem tw424 : Cond.native ⟨"java/lang/System","arraycopy","(Ljava/lang/Object;ILjava/lang/Object;II)V"⟩ ∈ TW := tw_in 424 (by decide +kernel) (by decide +kernel)
theorem tw1482 : Cond.selects "[Ljava/lang/Object;" ⟨"java/lang/Object","getClass","()Ljava/lang/Class;"⟩ ⟨"java/lang/Object","getClass","()Ljava/lang/Class;"⟩ ∈ TW := tw_in 1482 (by decide +kernel) (by decide +kernel)
theorem tw1483 : Cond.declares ⟨"java/lang/Object","getClass","()Ljava/lang/Class;"⟩ ∈ TW := tw_in 1483 (by decide +kernel) (by decide +kernel)
/-! ArrayList.add, and what stands below it -/
abbrev q_arr (dA : Nat → ClassId) (n : Nat) (f : Nat → Option Nat) : va_E := .inl (dA 3, n, .inr (.inr (.inr (.inr f))))
theorem gm_ofP {Y : gWx} {y : MethodName} {bytes : ByteArray} {maxL : Nat} {rt : Option FieldType} {rm : Room} {av : List Value} {P : State → Prop} {Qc : Array Value → State → Outcome → State → Prop} {mc ms : Nat} {free : Nat → Prop} (hy : plainName y.cls = true) (hlen : (lg_sl av).length ≤ maxL)
    (body : ∀ X : gCx, xY X = Y → xn X = maxL → gC X bytes y.cls rt rm → xQ X = MQ (xb X) Qc (xa X) (xs X) mc ms free → P (xs X) → ∀ ls, lv_has ls maxL (lv_args 0 av) → gV X (xs X).heap [] 0 0 (F0 (xm X) 0 ls [])) : Met (yl Y) y [Cond.code y bytes maxL rt] rm (va_Pc av (fun U => P U ∧ yE Y U)) Qc mc ms free := by
  refine Met.ofW (cc := bytes) (maxL := maxL) (ret := rt) hy rfl ?_
  intro p e s m args below meth c s₁ B hml hv
  obtain ⟨rfl, hP, hE⟩ := hv
  rw [lg_entry_eq]
  exact body (Y, p, e, rm, s, m, av.toArray, below, meth, c, MQ below Qc av.toArray s mc ms free, maxL) rfl rfl ⟨B.exec, B.bytes, hml, findClass_of_methodNamed B.named, B.returns, B.notSynchronized, hE, rfl⟩ rfl hP _ (lv_entry av hlen)
theorem va_D1 {A : Nat → Prop} {a : Nat} {e : va_E} (h : A a) : va_D A [(a, e)] := ⟨fun i j p q h1 h2 _ => by
    cases i with
    | zero => cases j with
      | zero => rfl
      | succ j => simp at h2
    | succ i => simp at h1, fun k q hk => by
    cases k with
    | zero => cases hk; exact h
    | succ k => simp at hk⟩
theorem va_P1 {D : va_G} {cl : List vw_C} {q : Nat × va_E} {H : Heap} (h : va_at D cl q H) : va_P D cl [q] H := fun k x hk => by
  cases k with
  | zero => cases hk; exact h
  | succ k => simp at hk
theorem ra_one {U : State} {C : String} {c1 c2 : ClassId} (h1 : va_RA U c1 (.object C)) (h2 : va_RA U c2 (.object C)) : c1 = c2 := by
  obtain ⟨_, _, -, -, -, g1⟩ := h1
  obtain ⟨_, _, -, -, -, g2⟩ := h2
  exact Option.some.inj (g1.symm.trans g2)
def rm_cp3 (B : Nat) : Room := { frames := 1, cells := 1, slots := B, locals := 60 }
def rm_cp2 (B : Nat) : Room := { frames := 2, cells := 1, slots := B, locals := 100 }
abbrev q_post (Y : gWx) (ed cap L sz : Nat) (f : Nat → Option Nat) := va_Qr (S := Unit) (fun _ => True) (fun _ a t => sz ≤ a ∧ va_P (yD Y) vwCl [(ed, q_arr (ydA Y) cap f), (a, q_arr (ydA Y) L (va_cpy f (fun _ => none) 0 0 cap))] t.heap) (fun q => q = ed ∨ sz ≤ q)
set_option maxHeartbeats 4000000 in
set_option maxRecDepth 100000 in
theorem k_cp3 {Y : gWx} {ed cap L mi sz B : Nat} {f : Nat → Option Nat} (hL : cap ≤ L) (hL2 : L ≤ 5000) (hB : L ≤ B) (hed : ed < sz) :
    Met (yl Y) yJ7_copyOf_6403c [Cond.code yJ7_copyOf_6403c cJ7_copyOf_6403c 4 (some (.array (.object "java/lang/Object")))] (rm_cp3 B) (va_Pc [.ref ed, .int (nI L), .ref mi] (fun U => (U.heap.size = sz ∧ va_P (yD Y) vwCl [(ed, q_arr (ydA Y) cap f)] U.heap ∧ va_Mi "[Ljava/lang/Object;" mi U ∧ ∀ j y, j < cap → f j = some y → va_Any "java/lang/Object" U U.heap y) ∧ yE Y U)) (q_post Y ed cap L sz f) 1 B (fun q => q = ed ∨ sz ≤ q) := by
  refine gm_ofP rfl (Nat.le_of_ble_eq_true rfl) ?_
  intro X hY hn C hQ hP ls hl
  subst hY
  obtain ⟨hsz, hP, hM, hel⟩ := hP
  have hP0 := hP
  have C : gC X cJ7_copyOf_6403c RJ7 (some (.array (.object "java/lang/Object"))) (rm_cp3 B) := C
  have hl : lv_has ls 4 [(0, .ref ed), (1, .int (nI L)), (2, .ref mi)] := hl
  have hx := C.1
  have hb := C.2.1
  have hAO : va_AO "java/lang/Object" (xs X) := C.2.2.2.2.2.2.1.2.2.2.2.2.2.2.1.2
  have hR := C.2.2.2.2.2.2.2
  have hA : ∀ q, (xs X).heap.size ≤ q → q = ed ∨ sz ≤ q := fun q h => Or.inr (by rw [← hsz]; exact h)
  have hD : va_D (fun q => q = ed ∨ sz ≤ q) [(ed, q_arr (ydA (xY X)) cap f)] := va_D1 (Or.inl rfl)
  have hS : va_S (fun q => q = ed ∨ sz ≤ q) (xs X).heap (xs X).heap [] := va_S.rf
  refine lv_aload_n hx hb dJ7_copyOf_6403c_0 rfl (lv_at hl 2 rfl) ?_
  refine va_ldcM hx hb C.2.2.2.1 (C.ht tw416) hM dJ7_copyOf_6403c_1 ?_
  refine lv_acmp_ne (rx := some mi) (ry := some mi) (tgt := 13) hx hb dJ7_copyOf_6403c_3 (by decide) (fun q => absurd rfl q) (fun _ => ?_)
  refine lv_iload_n hx hb dJ7_copyOf_6403c_6 rfl (lv_at hl 1 rfl) ?_
  have hcl : (nI L).toNatClampNeg = L := nI_clamp (by omega)
  refine va_newq hx hb C.2.2.2.1 (C.ht tw418) hAO C.K hP hD hS hA (nI_pos (by omega)) hcl (by omega) (by rw [hR]; exact Nat.le_refl 1) (by rw [hR]; show 0 + L ≤ B; omega) dJ7_copyOf_6403c_7 (fun q cA H1 hK hP hD hS => ?_)
  have hcA : cA = (ydA (xY X)) 3 := ra_one (hK.2 4 _ rfl).2 (hK.2 3 _ rfl).2
  subst hcA
  have hqz : sz ≤ q := by
    rcases hD.2 1 _ rfl with h | h
    · exact absurd (hD.1 0 1 _ _ rfl rfl h.symm) (by decide)
    · exact h
  refine lv_goto (tgt := 24) hx hb dJ7_copyOf_6403c_10 (by decide) ?_
  refine lv_astore_n (lv' := [(3, .ref q), (0, .ref ed), (1, .int (nI L)), (2, .ref mi)]) hx hb dJ7_copyOf_6403c_24 rfl hl (by decide) rfl (fun ls hl => ?_)
  refine lv_aload_n hx hb dJ7_copyOf_6403c_25 rfl (lv_at hl 1 rfl) ?_
  refine lv_iconst (v := 0) hx hb dJ7_copyOf_6403c_26 (by decide) ?_
  refine lv_aload_n hx hb dJ7_copyOf_6403c_27 rfl (lv_at hl 0 rfl) ?_
  refine lv_iconst (v := 0) hx hb dJ7_copyOf_6403c_28 (by decide) ?_
  refine lv_aload_n hx hb dJ7_copyOf_6403c_29 rfl (lv_at hl 1 rfl) ?_
  refine va_alen hx hb hK hP 0 3 rfl rfl (v := nI cap) rfl dJ7_copyOf_6403c_30 ?_
  refine lv_iload_n hx hb dJ7_copyOf_6403c_31 rfl (lv_at hl 2 rfl) ?_
  refine va_mmin hx hb (C.2.2.1.trans (hl.1.trans hn.symm).symm) C.2.2.2.1 (C.ht tw419) (C.ht tw420) (C.ht tw73) (C.ht tw421) (by rw [hR]; exact Nat.le_refl 1) (by rw [hR]; show 4 + 13 ≤ 60; decide) (by rw [hR]; exact Nat.le_refl 1) (by rw [hR]; show 0 + L ≤ B; omega) dJ7_copyOf_6403c_32 ?_
  rw [if_neg (nI_nlt hL (by omega))]
  have hcc : (nI cap).toNatClampNeg = cap := nI_clamp (by omega)
  refine va_copyM hx hb (C.2.2.1.trans (hl.1.trans hn.symm).symm) C.2.2.2.1 (C.ht tw422) (C.ht tw424) (C.ht tw423) (C.ht tw75) hK hP hD hS 0 1 3 4 rfl rfl rfl rfl (by decide) (by decide) (nI_pos (by omega)) (by rw [hcc]; show 0 + cap ≤ cap; omega) (by rw [hcc]; show 0 + cap ≤ L; omega) (fun i hi y hy => ?_) (by rw [hR]; exact Nat.le_refl 1) (by rw [hR]; show 0 + (_ + 11) ≤ 60; decide) dJ7_copyOf_6403c_35 (fun H2 locs hP2 hD2 hS2 => ?_)
  · rw [hcc] at hi
    have hy : f (0 + i) = some y := hy
    rw [Nat.zero_add] at hy
    obtain ⟨cv, g1, g2, g3, g4⟩ := hel i y hi hy
    have hlt : y < (xs X).heap.size := some_lt g1
    refine ⟨cv, ?_, g2, g3, g4⟩
    by_cases e : y = ed
    · subst e
      have e1 : H1[y]? = _ := hP 0 _ rfl
      have e2 := hP0 0 _ rfl
      exact (e1.trans (Eq.symm e2)).trans g1
    · rw [hS.2.1 y hlt (fun z => z.elim e (fun z => by omega))]; exact g1
  · rw [hcc] at hP2
    refine lv_aload_n hx hb dJ7_copyOf_6403c_38 rfl (lv_at hl 0 rfl) ?_
    rw [hQ]
    exact W.widen (Nat.le_refl 1) (by omega) (W.aret hx hb C.2.2.2.2.1 (Or.inr ⟨_, rfl⟩) (Or.inr ⟨q, rfl⟩) (fun t ht hW => ⟨⟨(), q, rfl, True.intro, hqz, by rw [ht]; exact hP2⟩, hS2.F ht⟩) hS2.2.2 dJ7_copyOf_6403c_39 C.2.2.2.2.2.1)
theorem mt_J7_copyOf_6403c : gMt yJ7_copyOf_6403c cJ7_copyOf_6403c 4 (some (.array (.object "java/lang/Object"))) 3 := ⟨tw415, tw74, by decide +kernel, by decide +kernel, by decide +kernel⟩
theorem mt_J7_copyOf_1904c : gMt yJ7_copyOf_1904c cJ7_copyOf_1904c 2 (some (.array (.object "java/lang/Object"))) 2 := ⟨tw395, tw74, by decide +kernel, by decide +kernel, by decide +kernel⟩
set_option maxHeartbeats 4000000 in
set_option maxRecDepth 100000 in
theorem k_cp2 {Y : gWx} {ed cap L sz B : Nat} {f : Nat → Option Nat} (hL : cap ≤ L) (hL2 : L ≤ 5000) (hB : L ≤ B) (hed : ed < sz) :
    Met (yl Y) yJ7_copyOf_1904c [Cond.code yJ7_copyOf_1904c cJ7_copyOf_1904c 2 (some (.array (.object "java/lang/Object")))] (rm_cp2 B) (va_Pc [.ref ed, .int (nI L)] (fun U => (U.heap.size = sz ∧ va_P (yD Y) vwCl [(ed, q_arr (ydA Y) cap f)] U.heap ∧ ∀ j y, j < cap → f j = some y → va_Any "java/lang/Object" U U.heap y) ∧ yE Y U)) (q_post Y ed cap L sz f) 1 B (fun q => q = ed ∨ sz ≤ q) := by
  refine gm_ofP rfl (Nat.le_of_ble_eq_true rfl) ?_
  intro X hY hn C hQ hP ls hl
  subst hY
  obtain ⟨hsz, hP, hel⟩ := hP
  have C : gC X cJ7_copyOf_1904c RJ7 (some (.array (.object "java/lang/Object"))) (rm_cp2 B) := C
  have hl : lv_has ls 2 [(0, .ref ed), (1, .int (nI L))] := hl
  have hx := C.1
  have hb := C.2.1
  obtain ⟨mi, hM⟩ := C.2.2.2.2.2.2.1.2.2.2.2.2.2.2.1.1
  have hR := C.2.2.2.2.2.2.2
  have hS : va_S (fun q => q = ed ∨ sz ≤ q) (xs X).heap (xs X).heap [] := va_S.rf
  have hml := C.2.2.1.trans (hl.1.trans hn.symm).symm
  refine lv_aload_n hx hb dJ7_copyOf_1904c_0 rfl (lv_at hl 0 rfl) ?_
  refine lv_iload_n hx hb dJ7_copyOf_1904c_1 rfl (lv_at hl 1 rfl) ?_
  refine lv_aload_n hx hb dJ7_copyOf_1904c_2 rfl (lv_at hl 0 rfl) ?_
  have e1 : (xs X).heap[ed]? = some (arrV ((ydA (xY X)) 3) cap (fun j => va_rf (f j))) := hP 0 _ rfl
  obtain ⟨kA, comp, k1, k2, k3, k4⟩ := (C.K.2 3 _ rfl).2
  refine va_getC (C := "[Ljava/lang/Object;") hx hb hml C.2.2.2.1 (C.ht tw396) (C.ht tw1483) (C.ht tw1482) (C.ht tw397) (C.ht tw412) hM ⟨_, e1, rfl, k4⟩ (by rw [hR]; show 1 ≤ 2; decide) (by rw [hR]; show 2 + 14 ≤ 100; decide) dJ7_copyOf_1904c_3 ?_
  have hcw : CallB (xR X) (xs X) (xa X) RJ7 300 yJ7_copyOf_6403c cJ7_copyOf_6403c 4 (some (.array (.object "java/lang/Object"))) [Cond.code yJ7_copyOf_6403c cJ7_copyOf_6403c 4 (some (.array (.object "java/lang/Object")))] (rm_cp3 B) 1 B 3 := g_callB (mc := 0) (ms := 0) C mt_J7_copyOf_6403c tw413 ⟨rfl, rfl, ⟨Nat.le_of_ble_eq_true rfl, Nat.le_of_ble_eq_true rfl⟩, ⟨by show 0 + 1 ≤ 1; decide, by show 0 + B ≤ B; omega⟩⟩
  refine va_callr (va_runS (As := [.ref ed, .int (nI L), .ref mi]) (rest := []) ⟨hx, hb, hml.trans hl.1, C.2.2.2.1, C.hts⟩ (k_cp3 (mi := mi) (f := f) hL hL2 hB hed) ⟨hcw, C.ht tw414⟩ ⟨fun a U g mk q => ⟨q.1, ⟨q.2.1.1, q.2.1.2.1, q.2.1.2.2.1, q.2.1.2.2.2⟩, gE_go q.2.2 va_S.rf rfl (State.WarmedH.refl U)⟩, fun U hU hW => ⟨rfl, ⟨by rw [hU]; exact hsz, by rw [hU]; exact hP, hM.moved hW.alike, fun j y hj hy => by
      obtain ⟨cv, g1, g2, ⟨kC, g3⟩, g4⟩ := hel j y hj hy
      obtain ⟨k', hk', -⟩ := hW.alike.2.2 _ _ g3
      exact ⟨cv, by rw [hU]; exact g1, g2, ⟨k', hk'⟩, fun c9 h9 => by rw [hW.alike.assignable]; exact g4 c9 (by rw [← hW.alike.findClass]; exact h9)⟩⟩, gE_go C.2.2.2.2.2.2.1 va_S.rf hU hW⟩⟩ rfl rfl hl.1 rfl (lv_room (Nat.le_of_ble_eq_true rfl)) dJ7_copyOf_1904c_6 (by rw [hR]; exact ⟨by show 0 + 1 ≤ 1; decide, by show 0 + B ≤ B; omega⟩)) hS (fun _ _ z => z) (fun _ z => z) (fun u ra t H1 locs1 ht hvm hp hB9 hz hk hS1 => ?_)
  obtain ⟨hra, hP1⟩ := hB9
  rw [ht] at hP1
  rw [hQ]
  exact W.widen (Nat.le_refl 1) (by omega) (W.aret hx hb C.2.2.2.2.1 (Or.inr ⟨_, rfl⟩) (Or.inr ⟨ra, rfl⟩) (fun t ht hW => ⟨⟨(), ra, rfl, True.intro, hra, by rw [ht]; exact hP1⟩, hS1.F ht⟩) hS1.2.2 dJ7_copyOf_1904c_9 C.2.2.2.2.2.1)
