theorem tw1 : Cond.selects "java/util/ArrayList" ⟨"java/util/ArrayList","add","(Ljava/lang/Object;[Ljava/lang/Object;I)V"⟩ ⟨"java/util/ArrayList","add","(Ljava/lang/Object;[Ljava/lang/Object;I)V"⟩ ∈ TW := tw_in 1 (by decide +kernel) (by decide +kernel)
theorem tw2 : Cond.selects "java/util/ArrayList" ⟨"java/util/ArrayList","grow","()[Ljava/lang/Object;"⟩ ⟨"java/util/ArrayList","grow","()[Ljava/lang/Object;"⟩ ∈ TW := tw_in 2 (by decide +kernel) (by decide +kernel)
theorem tw110 : Cond.fieldLink "java/util/ArrayList" 63 "java/util/ArrayList" "modCount" "I" ∈ TW := tw_in 110 (by decide +kernel) (by decide +kernel)
theorem tw111 : Cond.sameField "java/util/ArrayList" "java/util/AbstractList" "modCount" "I" ∈ TW := tw_in 111 (by decide +kernel) (by decide +kernel)
theorem tw371 : Cond.methodLink "java/util/ArrayList" 131 ⟨"java/util/ArrayList","add","(Ljava/lang/Object;[Ljava/lang/Object;I)V"⟩ ∈ TW := tw_in 371 (by decide +kernel) (by decide +kernel)
theorem tw373 : Cond.instanceMethod ⟨"java/util/ArrayList","add","(Ljava/lang/Object;[Ljava/lang/Object;I)V"⟩ ∈ TW := tw_in 373 (by decide +kernel) (by decide +kernel)
theorem tw375 : Cond.methodLink "java/util/ArrayList" 129 ⟨"java/util/ArrayList","grow","()[Ljava/lang/Object;"⟩ ∈ TW := tw_in 375 (by decide +kernel) (by decide +kernel)
theorem tw377 : Cond.instanceMethod ⟨"java/util/ArrayList","grow","()[Ljava/lang/Object;"⟩ ∈ TW := tw_in 377 (by decide +kernel) (by decide +kernel)
set_option maxHeartbeats 4000000 in
set_option maxRecDepth 100000 in
theorem k_ad3 {Y : gWx} {h : GH} {b x c9 ed n B : Nat} {o o9 : FO} (hn : n < 1000) (hB : 10 + n + n / 2 ≤ B) (hel : ∀ j, j < n → ∃ c oo, c < 10 ∧ h (fR o j) = some (c, oo)) (hc9 : c9 < 10) (hx9 : h x = some (c9, o9)) : Met (yl Y) yJx4a65c_add_72be8 [Cond.code yJx4a65c_add_72be8 cJx4a65c_add_72be8 4 none] (rm_ad3 B) (va_Pc [.ref b, .ref x, .ref ed, .int (nI n)] (fun U => PA Y h b o n ed U.heap ∧ yE Y U)) (gQv Y (fun g9 => g9 = hu h b (0, lAdd o x))) 1 B (gA (yB0 Y)) := by
  refine gm_ofP (P := fun U => PA Y h b o n ed U.heap) rfl (Nat.le_of_ble_eq_true rfl) ?_
  intro X hY hxn C hQ hP ls hl
  subst hY
  have C : gC X cJx4a65c_add_72be8 RJx4a65c none (rm_ad3 B) := C
  have hl : lv_has ls 4 [(0, .ref b), (1, .ref x), (2, .ref ed), (3, .int (nI n))] := hl
  obtain ⟨tag, mod, hL, hcase⟩ := hP
  have hx := C.1
  have hb := C.2.1
  have hR := C.2.2.2.2.2.2.2
  have hS : va_S (gA (yB0 (xY X))) (xs X).heap (xs X).heap [] := va_S.rf
  have grow : ∀ {ls : Array Slot}, lv_has ls 4 [(0, .ref b), (1, .ref x), (2, .ref ed), (3, .int (nI n))] → PG (xY X) h b o n (xs X).heap → gV X (xs X).heap [] 0 0 (F0 (xm X) 6 ls []) := fun {ls} hl hP => by
    refine lv_aload_n hx hb dJx4a65c_add_72be8_6 rfl (lv_at hl 0 rfl) ?_
    have hcw : CallB (xR X) (xs X) (xa X) RJx4a65c 129 yJx4a65c_grow_d5877 cJx4a65c_grow_d5877 1 (some (.array (.object "java/lang/Object"))) [Cond.code yJx4a65c_grow_d5877 cJx4a65c_grow_d5877 1 (some (.array (.object "java/lang/Object")))] (rm_gr0 B) 1 B 0 := g_callB (mc := 0) (ms := 0) C mt_Jx4a65c_grow_d5877 tw375 ⟨rfl, rfl, ⟨Nat.le_of_ble_eq_true rfl, Nat.le_of_ble_eq_true rfl⟩, ⟨by show 0 + 1 ≤ 1; decide, by show 0 + B ≤ B; omega⟩⟩
    refine va_callr (va_runV (C := RJx4a65c) (As := []) (rest := []) ⟨hx, hb, C.2.2.1.trans hxn, C.2.2.2.1, C.hts⟩ (k_gr0 hn hB hel) ⟨hcw, C.ht tw377, C.ht tw2⟩ ⟨PG.blind, g_recv C.K ⟨tag, hL.1⟩ (ci := 0) rfl hL.2.1, fun U hU hW => ⟨rfl, by rw [hU]; exact hP, gE_go C.2.2.2.2.2.2.1 hS hU hW⟩⟩ rfl rfl hl.1 rfl (lv_room (Nat.le_of_ble_eq_true rfl)) dJx4a65c_add_72be8_7 (by rw [hR]; exact ⟨by show 0 + 1 ≤ 1; decide, by show 0 + B ≤ B; omega⟩)) hS (fun _ _ z => z) (fun _ z => z) (fun u q t H2 locs2 ht hvm hr hB9 hz hk2 hS2 => ?_)
    have hB9 : QG (xY X) h b o n q t.heap := hB9
    rw [ht] at hB9
    obtain ⟨tag2, mod2, cap, f, hL2, hA2, hc⟩ := hB9
    refine lv_astore_n (lv' := [(2, .ref q), (0, .ref b), (1, .ref x), (3, .int (nI n))]) hx hb dJx4a65c_add_72be8_10 rfl hl (by decide) rfl (fun ls hl => ?_)
    exact v_add C hxn hL2 hA2 ⟨hc.1, hc.2.1, hc.2.2⟩ hS2 hc9 hx9 (lv_sub hl [1, 2, 0, 3] rfl) hQ (by show 0 + B ≤ B; omega) (by show 0 + 1 ≤ 1; decide)
  refine lv_iload_n hx hb dJx4a65c_add_72be8_0 rfl (lv_at hl 3 rfl) ?_
  refine lv_aload_n hx hb dJx4a65c_add_72be8_1 rfl (lv_at hl 2 rfl) ?_
  rcases hcase with ⟨rfl, rfl⟩ | ⟨cap, f, hA, hc1, hc2, hc3⟩
  · obtain ⟨-, -, -, -, -, hZ, ⟨-, cell, g1, g2, g3, g4⟩, -, -⟩ := C.2.2.2.2.2.2.1
    refine W.alen (n := nI 0) hx hb g1 g2 (by rw [g4]; rfl) rfl rfl dJx4a65c_add_72be8_2 ?_
    refine W.eq (g2 := F0 (xm X) 3 ls [.int (nI 0), .int (nI 0)]) rfl ?_
    refine lv_icmp_ne (tgt := 11) hx hb dJx4a65c_add_72be8_3 (by decide) (fun q => absurd rfl q) (fun _ => ?_)
    exact grow hl ⟨tag, mod, _, hL, Or.inl ⟨rfl, rfl⟩⟩
  · refine va_alen (ws := [(ed, q_arr (ydA (xY X)) cap f)]) hx hb C.K (va_P1 hA.2.1) 0 3 rfl rfl (v := nI cap) rfl dJx4a65c_add_72be8_2 ?_
    refine lv_icmp_ne (tgt := 11) hx hb dJx4a65c_add_72be8_3 (by decide) (fun q => ?_) (fun q => ?_)
    · have hlt : n < cap := by
        rcases Nat.lt_or_ge n cap with z | z
        · exact z
        · exact absurd (by rw [Nat.le_antisymm hc1 z]) q
      exact v_add C hxn hL hA ⟨hlt, hc2, hc3⟩ hS hc9 hx9 hl hQ (Nat.zero_le _) (by decide)
    · have e : n = cap := (nI_eq (by omega) (by omega)).mp q
      subst e
      exact grow hl ⟨tag, mod, _, hL, Or.inr ⟨hc2, f, hA⟩⟩
set_option maxHeartbeats 4000000 in
set_option maxRecDepth 100000 in
/-- ArrayList.add -/
theorem m_ladd {Y : gWx} {g : GH} {b x c9 N B : Nat} {o o9 : FO} (hg : g b = some (0, o)) (hN : N ≤ 1000) (hB : 10 + N + N / 2 ≤ B) (hin : vp_in (fI o 2) N) (hel : ∀ j, j < (fI o 2).toNatClampNeg → ∃ c oo, c < 10 ∧ g (fR o j) = some (c, oo)) (hc9 : c9 < 10) (hx9 : g x = some (c9, o9)) : gMet Y yJx4a65c_add_9ea2d cJx4a65c_add_9ea2d 2 (some .boolean) (rm_ad B) [.ref b, .ref x] g (gQi Y (fun r g9 => r = 1 ∧ g9 = hu g b (0, lAdd o x))) 1 B := by
  refine gm_of rfl (Nat.le_of_ble_eq_true rfl) ?_
  intro X hY hxn C hnm hQ
  subst hY
  have C : gC X cJx4a65c_add_9ea2d RJx4a65c (some .boolean) (rm_ad B) := C
  show gX X 0 0 0 [(0, .ref b), (1, .ref x)] [] g
  refine r_aload_n C 0 dJx4a65c_add_9ea2d_0 rfl (r_dup C dJx4a65c_add_9ea2d_1 rfl ?_)
  intro H locs ls hS hG hl
  obtain ⟨mod, ed, n, tag, hGt, b1, b2, hn2, e1, hob, hcase⟩ := g_lx hG hg
  have hcl : (fI o 2).toNatClampNeg = n := by rw [e1]; exact nI_clamp (by omega)
  have hnN : n < N := by
    have : (fI o 2).toNatClampNeg < N := Nat.not_le.mp fun q => hin (Or.inr q)
    omega
  rw [hcl] at hel
  have hx := C.1
  have hb := C.2.1
  have hR := C.2.2.2.2.2.2.2
  have rd : ∀ {H : Heap} {locs : List Loc} {pc mc ms index : Nat} {ls : Array Slot} {stk : List Value} {k : Nat} {ref : String} {v : Value} {fs : List Value}, t_OB b ((yD (xY X)).1 0) 3 ((yD (xY X)).2 0) H (vp_V fs) → k < 3 → decode cJx4a65c_add_9ea2d pc = .ok (.getfield index, 3) → Cond.fieldLink RJx4a65c index ref (TJx4a65c k).2.1 (TJx4a65c k).2.2.1 ∈ TW → (∀ x, (xs X).fieldFound? (TJx4a65c k).1 (TJx4a65c k).2.1 (TJx4a65c k).2.2.1 = some x → (xs X).fieldFound? ref (TJx4a65c k).2.1 (TJx4a65c k).2.2.1 = some x) → fs[k]? = some v → gV X H locs mc ms (F0 (xm X) (pc + 3) ls (v :: stk)) → gV X H locs mc ms (F0 (xm X) pc ls (.ref b :: stk)) := fun hob hk hd hl hs hv kk =>
    va_get (ws := [(b, .inr (0, _))]) (ci := 0) (C := RJx4a65c) (T := TJx4a65c) (N := 3) hx hb C.hts gcl0_in C.2.2.2.1 C.K (va_P1 ⟨_, rfl, hob⟩) 0 rfl rfl _ hk (C.ht hl) hs hv hd kk
  have sm : ∀ x, (xs X).fieldFound? "java/util/AbstractList" "modCount" "I" = some x → (xs X).fieldFound? "java/util/ArrayList" "modCount" "I" = some x := u_same (C.ht tw111)
  refine rd (k := 0) (ref := "java/util/ArrayList") hob (by decide) dJx4a65c_add_9ea2d_2 tw110 sm rfl ?_
  refine lv_iconst (v := 1) hx hb dJx4a65c_add_9ea2d_5 (by decide) ?_
  refine lv_iadd hx hb dJx4a65c_add_9ea2d_6 ?_
  refine v_lset C (k := 0) (ref := "java/util/ArrayList") dJx4a65c_add_9ea2d_7 (by decide) tw110 sm rfl hob (vp_nar_int _) rfl b1 hS (fun H1 locs1 e2 e3 e4 hS1 => ?_)
  have e2 : t_OB b ((yD (xY X)).1 0) 3 ((yD (xY X)).2 0) H1 (vp_V [.int (mod + 1), .ref ed, .int (nI n)]) := e2
  have hcase1 : (ed = yE0 (xY X) ∧ n = 0) ∨ (∃ cap f, LA (xY X) tag b o ed n cap f H1 ∧ n ≤ cap ∧ 2 ≤ cap ∧ cap ≤ 10 + n + n / 2) := by
    rcases hcase with h | ⟨cap, f, t1, t2, t3, t4, t5, t6⟩
    · exact Or.inl h
    · exact Or.inr ⟨cap, f, ⟨t1, (e4 ed (Ne.symm (Nat.ne_of_lt t1.2))).trans t5, t6⟩, t2, t3, t4⟩
  have hL : LT (xY X) tag g b o (mod + 1) ed n H1 := by
    refine ⟨?_, hg, by omega, e1, e2⟩
    have hG' := hGt.upd (H' := H1) (tag' := tag) b1 b2 (fun y _ h2 => ⟨e4 y (fun e => h2 (by rw [e, b2])), rfl⟩) (ci := 0) (o := o) ⟨mod + 1, ed, n, by omega, e1, e2, hcase1.imp id (fun ⟨cap, f, hA, h1, h2, h3⟩ => ⟨cap, f, hA.1, h1, h2, h3, hA.2.1, hA.2.2⟩)⟩
    rw [hu_id hg] at hG'
    exact hG'
  refine lv_aload_n hx hb dJx4a65c_add_9ea2d_10 rfl (lv_at hl 0 rfl) ?_
  refine lv_aload_n hx hb dJx4a65c_add_9ea2d_11 rfl (lv_at hl 1 rfl) ?_
  refine lv_aload_n hx hb dJx4a65c_add_9ea2d_12 rfl (lv_at hl 0 rfl) ?_
  refine rd (k := 1) (ref := "java/util/ArrayList") e2 (by decide) dJx4a65c_add_9ea2d_13 tw107 (fun _ h9 => h9) rfl ?_
  refine lv_aload_n hx hb dJx4a65c_add_9ea2d_16 rfl (lv_at hl 0 rfl) ?_
  refine rd (k := 2) (ref := "java/util/ArrayList") e2 (by decide) dJx4a65c_add_9ea2d_17 tw108 (fun _ h9 => h9) rfl ?_
  have hcw : CallB (xR X) (xs X) (xa X) RJx4a65c 131 yJx4a65c_add_72be8 cJx4a65c_add_72be8 4 none [Cond.code yJx4a65c_add_72be8 cJx4a65c_add_72be8 4 none] (rm_ad3 B) 1 B 3 := g_callB (mc := 0) (ms := 0) C mt_Jx4a65c_add_72be8 tw371 ⟨rfl, rfl, ⟨Nat.le_of_ble_eq_true rfl, Nat.le_of_ble_eq_true rfl⟩, ⟨by show 0 + 1 ≤ 1; decide, by show 0 + B ≤ B; omega⟩⟩
  refine va_callv (va_runV (C := RJx4a65c) (As := [.ref x, .ref ed, .int (nI n)]) (rest := []) ⟨hx, hb, C.2.2.1.trans hxn, C.2.2.2.1, C.hts⟩ (k_ad3 (by omega) (by omega) hel hc9 hx9) ⟨hcw, C.ht tw373, C.ht tw1⟩ ⟨PA.blind, g_recv C.K ⟨tag, hL.1⟩ (ci := 0) rfl hg, fun U hU hW => ⟨rfl, by rw [hU]; exact ⟨tag, _, hL, hcase1⟩, gE_go C.2.2.2.2.2.2.1 hS1 hU hW⟩⟩ rfl rfl (hl.1.trans hxn) rfl (lv_room (Nat.le_of_ble_eq_true rfl)) dJx4a65c_add_9ea2d_20 (by rw [hR]; exact ⟨by show 0 + 1 ≤ 1; decide, by show 0 + B ≤ B; omega⟩)) hS1 (fun _ _ z => z) (fun _ z => z) (fun u t H2 locs2 ht hvm hr hB9 hz hk2 hS2 => ?_)
  subst hr
  have hB9 : yW (xY X) (hu g b (0, lAdd o x)) t.heap := hB9
  rw [ht] at hB9
  exact r_iconst C (v := 1) dJx4a65c_add_9ea2d_23 (by decide) (r_iret C (Or.inl hQ : _ ∨ gRex X _ (fun _ _ => False) 1 B) dJx4a65c_add_9ea2d_24 rfl rfl ⟨by show 0 + 1 ≤ 1; decide, by show 0 + B ≤ B; omega⟩ ⟨rfl, rfl⟩) H2 locs2 ls hS2 hB9 hl
