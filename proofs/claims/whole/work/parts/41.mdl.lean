theorem tw1057 : Cond.code ⟨"CanvasRoomModel","<init>","()V"⟩ prog_10_method_1_code 1 none ∈ TW := tw_in 1057 (by decide +kernel) (by decide +kernel)
theorem tw1058 : Cond.methodLink "CanvasRoomModel" 1 ⟨"java/lang/Object","<init>","()V"⟩ ∈ TW := tw_in 1058 (by decide +kernel) (by decide +kernel)
def rm_X8_init : Room := { frames := 1, cells := 50, slots := 9000, locals := 30 }
theorem mt_X8_init : gMt yX8_init cX8_init 1 none 0 := ⟨tw1057, tw64, by decide +kernel, by decide +kernel, by decide +kernel⟩
abbrev bl_X8 : List Value := [.int 0, .int 0, .null, .null, .null, .null, .null, .null, .null, .null, .int 0, .null, .null, .null, .null, .null, .null, .null, .int 0, .null, .null, .null, .null, .null, .null, .int 0, .null, .null, .null, .null, .null, .null, .null, .null, .null, .null, .null, .null, .null, .null, .null, .null, .null, .null, .null, .null, .null, .null, .int 0]
def mtab : List (Nat × Nat × Nat × Nat) := [(2, 1, 0, 200), (3, 2, 0, 200), (4, 3, 0, 200), (5, 4, 0, 200), (6, 5, 0, 200), (7, 6, 1, 200), (8, 7, 0, 1200), (9, 8, 0, 6), (11, 9, 0, 40), (12, 10, 0, 40), (13, 11, 0, 40), (14, 12, 0, 40), (15, 13, 0, 40), (16, 14, 0, 40), (17, 15, 1, 40), (19, 16, 0, 40), (20, 17, 1, 40), (21, 18, 0, 40), (22, 19, 0, 40), (23, 20, 0, 40), (24, 21, 0, 40), (26, 22, 0, 8), (27, 23, 0, 8), (28, 24, 0, 8), (29, 25, 0, 8), (30, 26, 0, 8), (31, 27, 0, 8), (32, 28, 0, 8), (33, 29, 1, 8), (34, 30, 1, 8), (35, 31, 0, 48), (36, 32, 1, 1600), (37, 33, 0, 8), (38, 34, 0, 320), (39, 35, 0, 320), (40, 36, 0, 320), (41, 37, 0, 320), (42, 38, 0, 160), (43, 39, 0, 160), (44, 40, 0, 160), (45, 41, 0, 160), (46, 42, 0, 6), (47, 43, 0, 8)]
def mty : Nat → FieldType
  | 0 => .int
  | 1 => .boolean
  | _ => .long
def mfs (a : Nat) : Nat → List Value
  | 0 => bl_X8
  | n + 1 => match mtab[n]? with
    | some x => (mfs a n).set x.1 (.ref (a + x.2.1))
    | none => mfs a n
def mrs (Y : gWx) : Nat → List (Nat × Cell)
  | 0 => []
  | n + 1 => match mtab[n]? with
    | some x => mrs Y n ++ [(x.2.1, arrV ((ydA Y) x.2.2.1) x.2.2.2 (fun _ => defaultValue (mty x.2.2.1)))]
    | none => mrs Y n
/-- slots, a closed form: 0 an int, 1 a long, 2 null, behind it a reference's place -/
def cdv (a : Nat) : Nat → Value
  | 0 => .int 0
  | 1 => .long 0
  | 2 => .null
  | n + 3 => .ref (a + n)
def cd0 (q : gK) : Nat := match q.1 with
  | 0 => 0
  | 1 => 1
  | 2 => 3
  | _ => q.2.2 + 3
def cdb (q : gK) : Nat := match q.1 with
  | 0 => 0
  | 1 => 1
  | _ => 2
def cds : Nat → List Nat
  | 0 => (g_tab 9).map cdb
  | n + 1 => match mtab[n]? with
    | some x => (cds n).set x.1 (x.2.1 + 3)
    | none => cds n
theorem mfs_cds {a : Nat} : ∀ n, mfs a n = (cds n).map (cdv a)
  | 0 => rfl
  | n + 1 => by
    unfold mfs cds
    cases mtab[n]? with
    | none => exact mfs_cds n
    | some x => simp only [mfs_cds n, List.map_set]; rfl
theorem cds_all : cds 43 = (g_tab 9).map cd0 := by decide +kernel
theorem g_tab9_ok : ((g_tab 9).all fun q => decide (q.1 ≠ 2)) = true := by decide +kernel
theorem fs_gen (T : List gK) (f : Nat → gK → Value) (c : gK → Value) (h : ∀ k q, q ∈ T → f k q = c q) : T.mapIdx f = T.map c := by
  apply List.ext_getElem?
  intro j
  rw [List.getElem?_mapIdx, List.getElem?_map]
  cases e : T[j]? with
  | none => rfl
  | some q => exact congrArg some (h j q (List.mem_of_getElem? e))
theorem g_v_cd {a k : Nat} {q : gK} (h2 : q.1 ≠ 2) : g_v a fo0 k q = (cdv a ∘ cd0) q := by
  obtain ⟨q1, q2, q3⟩ := q
  match q1, h2 with
  | 0, _ => rfl
  | 1, _ => rfl
  | 2, h2 => exact absurd rfl h2
  | n + 3, _ => rfl
theorem mfs_all {a : Nat} : mfs a 43 = g_fs 9 a fo0 := by
  rw [mfs_cds, cds_all, List.map_map]
  exact (fs_gen (g_tab 9) (fun k q => g_v a fo0 k q) (cdv a ∘ cd0) (fun k q hq => g_v_cd (of_decide_eq_true (List.all_eq_true.mp g_tab9_ok q hq)))).symm
theorem mtab_ok : ((g_tab 9).zipIdx.all fun x => decide (x.1.1 < 3) || mtab.zipIdx.any (fun y => decide (y.1 = (x.2, x.1.2.2, x.1.1 - 3, x.1.2.1) ∧ x.1.1 ≤ 5 ∧ y.2 < 43))) = true := by decide +kernel
theorem mfs_len {a : Nat} : ∀ n, (mfs a n).length = 49
  | 0 => rfl
  | n + 1 => by
    unfold mfs
    split
    · rw [List.length_set]; exact mfs_len n
    · exact mfs_len n
theorem mfs_step {a n k off i N : Nat} (h : mtab[n]? = some (k, off, i, N)) : (mfs a n).set k (.ref (a + off)) = mfs a (n + 1) := by
  rw [mfs, h]
theorem mrs_step {Y : gWx} {n k off i N : Nat} (h : mtab[n]? = some (k, off, i, N)) : mrs Y n ++ [(off, arrV ((ydA Y) i) N (fun _ => defaultValue (mty i)))] = mrs Y (n + 1) := by
  rw [mrs, h]
theorem mrs_mem {Y : gWx} {k off i N j : Nat} (h : mtab[j]? = some (k, off, i, N)) : ∀ n, j < n → (off, arrV ((ydA Y) i) N (fun _ => defaultValue (mty i))) ∈ mrs Y n
  | 0, hj => absurd hj (Nat.not_lt_zero _)
  | n + 1, hj => by
    by_cases e : j = n
    · subst e
      rw [← mrs_step h]
      exact List.mem_append_right _ (List.mem_singleton.mpr rfl)
    · have h2 := mrs_mem (Y := Y) h n (by omega)
      unfold mrs
      split
      · exact List.mem_append_left _ h2
      · exact h2
theorem mrs_arr {dA : Nat → ClassId} (k : Nat) {q : gK} (h3 : 3 ≤ q.1) (h5 : q.1 ≤ 5) : g_arr dA fo0 k q = arrV (dA (q.1 - 3)) q.2.1 (fun _ => defaultValue (mty (q.1 - 3))) := by
  obtain ⟨q1, q2, q3⟩ := q
  match q1, h3, h5 with
  | 3, _, _ => rfl
  | 4, _, _ => rfl
  | 5, _, _ => rfl
theorem mrs_all {Y : gWx} {k : Nat} {q : gK} (h : (g_tab 9)[k]? = some q) (h3 : 3 ≤ q.1) : (q.2.2, g_arr (ydA Y) fo0 k q) ∈ mrs Y 43 := by
  rcases Bool.or_eq_true_iff.mp (List.all_eq_true.mp mtab_ok (q, k) (List.mem_zipIdx_iff_getElem?.mpr h)) with e | e
  · exact absurd (of_decide_eq_true e) (Nat.not_lt.mpr h3)
  · obtain ⟨y, hy, e⟩ := List.any_eq_true.mp e
    obtain ⟨e1, e2, e3⟩ := of_decide_eq_true e
    have hy := List.mem_zipIdx_iff_getElem?.mp hy
    rw [e1] at hy
    have hm := mrs_mem (Y := Y) hy 43 e3
    rw [mrs_arr k h3 e2]
    exact hm
theorem v_rowM {X : gCx} {H : Heap} {locs : List Loc} {ls : Array Slot} {a : Nat} (C : gC X cX8_init RX8 none rm_X8_init) (hnm : (xh X).name = "<init>") (hl : lv_has ls 1 [(0, .ref a)]) (n : Nat) {pc mc ms k i N ix : Nat} {atype : ArrayType} (p2 : Nat) (ht : mtab[n]? = some (k, n + 1, i, N)) (d0 : decode cX8_init pc = .ok (.aload_n 0, 1)) (push : ∀ (H : Heap) (locs : List Loc) (mc ms : Nat) (stk : List Value), gV X H locs mc ms (F0 (xm X) p2 ls (.int (nI N) :: stk)) → gV X H locs mc ms (F0 (xm X) (pc + 1) ls stk)) (d2 : decode cX8_init p2 = .ok (.newarray atype, 2)) (d3 : decode cX8_init (p2 + 2) = .ok (.putfield ix, 3)) (harr : Cond.arrayClass (newarray.typeOf atype) ∈ TW) (hty : newarray.typeOf atype = mty i) (hi : (g_tys (ydA (xY X)))[i]? = some ((ydA (xY X)) i, mty i)) (hra : ∀ (U : State) (c : ClassId), va_RA U c (mty i) = (U.vm.findClass ("[" ++ (mty i).toString) = some c)) (hN : N ≤ 5000) (hb8 : componentBytes (mty i) ≤ 8) (hk : k < 49) (hl1 : Cond.fieldLink RX8 ix RX8 (TX8 k).2.1 (TX8 k).2.2.1 ∈ TW) (hr : (TX8 k).1 = RX8) (hfin : (TX8 k).2.2.2 = true) (hn : ∀ x : Nat, narrow (tyX8 k) (.ref x) = .ref x) (hf : ∀ x : Nat, fits (tyX8 k) (.ref x) = true) (hP : PS (xY X) 9 a (mfs a n) (mrs (xY X) n) H) (hsz : H.size = a + (n + 1)) (hc : mc + 1 ≤ 50 ∧ ms + N ≤ 9000) (hS : va_S (fun q => a ≤ q) (xs X).heap H locs) {pc' mc' ms' : Nat} (e1 : p2 + 2 + 3 = pc') (e2 : mc + 1 = mc') (e3 : ms + N = ms')
    (kk : ∀ (H' : Heap) (locs' : List Loc), PS (xY X) 9 a (mfs a (n + 1)) (mrs (xY X) (n + 1)) H' → H'.size = a + (n + 1 + 1) → va_S (fun q => a ≤ q) (xs X).heap H' locs' → gV X H' locs' mc' ms' (F0 (xm X) pc' ls [])) : gV X H locs mc ms (F0 (xm X) pc ls []) := by
  subst e1 e2 e3
  refine lv_aload_n C.1 C.2.1 d0 rfl (lv_at hl 0 rfl) ?_
  refine push H locs mc ms [.ref a] ?_
  refine v_onew (N := N) (i := i) C d2 harr hty hi hra hN hb8 hc hP hsz (Nat.le_add_left 1 n) (fun q h => h) hS (fun H2 hP2 hsz2 hkp hS2 => ?_)
  rw [mrs_step ht] at hP2
  exact v_oset (k := k) (ref := RX8) C gcl_9 d3 hk hl1 hr (Or.inr ⟨hfin, hnm, hr⟩) (mfs_len n) (hn _) (hf _) (mfs_step ht) hP2 (Nat.le_refl a) hS2 (fun H3 locs3 hP3 hz hkp3 hS3 => kk H3 locs3 hP3 (by rw [hz, hsz2]) hS3)
set_option maxHeartbeats 16000000 in
set_option maxRecDepth 100000 in
theorem k_X8_init {Y : gWx} {a : Nat} : Met (yl Y) yX8_init [Cond.code yX8_init cX8_init 1 none] rm_X8_init (va_Pc [.ref a] (fun U => PK Y 9 a bl_X8 U ∧ yE Y U)) (va_Qv (S := Unit) (fun _ => True) (fun _ t => t.heap.size = a + 44 ∧ PF Y 9 a fo0 t.heap) (fun q => a ≤ q)) 50 9000 (fun q => a ≤ q) := by
  refine gm_ofQ (P := fun U => PK Y 9 a bl_X8 U) rfl (Nat.le_of_ble_eq_true rfl) ?_
  intro X hY hxn C hQ hP hnm ls hl
  subst hY
  obtain ⟨hsz, hB9, hP⟩ := hP
  have C : gC X cX8_init RX8 none rm_X8_init := C
  have hl : lv_has ls 1 [(0, .ref a)] := hl
  have hx := C.1
  have hb := C.2.1
  have hR := C.2.2.2.2.2.2.2
  have hS : va_S (fun q => a ≤ q) (xs X).heap (xs X).heap [] := va_S.rf
  refine lv_aload_n hx hb dX8_init_0 rfl (lv_at hl 0 rfl) ?_
  refine W.objInit hx hb C.2.2.2.1 (C.ht tw1058) (C.ht tw91) (C.ht tw92) rfl (by rw [C.2.2.1]; exact hl.1.trans hxn.symm) rfl dX8_init_1 (by rw [hR]; exact Nat.le_of_ble_eq_true rfl) (by rw [hR]; exact Nat.le_of_ble_eq_true rfl) ?_
  have hP : PS (xY X) 9 a (mfs a 0) (mrs (xY X) 0) (xs X).heap := hP
  show gV X (xs X).heap [] 0 0 (F0 (xm X) 4 ls [])
  refine v_rowM C hnm hl 0 8 rfl dX8_init_4 (fun H locs mc ms stk k9 => lv_sipush (v := nI 200) hx hb dX8_init_5 (by decide) k9) dX8_init_8 dX8_init_10 tw161 rfl rfl ra_I (by decide) (by decide) (by decide) tw1061 rfl rfl (fun _ => rfl) (fun _ => rfl) hP hsz (by decide) hS (pc' := 13) (mc' := 1) (ms' := 200) rfl rfl rfl (fun H locs hP hsz hS => ?_)
  refine v_rowM C hnm hl 1 17 rfl dX8_init_13 (fun H locs mc ms stk k9 => lv_sipush (v := nI 200) hx hb dX8_init_14 (by decide) k9) dX8_init_17 dX8_init_19 tw161 rfl rfl ra_I (by decide) (by decide) (by decide) tw1062 rfl rfl (fun _ => rfl) (fun _ => rfl) hP hsz (by decide) hS (pc' := 22) (mc' := 2) (ms' := 400) rfl rfl rfl (fun H locs hP hsz hS => ?_)
  refine v_rowM C hnm hl 2 26 rfl dX8_init_22 (fun H locs mc ms stk k9 => lv_sipush (v := nI 200) hx hb dX8_init_23 (by decide) k9) dX8_init_26 dX8_init_28 tw161 rfl rfl ra_I (by decide) (by decide) (by decide) tw1063 rfl rfl (fun _ => rfl) (fun _ => rfl) hP hsz (by decide) hS (pc' := 31) (mc' := 3) (ms' := 600) rfl rfl rfl (fun H locs hP hsz hS => ?_)
  refine v_rowM C hnm hl 3 35 rfl dX8_init_31 (fun H locs mc ms stk k9 => lv_sipush (v := nI 200) hx hb dX8_init_32 (by decide) k9) dX8_init_35 dX8_init_37 tw161 rfl rfl ra_I (by decide) (by decide) (by decide) tw1064 rfl rfl (fun _ => rfl) (fun _ => rfl) hP hsz (by decide) hS (pc' := 40) (mc' := 4) (ms' := 800) rfl rfl rfl (fun H locs hP hsz hS => ?_)
  refine v_rowM C hnm hl 4 44 rfl dX8_init_40 (fun H locs mc ms stk k9 => lv_sipush (v := nI 200) hx hb dX8_init_41 (by decide) k9) dX8_init_44 dX8_init_46 tw161 rfl rfl ra_I (by decide) (by decide) (by decide) tw1065 rfl rfl (fun _ => rfl) (fun _ => rfl) hP hsz (by decide) hS (pc' := 49) (mc' := 5) (ms' := 1000) rfl rfl rfl (fun H locs hP hsz hS => ?_)
  refine v_rowM C hnm hl 5 53 rfl dX8_init_49 (fun H locs mc ms stk k9 => lv_sipush (v := nI 200) hx hb dX8_init_50 (by decide) k9) dX8_init_53 dX8_init_55 tw824 rfl rfl ra_Z (by decide) (by decide) (by decide) tw1066 rfl rfl (fun _ => rfl) (fun _ => rfl) hP hsz (by decide) hS (pc' := 58) (mc' := 6) (ms' := 1200) rfl rfl rfl (fun H locs hP hsz hS => ?_)
  refine v_rowM C hnm hl 6 62 rfl dX8_init_58 (fun H locs mc ms stk k9 => lv_sipush (v := nI 1200) hx hb dX8_init_59 (by decide) k9) dX8_init_62 dX8_init_64 tw161 rfl rfl ra_I (by decide) (by decide) (by decide) tw1067 rfl rfl (fun _ => rfl) (fun _ => rfl) hP hsz (by decide) hS (pc' := 67) (mc' := 7) (ms' := 2400) rfl rfl rfl (fun H locs hP hsz hS => ?_)
  refine v_rowM C hnm hl 7 70 rfl dX8_init_67 (fun H locs mc ms stk k9 => lv_bipush (v := nI 6) hx hb dX8_init_68 (by decide) k9) dX8_init_70 dX8_init_72 tw161 rfl rfl ra_I (by decide) (by decide) (by decide) tw1068 rfl rfl (fun _ => rfl) (fun _ => rfl) hP hsz (by decide) hS (pc' := 75) (mc' := 8) (ms' := 2406) rfl rfl rfl (fun H locs hP hsz hS => ?_)
  refine v_rowM C hnm hl 8 78 rfl dX8_init_75 (fun H locs mc ms stk k9 => lv_bipush (v := nI 40) hx hb dX8_init_76 (by decide) k9) dX8_init_78 dX8_init_80 tw161 rfl rfl ra_I (by decide) (by decide) (by decide) tw1070 rfl rfl (fun _ => rfl) (fun _ => rfl) hP hsz (by decide) hS (pc' := 83) (mc' := 9) (ms' := 2446) rfl rfl rfl (fun H locs hP hsz hS => ?_)
  refine v_rowM C hnm hl 9 86 rfl dX8_init_83 (fun H locs mc ms stk k9 => lv_bipush (v := nI 40) hx hb dX8_init_84 (by decide) k9) dX8_init_86 dX8_init_88 tw161 rfl rfl ra_I (by decide) (by decide) (by decide) tw1071 rfl rfl (fun _ => rfl) (fun _ => rfl) hP hsz (by decide) hS (pc' := 91) (mc' := 10) (ms' := 2486) rfl rfl rfl (fun H locs hP hsz hS => ?_)
  refine v_rowM C hnm hl 10 94 rfl dX8_init_91 (fun H locs mc ms stk k9 => lv_bipush (v := nI 40) hx hb dX8_init_92 (by decide) k9) dX8_init_94 dX8_init_96 tw161 rfl rfl ra_I (by decide) (by decide) (by decide) tw1072 rfl rfl (fun _ => rfl) (fun _ => rfl) hP hsz (by decide) hS (pc' := 99) (mc' := 11) (ms' := 2526) rfl rfl rfl (fun H locs hP hsz hS => ?_)
  refine v_rowM C hnm hl 11 102 rfl dX8_init_99 (fun H locs mc ms stk k9 => lv_bipush (v := nI 40) hx hb dX8_init_100 (by decide) k9) dX8_init_102 dX8_init_104 tw161 rfl rfl ra_I (by decide) (by decide) (by decide) tw1073 rfl rfl (fun _ => rfl) (fun _ => rfl) hP hsz (by decide) hS (pc' := 107) (mc' := 12) (ms' := 2566) rfl rfl rfl (fun H locs hP hsz hS => ?_)
  refine v_rowM C hnm hl 12 110 rfl dX8_init_107 (fun H locs mc ms stk k9 => lv_bipush (v := nI 40) hx hb dX8_init_108 (by decide) k9) dX8_init_110 dX8_init_112 tw161 rfl rfl ra_I (by decide) (by decide) (by decide) tw1074 rfl rfl (fun _ => rfl) (fun _ => rfl) hP hsz (by decide) hS (pc' := 115) (mc' := 13) (ms' := 2606) rfl rfl rfl (fun H locs hP hsz hS => ?_)
  refine v_rowM C hnm hl 13 118 rfl dX8_init_115 (fun H locs mc ms stk k9 => lv_bipush (v := nI 40) hx hb dX8_init_116 (by decide) k9) dX8_init_118 dX8_init_120 tw161 rfl rfl ra_I (by decide) (by decide) (by decide) tw1075 rfl rfl (fun _ => rfl) (fun _ => rfl) hP hsz (by decide) hS (pc' := 123) (mc' := 14) (ms' := 2646) rfl rfl rfl (fun H locs hP hsz hS => ?_)
  refine v_rowM C hnm hl 14 126 rfl dX8_init_123 (fun H locs mc ms stk k9 => lv_bipush (v := nI 40) hx hb dX8_init_124 (by decide) k9) dX8_init_126 dX8_init_128 tw824 rfl rfl ra_Z (by decide) (by decide) (by decide) tw1076 rfl rfl (fun _ => rfl) (fun _ => rfl) hP hsz (by decide) hS (pc' := 131) (mc' := 15) (ms' := 2686) rfl rfl rfl (fun H locs hP hsz hS => ?_)
  refine v_rowM C hnm hl 15 134 rfl dX8_init_131 (fun H locs mc ms stk k9 => lv_bipush (v := nI 40) hx hb dX8_init_132 (by decide) k9) dX8_init_134 dX8_init_136 tw161 rfl rfl ra_I (by decide) (by decide) (by decide) tw1078 rfl rfl (fun _ => rfl) (fun _ => rfl) hP hsz (by decide) hS (pc' := 139) (mc' := 16) (ms' := 2726) rfl rfl rfl (fun H locs hP hsz hS => ?_)
  refine v_rowM C hnm hl 16 142 rfl dX8_init_139 (fun H locs mc ms stk k9 => lv_bipush (v := nI 40) hx hb dX8_init_140 (by decide) k9) dX8_init_142 dX8_init_144 tw824 rfl rfl ra_Z (by decide) (by decide) (by decide) tw1079 rfl rfl (fun _ => rfl) (fun _ => rfl) hP hsz (by decide) hS (pc' := 147) (mc' := 17) (ms' := 2766) rfl rfl rfl (fun H locs hP hsz hS => ?_)
  refine v_rowM C hnm hl 17 150 rfl dX8_init_147 (fun H locs mc ms stk k9 => lv_bipush (v := nI 40) hx hb dX8_init_148 (by decide) k9) dX8_init_150 dX8_init_152 tw161 rfl rfl ra_I (by decide) (by decide) (by decide) tw1080 rfl rfl (fun _ => rfl) (fun _ => rfl) hP hsz (by decide) hS (pc' := 155) (mc' := 18) (ms' := 2806) rfl rfl rfl (fun H locs hP hsz hS => ?_)
  refine v_rowM C hnm hl 18 158 rfl dX8_init_155 (fun H locs mc ms stk k9 => lv_bipush (v := nI 40) hx hb dX8_init_156 (by decide) k9) dX8_init_158 dX8_init_160 tw161 rfl rfl ra_I (by decide) (by decide) (by decide) tw1081 rfl rfl (fun _ => rfl) (fun _ => rfl) hP hsz (by decide) hS (pc' := 163) (mc' := 19) (ms' := 2846) rfl rfl rfl (fun H locs hP hsz hS => ?_)
  refine v_rowM C hnm hl 19 166 rfl dX8_init_163 (fun H locs mc ms stk k9 => lv_bipush (v := nI 40) hx hb dX8_init_164 (by decide) k9) dX8_init_166 dX8_init_168 tw161 rfl rfl ra_I (by decide) (by decide) (by decide) tw1082 rfl rfl (fun _ => rfl) (fun _ => rfl) hP hsz (by decide) hS (pc' := 171) (mc' := 20) (ms' := 2886) rfl rfl rfl (fun H locs hP hsz hS => ?_)
  refine v_rowM C hnm hl 20 174 rfl dX8_init_171 (fun H locs mc ms stk k9 => lv_bipush (v := nI 40) hx hb dX8_init_172 (by decide) k9) dX8_init_174 dX8_init_176 tw161 rfl rfl ra_I (by decide) (by decide) (by decide) tw1083 rfl rfl (fun _ => rfl) (fun _ => rfl) hP hsz (by decide) hS (pc' := 179) (mc' := 21) (ms' := 2926) rfl rfl rfl (fun H locs hP hsz hS => ?_)
  refine v_rowM C hnm hl 21 182 rfl dX8_init_179 (fun H locs mc ms stk k9 => lv_bipush (v := nI 8) hx hb dX8_init_180 (by decide) k9) dX8_init_182 dX8_init_184 tw161 rfl rfl ra_I (by decide) (by decide) (by decide) tw1085 rfl rfl (fun _ => rfl) (fun _ => rfl) hP hsz (by decide) hS (pc' := 187) (mc' := 22) (ms' := 2934) rfl rfl rfl (fun H locs hP hsz hS => ?_)
  refine v_rowM C hnm hl 22 190 rfl dX8_init_187 (fun H locs mc ms stk k9 => lv_bipush (v := nI 8) hx hb dX8_init_188 (by decide) k9) dX8_init_190 dX8_init_192 tw161 rfl rfl ra_I (by decide) (by decide) (by decide) tw1086 rfl rfl (fun _ => rfl) (fun _ => rfl) hP hsz (by decide) hS (pc' := 195) (mc' := 23) (ms' := 2942) rfl rfl rfl (fun H locs hP hsz hS => ?_)
  refine v_rowM C hnm hl 23 198 rfl dX8_init_195 (fun H locs mc ms stk k9 => lv_bipush (v := nI 8) hx hb dX8_init_196 (by decide) k9) dX8_init_198 dX8_init_200 tw161 rfl rfl ra_I (by decide) (by decide) (by decide) tw1087 rfl rfl (fun _ => rfl) (fun _ => rfl) hP hsz (by decide) hS (pc' := 203) (mc' := 24) (ms' := 2950) rfl rfl rfl (fun H locs hP hsz hS => ?_)
  refine v_rowM C hnm hl 24 206 rfl dX8_init_203 (fun H locs mc ms stk k9 => lv_bipush (v := nI 8) hx hb dX8_init_204 (by decide) k9) dX8_init_206 dX8_init_208 tw161 rfl rfl ra_I (by decide) (by decide) (by decide) tw1088 rfl rfl (fun _ => rfl) (fun _ => rfl) hP hsz (by decide) hS (pc' := 211) (mc' := 25) (ms' := 2958) rfl rfl rfl (fun H locs hP hsz hS => ?_)
  refine v_rowM C hnm hl 25 214 rfl dX8_init_211 (fun H locs mc ms stk k9 => lv_bipush (v := nI 8) hx hb dX8_init_212 (by decide) k9) dX8_init_214 dX8_init_216 tw161 rfl rfl ra_I (by decide) (by decide) (by decide) tw1089 rfl rfl (fun _ => rfl) (fun _ => rfl) hP hsz (by decide) hS (pc' := 219) (mc' := 26) (ms' := 2966) rfl rfl rfl (fun H locs hP hsz hS => ?_)
  refine v_rowM C hnm hl 26 222 rfl dX8_init_219 (fun H locs mc ms stk k9 => lv_bipush (v := nI 8) hx hb dX8_init_220 (by decide) k9) dX8_init_222 dX8_init_224 tw161 rfl rfl ra_I (by decide) (by decide) (by decide) tw1090 rfl rfl (fun _ => rfl) (fun _ => rfl) hP hsz (by decide) hS (pc' := 227) (mc' := 27) (ms' := 2974) rfl rfl rfl (fun H locs hP hsz hS => ?_)
  refine v_rowM C hnm hl 27 230 rfl dX8_init_227 (fun H locs mc ms stk k9 => lv_bipush (v := nI 8) hx hb dX8_init_228 (by decide) k9) dX8_init_230 dX8_init_232 tw161 rfl rfl ra_I (by decide) (by decide) (by decide) tw1091 rfl rfl (fun _ => rfl) (fun _ => rfl) hP hsz (by decide) hS (pc' := 235) (mc' := 28) (ms' := 2982) rfl rfl rfl (fun H locs hP hsz hS => ?_)
  refine v_rowM C hnm hl 28 238 rfl dX8_init_235 (fun H locs mc ms stk k9 => lv_bipush (v := nI 8) hx hb dX8_init_236 (by decide) k9) dX8_init_238 dX8_init_240 tw824 rfl rfl ra_Z (by decide) (by decide) (by decide) tw1092 rfl rfl (fun _ => rfl) (fun _ => rfl) hP hsz (by decide) hS (pc' := 243) (mc' := 29) (ms' := 2990) rfl rfl rfl (fun H locs hP hsz hS => ?_)
  refine v_rowM C hnm hl 29 246 rfl dX8_init_243 (fun H locs mc ms stk k9 => lv_bipush (v := nI 8) hx hb dX8_init_244 (by decide) k9) dX8_init_246 dX8_init_248 tw824 rfl rfl ra_Z (by decide) (by decide) (by decide) tw1093 rfl rfl (fun _ => rfl) (fun _ => rfl) hP hsz (by decide) hS (pc' := 251) (mc' := 30) (ms' := 2998) rfl rfl rfl (fun H locs hP hsz hS => ?_)
  refine v_rowM C hnm hl 30 254 rfl dX8_init_251 (fun H locs mc ms stk k9 => lv_bipush (v := nI 48) hx hb dX8_init_252 (by decide) k9) dX8_init_254 dX8_init_256 tw161 rfl rfl ra_I (by decide) (by decide) (by decide) tw1094 rfl rfl (fun _ => rfl) (fun _ => rfl) hP hsz (by decide) hS (pc' := 259) (mc' := 31) (ms' := 3046) rfl rfl rfl (fun H locs hP hsz hS => ?_)
  refine v_rowM C hnm hl 31 263 rfl dX8_init_259 (fun H locs mc ms stk k9 => lv_sipush (v := nI 1600) hx hb dX8_init_260 (by decide) k9) dX8_init_263 dX8_init_265 tw824 rfl rfl ra_Z (by decide) (by decide) (by decide) tw1095 rfl rfl (fun _ => rfl) (fun _ => rfl) hP hsz (by decide) hS (pc' := 268) (mc' := 32) (ms' := 4646) rfl rfl rfl (fun H locs hP hsz hS => ?_)
  refine v_rowM C hnm hl 32 271 rfl dX8_init_268 (fun H locs mc ms stk k9 => lv_bipush (v := nI 8) hx hb dX8_init_269 (by decide) k9) dX8_init_271 dX8_init_273 tw161 rfl rfl ra_I (by decide) (by decide) (by decide) tw1096 rfl rfl (fun _ => rfl) (fun _ => rfl) hP hsz (by decide) hS (pc' := 276) (mc' := 33) (ms' := 4654) rfl rfl rfl (fun H locs hP hsz hS => ?_)
  refine v_rowM C hnm hl 33 280 rfl dX8_init_276 (fun H locs mc ms stk k9 => lv_sipush (v := nI 320) hx hb dX8_init_277 (by decide) k9) dX8_init_280 dX8_init_282 tw161 rfl rfl ra_I (by decide) (by decide) (by decide) tw1097 rfl rfl (fun _ => rfl) (fun _ => rfl) hP hsz (by decide) hS (pc' := 285) (mc' := 34) (ms' := 4974) rfl rfl rfl (fun H locs hP hsz hS => ?_)
  refine v_rowM C hnm hl 34 289 rfl dX8_init_285 (fun H locs mc ms stk k9 => lv_sipush (v := nI 320) hx hb dX8_init_286 (by decide) k9) dX8_init_289 dX8_init_291 tw161 rfl rfl ra_I (by decide) (by decide) (by decide) tw1098 rfl rfl (fun _ => rfl) (fun _ => rfl) hP hsz (by decide) hS (pc' := 294) (mc' := 35) (ms' := 5294) rfl rfl rfl (fun H locs hP hsz hS => ?_)
  refine v_rowM C hnm hl 35 298 rfl dX8_init_294 (fun H locs mc ms stk k9 => lv_sipush (v := nI 320) hx hb dX8_init_295 (by decide) k9) dX8_init_298 dX8_init_300 tw161 rfl rfl ra_I (by decide) (by decide) (by decide) tw1099 rfl rfl (fun _ => rfl) (fun _ => rfl) hP hsz (by decide) hS (pc' := 303) (mc' := 36) (ms' := 5614) rfl rfl rfl (fun H locs hP hsz hS => ?_)
  refine v_rowM C hnm hl 36 307 rfl dX8_init_303 (fun H locs mc ms stk k9 => lv_sipush (v := nI 320) hx hb dX8_init_304 (by decide) k9) dX8_init_307 dX8_init_309 tw161 rfl rfl ra_I (by decide) (by decide) (by decide) tw1100 rfl rfl (fun _ => rfl) (fun _ => rfl) hP hsz (by decide) hS (pc' := 312) (mc' := 37) (ms' := 5934) rfl rfl rfl (fun H locs hP hsz hS => ?_)
  refine v_rowM C hnm hl 37 316 rfl dX8_init_312 (fun H locs mc ms stk k9 => lv_sipush (v := nI 160) hx hb dX8_init_313 (by decide) k9) dX8_init_316 dX8_init_318 tw161 rfl rfl ra_I (by decide) (by decide) (by decide) tw1101 rfl rfl (fun _ => rfl) (fun _ => rfl) hP hsz (by decide) hS (pc' := 321) (mc' := 38) (ms' := 6094) rfl rfl rfl (fun H locs hP hsz hS => ?_)
  refine v_rowM C hnm hl 38 325 rfl dX8_init_321 (fun H locs mc ms stk k9 => lv_sipush (v := nI 160) hx hb dX8_init_322 (by decide) k9) dX8_init_325 dX8_init_327 tw161 rfl rfl ra_I (by decide) (by decide) (by decide) tw1102 rfl rfl (fun _ => rfl) (fun _ => rfl) hP hsz (by decide) hS (pc' := 330) (mc' := 39) (ms' := 6254) rfl rfl rfl (fun H locs hP hsz hS => ?_)
  refine v_rowM C hnm hl 39 334 rfl dX8_init_330 (fun H locs mc ms stk k9 => lv_sipush (v := nI 160) hx hb dX8_init_331 (by decide) k9) dX8_init_334 dX8_init_336 tw161 rfl rfl ra_I (by decide) (by decide) (by decide) tw1103 rfl rfl (fun _ => rfl) (fun _ => rfl) hP hsz (by decide) hS (pc' := 339) (mc' := 40) (ms' := 6414) rfl rfl rfl (fun H locs hP hsz hS => ?_)
  refine v_rowM C hnm hl 40 343 rfl dX8_init_339 (fun H locs mc ms stk k9 => lv_sipush (v := nI 160) hx hb dX8_init_340 (by decide) k9) dX8_init_343 dX8_init_345 tw161 rfl rfl ra_I (by decide) (by decide) (by decide) tw1104 rfl rfl (fun _ => rfl) (fun _ => rfl) hP hsz (by decide) hS (pc' := 348) (mc' := 41) (ms' := 6574) rfl rfl rfl (fun H locs hP hsz hS => ?_)
  refine v_rowM C hnm hl 41 351 rfl dX8_init_348 (fun H locs mc ms stk k9 => lv_bipush (v := nI 6) hx hb dX8_init_349 (by decide) k9) dX8_init_351 dX8_init_353 tw161 rfl rfl ra_I (by decide) (by decide) (by decide) tw1105 rfl rfl (fun _ => rfl) (fun _ => rfl) hP hsz (by decide) hS (pc' := 356) (mc' := 42) (ms' := 6580) rfl rfl rfl (fun H locs hP hsz hS => ?_)
  refine v_rowM C hnm hl 42 359 rfl dX8_init_356 (fun H locs mc ms stk k9 => lv_bipush (v := nI 8) hx hb dX8_init_357 (by decide) k9) dX8_init_359 dX8_init_361 tw161 rfl rfl ra_I (by decide) (by decide) (by decide) tw1106 rfl rfl (fun _ => rfl) (fun _ => rfl) hP hsz (by decide) hS (pc' := 364) (mc' := 43) (ms' := 6588) rfl rfl rfl (fun H locs hP hsz hS => ?_)
  have hF : PF (xY X) 9 a fo0 H := hP.full mfs_all (fun k q h h3 => mrs_all h h3)
  rw [gV, hQ]
  exact W.widen (Nat.le_of_ble_eq_true rfl) (Nat.le_of_ble_eq_true rfl) (W.vret hx hb C.2.2.2.2.1 (fun t ht hW => ⟨⟨(), rfl, True.intro, by show t.heap.size = _ ∧ _; rw [ht]; exact ⟨hsz, hF⟩⟩, hS.F ht⟩) hS.2.2 dX8_init_364 C.2.2.2.2.2.1)
