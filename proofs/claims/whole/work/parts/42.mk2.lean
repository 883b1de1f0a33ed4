theorem tw23 : Cond.selects "CanvasRoom" ⟨"CanvasRoom","measureAndHold","(LCanvasRoom$Edition;)V"⟩ ⟨"CanvasRoom","measureAndHold","(LCanvasRoom$Edition;)V"⟩ ∈ TW := tw_in 23 (by decide +kernel) (by decide +kernel)
theorem tw724 : Cond.code ⟨"CanvasRoom","freeze","(IIIIIII)I"⟩ prog_1_method_22_code 10 (some .int) ∈ TW := tw_in 724 (by decide +kernel) (by decide +kernel)
theorem tw726 : Cond.classLink "CanvasRoom" 173 "CanvasRoom$Window" ∈ TW := tw_in 726 (by decide +kernel) (by decide +kernel)
theorem tw727 : Cond.instantiable "CanvasRoom$Window" 4 ∈ TW := tw_in 727 (by decide +kernel) (by decide +kernel)
theorem tw728 : Cond.methodLink "CanvasRoom" 175 ⟨"CanvasRoom$Window","<init>","(IIII)V"⟩ ∈ TW := tw_in 728 (by decide +kernel) (by decide +kernel)
theorem tw729 : Cond.instanceMethod ⟨"CanvasRoom$Window","<init>","(IIII)V"⟩ ∈ TW := tw_in 729 (by decide +kernel) (by decide +kernel)
theorem tw749 : Cond.methodLink "CanvasRoom" 177 ⟨"CanvasRoom$Window","isAnyShown","(LCanvasRoom$Board;J)Z"⟩ ∈ TW := tw_in 749 (by decide +kernel) (by decide +kernel)
theorem tw750 : Cond.instanceMethod ⟨"CanvasRoom$Window","isAnyShown","(LCanvasRoom$Board;J)Z"⟩ ∈ TW := tw_in 750 (by decide +kernel) (by decide +kernel)
theorem tw751 : Cond.selects "CanvasRoom$Window" ⟨"CanvasRoom$Window","isAnyShown","(LCanvasRoom$Board;J)Z"⟩ ⟨"CanvasRoom$Window","isAnyShown","(LCanvasRoom$Board;J)Z"⟩ ∈ TW := tw_in 751 (by decide +kernel) (by decide +kernel)
theorem tw779 : Cond.methodLink "CanvasRoom" 185 ⟨"CanvasRoom$Edition","<init>","(ILCanvasRoom$Window;I)V"⟩ ∈ TW := tw_in 779 (by decide +kernel) (by decide +kernel)
theorem tw825 : Cond.methodLink "CanvasRoom" 188 ⟨"CanvasRoom$Edition","issue","(I)V"⟩ ∈ TW := tw_in 825 (by decide +kernel) (by decide +kernel)
theorem tw826 : Cond.instanceMethod ⟨"CanvasRoom$Edition","issue","(I)V"⟩ ∈ TW := tw_in 826 (by decide +kernel) (by decide +kernel)
theorem tw827 : Cond.selects "CanvasRoom$Edition" ⟨"CanvasRoom$Edition","issue","(I)V"⟩ ⟨"CanvasRoom$Edition","issue","(I)V"⟩ ∈ TW := tw_in 827 (by decide +kernel) (by decide +kernel)
theorem tw828 : Cond.code ⟨"CanvasRoom$Edition","issue","(I)V"⟩ prog_5_method_2_code 3 none ∈ TW := tw_in 828 (by decide +kernel) (by decide +kernel)
theorem tw830 : Cond.instantiable "CanvasRoom$Copy" 4 ∈ TW := tw_in 830 (by decide +kernel) (by decide +kernel)
theorem tw831 : Cond.methodLinkNest "CanvasRoom$Edition" 46 ⟨"CanvasRoom$Copy","<init>","()V"⟩ "CanvasRoom" ∈ TW := tw_in 831 (by decide +kernel) (by decide +kernel)
theorem tw832 : Cond.instanceMethod ⟨"CanvasRoom$Copy","<init>","()V"⟩ ∈ TW := tw_in 832 (by decide +kernel) (by decide +kernel)
theorem tw854 : Cond.methodLink "CanvasRoom$Edition" 47 ⟨"java/util/ArrayList","add","(Ljava/lang/Object;)Z"⟩ ∈ TW := tw_in 854 (by decide +kernel) (by decide +kernel)
theorem tw855 : Cond.methodLink "CanvasRoom" 194 ⟨"CanvasRoom$Board","copy","(LCanvasRoom$Board;)V"⟩ ∈ TW := tw_in 855 (by decide +kernel) (by decide +kernel)
theorem tw856 : Cond.instanceMethod ⟨"CanvasRoom$Board","copy","(LCanvasRoom$Board;)V"⟩ ∈ TW := tw_in 856 (by decide +kernel) (by decide +kernel)
theorem tw857 : Cond.selects "CanvasRoom$Board" ⟨"CanvasRoom$Board","copy","(LCanvasRoom$Board;)V"⟩ ⟨"CanvasRoom$Board","copy","(LCanvasRoom$Board;)V"⟩ ∈ TW := tw_in 857 (by decide +kernel) (by decide +kernel)
theorem tw860 : Cond.methodLink "CanvasRoom" 197 ⟨"CanvasRoom","measureAndHold","(LCanvasRoom$Edition;)V"⟩ ∈ TW := tw_in 860 (by decide +kernel) (by decide +kernel)
theorem tw862 : Cond.instanceMethod ⟨"CanvasRoom","measureAndHold","(LCanvasRoom$Edition;)V"⟩ ∈ TW := tw_in 862 (by decide +kernel) (by decide +kernel)
theorem tw86 : Cond.instantiable "CanvasRoom" 11 ∈ TW := tw_in 86 (by decide +kernel) (by decide +kernel)
theorem tw88 : Cond.instanceMethod ⟨"CanvasRoom","<init>","()V"⟩ ∈ TW := tw_in 88 (by decide +kernel) (by decide +kernel)
theorem tw778 : Cond.instantiable "CanvasRoom$Edition" 10 ∈ TW := tw_in 778 (by decide +kernel) (by decide +kernel)
theorem tw780 : Cond.instanceMethod ⟨"CanvasRoom$Edition","<init>","(ILCanvasRoom$Window;I)V"⟩ ∈ TW := tw_in 780 (by decide +kernel) (by decide +kernel)
theorem tw1054 : Cond.instantiable "CanvasRoomModel" 49 ∈ TW := tw_in 1054 (by decide +kernel) (by decide +kernel)
theorem tw1056 : Cond.instanceMethod ⟨"CanvasRoomModel","<init>","()V"⟩ ∈ TW := tw_in 1056 (by decide +kernel) (by decide +kernel)
/-! objects made whole: into the heap of objects -/
/-- who owns the cells of a block that was just made: the owner's place in the block, and the row's mark -/
def btag (tag : Nat → Nat × Nat) (a : Nat) (l : List (Nat × Nat)) (q : Nat) : Nat × Nat := if q < a then tag q else match l[q - a]? with
  | some (b, k) => (a + b, k)
  | none => (q, 1)
theorem btag_lt {tag : Nat → Nat × Nat} {a q : Nat} {l : List (Nat × Nat)} (h : q < a) : btag tag a l q = tag q := if_pos h
theorem btag_at {tag : Nat → Nat × Nat} {a j b k : Nat} {l : List (Nat × Nat)} (h : l[j]? = some (b, k)) : btag tag a l (a + j) = (a + b, k) := by
  unfold btag
  rw [if_neg (by omega), show a + j - a = j by omega, h]
def blkOK (l : List (Nat × Nat)) (b ci : Nat) : Bool := ((g_tab ci).zipIdx.all fun x => decide (x.1.1 < 3) || decide (l[b + x.1.2.2]? = some (b, x.2 + 1))) && decide (l[b]? = some (b, 0))
theorem blkOK_at {l : List (Nat × Nat)} {b ci k : Nat} {q : gK} (h : blkOK l b ci = true) (hq : (g_tab ci)[k]? = some q) (h3 : 3 ≤ q.1) : l[b + q.2.2]? = some (b, k + 1) := by
  have h1 := List.all_eq_true.mp (Bool.and_eq_true_iff.mp h).1 (q, k) (List.mem_zipIdx_iff_getElem?.mpr hq)
  rcases Bool.or_eq_true_iff.mp h1 with e | e
  · exact absurd (of_decide_eq_true e) (Nat.not_lt.mpr h3)
  · exact of_decide_eq_true e
theorem blk_keep {D : va_G} {dA : Nat → ClassId} {E0 B0 : Nat} {tag : Nat → Nat × Nat} {g : GH} {H H2 : Heap} {a : Nat} {l : List (Nat × Nat)} (hG : GWt D dA E0 B0 tag g H) (ha : H.size = a) (hk : ∀ q, q < a → H2[q]? = H[q]?) : GWt D dA E0 B0 (btag tag a l) g H2 := hG.kept (fun q hq => ⟨hk q (ha ▸ hq), btag_lt (ha ▸ hq)⟩)
theorem blk_nice {Y : gWx} {tag : Nat → Nat × Nat} {g : GH} {H2 : Heap} {a b ci : Nat} {o : FO} {l : List (Nat × Nat)} (hG : GWt (yD Y) (ydA Y) (yE0 Y) (yB0 Y) (btag tag a l) g H2) (hB : yB0 Y ≤ a) (hF : PF Y ci (a + b) o H2) (hn : g_nice ci = true) (hok : blkOK l b ci = true) : GWt (yD Y) (ydA Y) (yE0 Y) (yB0 Y) (btag tag a l) (hu g (a + b) (ci, o)) H2 := by
  refine hG.upd (Nat.le_trans hB (Nat.le_add_right a b)) (btag_at (of_decide_eq_true (Bool.and_eq_true_iff.mp hok).2)) (fun q _ _ => ⟨rfl, rfl⟩) ?_
  rw [g_pic_nice hn]
  exact ⟨hF.1, fun k q h1 h3 => ⟨by rw [Nat.add_assoc]; exact btag_at (blkOK_at hok h1 h3), hF.2 k q h1 h3⟩⟩
theorem blk_list {Y : gWx} {tag : Nat → Nat × Nat} {g : GH} {H2 : Heap} {a b : Nat} {l : List (Nat × Nat)} (hG : GWt (yD Y) (ydA Y) (yE0 Y) (yB0 Y) (btag tag a l) g H2) (hB : yB0 Y ≤ a) (hL : PL Y (a + b) H2) (h0 : l[b]? = some (b, 0)) : GWt (yD Y) (ydA Y) (yE0 Y) (yB0 Y) (btag tag a l) (hu g (a + b) (0, fo0)) H2 :=
  hG.upd (Nat.le_trans hB (Nat.le_add_right a b)) (btag_at h0) (fun q _ _ => ⟨rfl, rfl⟩) ⟨0, yE0 Y, 0, by decide, rfl, hL, Or.inl ⟨rfl, rfl⟩⟩
theorem g_fresh {D : va_G} {dA : Nat → ClassId} {E0 B0 : Nat} {g : GH} {H : Heap} (hG : GW D dA E0 B0 g H) {q : Nat} (h : H.size ≤ q) : g q = none := by
  obtain ⟨tag, hG⟩ := hG
  cases e : g q with
  | none => rfl
  | some x => exact absurd (hG.lt (ci := x.1) (o := x.2) e) (Nat.not_lt.mpr h)
set_option maxHeartbeats 4000000 in
set_option maxRecDepth 100000 in
theorem r_newE {X : gCx} {cc : ByteArray} {own : String} {ret : Option FieldType} {rm : Room} {mc ms pc pc5 : Nat} {loc : List (Nat × Value)} {stk : List Value} {g : GH} {p0 p2 : Int32} {p1 : Nat} (C : gC X cc own ret rm) {index i5 : Nat} (hd : decode cc pc = .ok (.new index, 3)) (hw : Cond.classLink own index "CanvasRoom$Edition" ∈ TW) (hlink : Cond.methodLink own i5 yX3_init ∈ TW) (hd5 : decode cc pc5 = .ok (.invokespecial i5, 3)) (hW : ((.ref 0 :: stk : List Value).map fun v => v.category).sum ≤ 8) (hcs : mc + 12 ≤ rm.cells ∧ ms + 509 ≤ rm.slots) (hfr : rm_X3_init.frames + 1 ≤ rm.frames ∧ 8 + (4 + 11) + rm_X3_init.locals ≤ rm.locals)
    (mid : ∀ (a : Nat) (H : Heap) (locs : List Loc) (ls : Array Slot) (mc ms : Nat), lv_has ls (xn X) loc → gV X H locs mc ms (F0 (xm X) pc5 ls (.int p2 :: .ref p1 :: .int p0 :: .ref a :: .ref a :: stk)) → gV X H locs mc ms (F0 (xm X) (pc + 3) ls (.ref a :: stk)))
    (kk : ∀ a : Nat, (∀ q, a ≤ q → g q = none) → gX X (mc + 12) (ms + 509) (pc5 + 3) loc (.ref a :: stk) (hu (hu (hu g (a + 1) (2, fo0)) (a + 11) (0, fo0)) a (4, (ed0 a p0 p1 p2)))) : gX X mc ms pc loc stk g := fun H locs ls hS hG hl => by
  have hsz0 : H.size = H.size := rfl
  have hfresh : ∀ q, H.size ≤ q → g q = none := fun q h => g_fresh hG h
  have hB : yB0 (xY X) ≤ H.size := by
    obtain ⟨-, -, -, -, -, -, -, -, h13⟩ := C.2.2.2.2.2.2.1
    exact Nat.le_trans h13 hS.1
  obtain ⟨tag, hG⟩ := hG
  obtain ⟨a, ha⟩ : ∃ a, a = H.size := ⟨_, rfl⟩
  rw [← ha] at hfresh hB
  have hsz0 := ha.symm
  have hR := C.2.2.2.2.2.2.2
  have kk := kk a hfresh
  refine v_new (A := gA (yB0 (xY X))) (ci := 4) (fs := bl_X3) (a := a) C hd rfl rfl gcl_4.2.2.1 tyX3_ok ⟨hw, tw778, tw82⟩ (fun j hj => by match j, hj with | 0, _ => rfl | 1, _ => rfl | 2, _ => rfl | 3, _ => rfl | 4, _ => rfl | 5, _ => rfl | 6, _ => rfl | 7, _ => rfl | 8, _ => rfl | 9, _ => rfl | n + 10, hj => exact absurd hj (by omega)) ⟨Nat.le_trans (by omega) hcs.1, Nat.le_trans (by omega) hcs.2⟩ hsz0 hB hS (fun H1 hPn hsz hkp hS1 => ?_)
  refine mid a H1 locs ls _ _ hl ?_
  refine va_callv (va_runI (As := [.int p0, .ref p1, .int p2]) (rest := .ref a :: stk) ⟨C.1, C.2.1, C.2.2.1, C.2.2.2.1, C.hts⟩ (k_X3_init (Y := xY X) (a := a)) ⟨g_callB (mc := mc + 1) (ms := ms + 10) C mt_X3_init hlink ⟨rfl, rfl, hfr, ⟨hcs.1, hcs.2⟩⟩, rfl, C.ht tw780⟩ ⟨PK.blind, fun U hU hW => ⟨rfl, ⟨by rw [hU]; exact hsz, hB, by rw [hU]; exact hPn⟩, gE_go C.2.2.2.2.2.2.1 hS1 hU hW⟩⟩ rfl rfl hl.1 rfl (lv_room hW) hd5 (by rw [hR]; exact ⟨hcs.1, hcs.2⟩)) hS1 (fun q _ h => Nat.le_trans hB h) (fun q h => Nat.le_trans hB h) (fun u t H2 locs2 ht hvm hr hB8 hz hkp2 hS2 => ?_)
  obtain ⟨hsz2, hF, hI0, hI1⟩ := hB8
  rw [ht] at hF hI0 hI1
  have hkp9 : ∀ q, q < a → H2[q]? = H[q]? := fun q h => (hkp2 q (by rw [hsz]; omega) (Nat.not_le.mpr h)).trans (hkp q (by rw [hsz0]; exact h))
  have hG9 : yW (xY X) (hu (hu (hu g (a + 1) (2, fo0)) (a + 11) (0, fo0)) a (4, (ed0 a p0 p1 p2))) H2 := by
    have hG9 := blk_keep (l := [(0, 0), (1, 0), (1, 1), (1, 2), (1, 3), (1, 4), (1, 5), (1, 6), (1, 7), (0, 5), (0, 7), (11, 0)]) hG hsz0 hkp9
    have hG9 := blk_nice hG9 hB hI0 rfl (by decide +kernel)
    have hG9 := blk_list hG9 hB hI1 rfl
    have hG9 := blk_nice (b := 0) hG9 hB hF rfl (by decide +kernel)
    exact ⟨_, hG9⟩
  exact kk H2 locs2 ls hS2 hG9 hl

set_option maxHeartbeats 4000000 in
set_option maxRecDepth 100000 in
theorem r_newR {X : gCx} {cc : ByteArray} {own : String} {ret : Option FieldType} {rm : Room} {mc ms pc pc5 : Nat} {loc : List (Nat × Value)} {stk : List Value} {g : GH} (C : gC X cc own ret rm) {index i5 : Nat} (hd : decode cc pc = .ok (.new index, 3)) (hw : Cond.classLink own index "CanvasRoom" ∈ TW) (hlink : Cond.methodLink own i5 yX7_init ∈ TW) (hd5 : decode cc pc5 = .ok (.invokespecial i5, 3)) (hW : ((.ref 0 :: stk : List Value).map fun v => v.category).sum ≤ 8) (hcs : mc + 31 ≤ rm.cells ∧ ms + 711 ≤ rm.slots) (hfr : rm_X7_init.frames + 1 ≤ rm.frames ∧ 8 + (1 + 11) + rm_X7_init.locals ≤ rm.locals)
    (mid : ∀ (a : Nat) (H : Heap) (locs : List Loc) (ls : Array Slot) (mc ms : Nat), lv_has ls (xn X) loc → gV X H locs mc ms (F0 (xm X) pc5 ls (.ref a :: .ref a :: stk)) → gV X H locs mc ms (F0 (xm X) (pc + 3) ls (.ref a :: stk)))
    (kk : ∀ a : Nat, (∀ q, a ≤ q → g q = none) → gX X (mc + 31) (ms + 711) (pc5 + 3) loc (.ref a :: stk) (hu (hu (hu (hu (hu (hu (hu g (a + 1) (0, fo0)) (a + 2) (0, fo0)) (a + 3) (0, fo0)) (a + 4) (0, fo0)) (a + 5) (2, fo0)) (a + 13) (2, fo0)) a (8, (croom0 a)))) : gX X mc ms pc loc stk g := fun H locs ls hS hG hl => by
  have hsz0 : H.size = H.size := rfl
  have hfresh : ∀ q, H.size ≤ q → g q = none := fun q h => g_fresh hG h
  have hB : yB0 (xY X) ≤ H.size := by
    obtain ⟨-, -, -, -, -, -, -, -, h13⟩ := C.2.2.2.2.2.2.1
    exact Nat.le_trans h13 hS.1
  obtain ⟨tag, hG⟩ := hG
  obtain ⟨a, ha⟩ : ∃ a, a = H.size := ⟨_, rfl⟩
  rw [← ha] at hfresh hB
  have hsz0 := ha.symm
  have hR := C.2.2.2.2.2.2.2
  have kk := kk a hfresh
  refine v_new (A := gA (yB0 (xY X))) (ci := 8) (fs := bl_X7) (a := a) C hd rfl rfl gcl_8.2.2.1 tyX7_ok ⟨hw, tw86, tw59⟩ (fun j hj => by match j, hj with | 0, _ => rfl | 1, _ => rfl | 2, _ => rfl | 3, _ => rfl | 4, _ => rfl | 5, _ => rfl | 6, _ => rfl | 7, _ => rfl | 8, _ => rfl | 9, _ => rfl | 10, _ => rfl | n + 11, hj => exact absurd hj (by omega)) ⟨Nat.le_trans (by omega) hcs.1, Nat.le_trans (by omega) hcs.2⟩ hsz0 hB hS (fun H1 hPn hsz hkp hS1 => ?_)
  refine mid a H1 locs ls _ _ hl ?_
  refine va_callv (va_runI (As := []) (rest := .ref a :: stk) ⟨C.1, C.2.1, C.2.2.1, C.2.2.2.1, C.hts⟩ (k_X7_init (Y := xY X) (a := a)) ⟨g_callB (mc := mc + 1) (ms := ms + 11) C mt_X7_init hlink ⟨rfl, rfl, hfr, ⟨hcs.1, hcs.2⟩⟩, rfl, C.ht tw88⟩ ⟨PK.blind, fun U hU hW => ⟨rfl, ⟨by rw [hU]; exact hsz, hB, by rw [hU]; exact hPn⟩, gE_go C.2.2.2.2.2.2.1 hS1 hU hW⟩⟩ rfl rfl hl.1 rfl (lv_room hW) hd5 (by rw [hR]; exact ⟨hcs.1, hcs.2⟩)) hS1 (fun q _ h => Nat.le_trans hB h) (fun q h => Nat.le_trans hB h) (fun u t H2 locs2 ht hvm hr hB8 hz hkp2 hS2 => ?_)
  obtain ⟨hsz2, hF, hI0, hI1, hI2, hI3, hI4, hI5⟩ := hB8
  rw [ht] at hF hI0 hI1 hI2 hI3 hI4 hI5
  have hkp9 : ∀ q, q < a → H2[q]? = H[q]? := fun q h => (hkp2 q (by rw [hsz]; omega) (Nat.not_le.mpr h)).trans (hkp q (by rw [hsz0]; exact h))
  have hG9 : yW (xY X) (hu (hu (hu (hu (hu (hu (hu g (a + 1) (0, fo0)) (a + 2) (0, fo0)) (a + 3) (0, fo0)) (a + 4) (0, fo0)) (a + 5) (2, fo0)) (a + 13) (2, fo0)) a (8, (croom0 a))) H2 := by
    have hG9 := blk_keep (l := [(0, 0), (1, 0), (2, 0), (3, 0), (4, 0), (5, 0), (5, 1), (5, 2), (5, 3), (5, 4), (5, 5), (5, 6), (5, 7), (13, 0), (13, 1), (13, 2), (13, 3), (13, 4), (13, 5), (13, 6), (13, 7), (0, 8), (0, 9), (0, 10)]) hG hsz0 hkp9
    have hG9 := blk_list hG9 hB hI0 rfl
    have hG9 := blk_list hG9 hB hI1 rfl
    have hG9 := blk_list hG9 hB hI2 rfl
    have hG9 := blk_list hG9 hB hI3 rfl
    have hG9 := blk_nice hG9 hB hI4 rfl (by decide +kernel)
    have hG9 := blk_nice hG9 hB hI5 rfl (by decide +kernel)
    have hG9 := blk_nice (b := 0) hG9 hB hF rfl (by decide +kernel)
    exact ⟨_, hG9⟩
  exact kk H2 locs2 ls hS2 hG9 hl

set_option maxHeartbeats 4000000 in
set_option maxRecDepth 100000 in
theorem r_newM {X : gCx} {cc : ByteArray} {own : String} {ret : Option FieldType} {rm : Room} {mc ms pc pc5 : Nat} {loc : List (Nat × Value)} {stk : List Value} {g : GH} (C : gC X cc own ret rm) {index i5 : Nat} (hd : decode cc pc = .ok (.new index, 3)) (hw : Cond.classLink own index "CanvasRoomModel" ∈ TW) (hlink : Cond.methodLink own i5 yX8_init ∈ TW) (hd5 : decode cc pc5 = .ok (.invokespecial i5, 3)) (hW : ((.ref 0 :: stk : List Value).map fun v => v.category).sum ≤ 8) (hcs : mc + 51 ≤ rm.cells ∧ ms + 9049 ≤ rm.slots) (hfr : rm_X8_init.frames + 1 ≤ rm.frames ∧ 8 + (1 + 11) + rm_X8_init.locals ≤ rm.locals)
    (mid : ∀ (a : Nat) (H : Heap) (locs : List Loc) (ls : Array Slot) (mc ms : Nat), lv_has ls (xn X) loc → gV X H locs mc ms (F0 (xm X) pc5 ls (.ref a :: .ref a :: stk)) → gV X H locs mc ms (F0 (xm X) (pc + 3) ls (.ref a :: stk)))
    (kk : ∀ a : Nat, (∀ q, a ≤ q → g q = none) → gX X (mc + 51) (ms + 9049) (pc5 + 3) loc (.ref a :: stk) (hu g a (9, fo0))) : gX X mc ms pc loc stk g := fun H locs ls hS hG hl => by
  have hsz0 : H.size = H.size := rfl
  have hfresh : ∀ q, H.size ≤ q → g q = none := fun q h => g_fresh hG h
  have hB : yB0 (xY X) ≤ H.size := by
    obtain ⟨-, -, -, -, -, -, -, -, h13⟩ := C.2.2.2.2.2.2.1
    exact Nat.le_trans h13 hS.1
  obtain ⟨tag, hG⟩ := hG
  obtain ⟨a, ha⟩ : ∃ a, a = H.size := ⟨_, rfl⟩
  rw [← ha] at hfresh hB
  have hsz0 := ha.symm
  have hR := C.2.2.2.2.2.2.2
  have kk := kk a hfresh
  refine v_new (A := gA (yB0 (xY X))) (ci := 9) (fs := bl_X8) (a := a) C hd rfl rfl gcl_9.2.2.1 tyX8_ok ⟨hw, tw1054, tw64⟩ (fun j hj => by match j, hj with | 0, _ => rfl | 1, _ => rfl | 2, _ => rfl | 3, _ => rfl | 4, _ => rfl | 5, _ => rfl | 6, _ => rfl | 7, _ => rfl | 8, _ => rfl | 9, _ => rfl | 10, _ => rfl | 11, _ => rfl | 12, _ => rfl | 13, _ => rfl | 14, _ => rfl | 15, _ => rfl | 16, _ => rfl | 17, _ => rfl | 18, _ => rfl | 19, _ => rfl | 20, _ => rfl | 21, _ => rfl | 22, _ => rfl | 23, _ => rfl | 24, _ => rfl | 25, _ => rfl | 26, _ => rfl | 27, _ => rfl | 28, _ => rfl | 29, _ => rfl | 30, _ => rfl | 31, _ => rfl | 32, _ => rfl | 33, _ => rfl | 34, _ => rfl | 35, _ => rfl | 36, _ => rfl | 37, _ => rfl | 38, _ => rfl | 39, _ => rfl | 40, _ => rfl | 41, _ => rfl | 42, _ => rfl | 43, _ => rfl | 44, _ => rfl | 45, _ => rfl | 46, _ => rfl | 47, _ => rfl | 48, _ => rfl | n + 49, hj => exact absurd hj (by omega)) ⟨Nat.le_trans (by omega) hcs.1, Nat.le_trans (by omega) hcs.2⟩ hsz0 hB hS (fun H1 hPn hsz hkp hS1 => ?_)
  refine mid a H1 locs ls _ _ hl ?_
  refine va_callv (va_runI (As := []) (rest := .ref a :: stk) ⟨C.1, C.2.1, C.2.2.1, C.2.2.2.1, C.hts⟩ (k_X8_init (Y := xY X) (a := a)) ⟨g_callB (mc := mc + 1) (ms := ms + 49) C mt_X8_init hlink ⟨rfl, rfl, hfr, ⟨hcs.1, hcs.2⟩⟩, rfl, C.ht tw1056⟩ ⟨PK.blind, fun U hU hW => ⟨rfl, ⟨by rw [hU]; exact hsz, hB, by rw [hU]; exact hPn⟩, gE_go C.2.2.2.2.2.2.1 hS1 hU hW⟩⟩ rfl rfl hl.1 rfl (lv_room hW) hd5 (by rw [hR]; exact ⟨hcs.1, hcs.2⟩)) hS1 (fun q _ h => Nat.le_trans hB h) (fun q h => Nat.le_trans hB h) (fun u t H2 locs2 ht hvm hr hB8 hz hkp2 hS2 => ?_)
  obtain ⟨hsz2, hF⟩ := hB8
  rw [ht] at hF
  have hkp9 : ∀ q, q < a → H2[q]? = H[q]? := fun q h => (hkp2 q (by rw [hsz]; omega) (Nat.not_le.mpr h)).trans (hkp q (by rw [hsz0]; exact h))
  have hG9 : yW (xY X) (hu g a (9, fo0)) H2 := by
    have hG9 := blk_keep (l := [(0, 0), (0, 3), (0, 4), (0, 5), (0, 6), (0, 7), (0, 8), (0, 9), (0, 10), (0, 12), (0, 13), (0, 14), (0, 15), (0, 16), (0, 17), (0, 18), (0, 20), (0, 21), (0, 22), (0, 23), (0, 24), (0, 25), (0, 27), (0, 28), (0, 29), (0, 30), (0, 31), (0, 32), (0, 33), (0, 34), (0, 35), (0, 36), (0, 37), (0, 38), (0, 39), (0, 40), (0, 41), (0, 42), (0, 43), (0, 44), (0, 45), (0, 46), (0, 47), (0, 48)]) hG hsz0 hkp9
    have hG9 := blk_nice (b := 0) hG9 hB hF rfl (by decide +kernel)
    exact ⟨_, hG9⟩
  exact kk H2 locs2 ls hS2 hG9 hl


def rm_X3_issue : Room := { frames := 7, cells := 44, slots := 968, locals := 301 }
theorem mt_X3_issue : gMt yX3_issue cX3_issue 3 none 1 := ⟨tw828, tw82, by decide +kernel, by decide +kernel, by decide +kernel⟩
def wp_X3_issue_2 (a : Nat) (p0 : Int32) (post : GH → Prop) : Nat → Int32 → GH → Prop
  | 0, _, _ => False
  | n + 1, x2, g =>
    ((p0 ≤ x2 → post g) ∧ (¬ p0 ≤ x2 → ((20 ≤ x2 → post g) ∧ (¬ 20 ≤ x2 → ∃ o3, g a = some (4, o3) ∧
    ∀ a5, g a5 = none → ∀ g6, g6 = hu g a5 (3, fo0) →
    ∃ o9, g6 a5 = some (3, o9) ∧
    wp_X2_init o9 (fun o11 => ∀ g12, g12 = hu g6 a5 (3, o11) →
    ∃ o14, g12 (fR o3 8) = some (0, o14) ∧
    vp_in (fI o14 2) 20 ∧ (∀ j, j < (fI o14 2).toNatClampNeg → ∃ c oo, c < 10 ∧ g12 (fR o14 j) = some (c, oo)) ∧ (∃ c oo, c < 10 ∧ g12 a5 = some (c, oo)) ∧ ∀ g17, g17 = hu g12 (fR o3 8) (0, lAdd o14 a5) →
    wp_X3_issue_2 a p0 post n (x2 + 1) g17)))))
def wp_X3_issue (a : Nat) (p0 : Int32) (g : GH) (post : GH → Prop) : Prop :=
wp_X3_issue_2 a p0 post 22 0 g
set_option maxHeartbeats 4000000 in
set_option maxRecDepth 100000 in
theorem t_X3_issue_2 {X : gCx} {a : Nat}  {p0 : Int32} {post : GH → Prop}    (C : gC X cX3_issue RX3 none rm_X3_issue) (hn : xn X = 3) (hQ : gRet X (gQv (xY X) post) 44 968 ∨ gRex X (gQv (xY X) post) (fun _ _ => False) 44 968)    : ∀ (n : Nat) (x2 : Int32) (g : GH), wp_X3_issue_2 a p0 post n x2 g → n ≤ 22 → gX X ((22 - n) * 2) ((22 - n) * 44) 2 [(0, .ref a), (1, .int p0), (2, .int x2)] [] g := by
  intro n
  induction n with
  | zero => intro x2 g w _; exact w.elim
  | succ n ih =>
    intro x2 g w hn9
    obtain ⟨M9, hM9⟩ : ∃ z, z = 22 - (n + 1) := ⟨_, rfl⟩
    have hM8 : M9 ≤ 21 := by omega
    have hM7 : 22 - n = M9 + 1 := by omega
    rw [hM7] at ih
    rw [← hM9]
    unfold wp_X3_issue_2 at w
    refine r_iload_n C 2 dX3_issue_2 rfl (r_iload_n C 1 dX3_issue_3 rfl (r_icmp_ge C 34 dX3_issue_4 (by decide) (fun c1 => ?_) (fun c1 => ?_)))
    · have w := w.1 c1
      exact r_vret C hQ dX3_issue_34 rfl ⟨by omega, by omega⟩ w
    · have w := w.2 c1
      refine r_iload_n C 2 dX3_issue_7 rfl (r_bipush C (v := 20) dX3_issue_8 (by decide) (r_icmp_ge C 34 dX3_issue_10 (by decide) (fun c2 => ?_) (fun c2 => ?_)))
      · have w := w.1 c2
        exact r_vret C hQ dX3_issue_34 rfl ⟨by omega, by omega⟩ w
      · have w := w.2 c2
        obtain ⟨o3, e4, w⟩ := w
        refine r_aload_n C 0 dX3_issue_13 rfl (rg_X3_X3_copies C dX3_issue_14 e4 (r_new C gcl_3 dX3_issue_17 ⟨tw829, tw830, tw83⟩ hsm_3 ⟨by show _ ≤ 44; omega, by show _ ≤ 968; omega⟩ (fun a5 n8 _ => ?_)))
        obtain ⟨g6, e7⟩ : ∃ z, z = hu g a5 (3, fo0) := ⟨_, rfl⟩
        have w := w a5 n8 g6 e7
        refine gX_eq e7.symm ?_
        obtain ⟨o9, e10, w⟩ := w
        refine r_dup C dX3_issue_20 rfl (r_gov (r_runIN C dX3_issue_21 (m_X2_init e10 w) mt_X2_init tw831 tw832 rfl rfl (stk := [.ref a5, .ref (fR o3 8)]) rfl (Nat.le_of_ble_eq_true rfl) ⟨rfl, rfl, ⟨Nat.le_of_ble_eq_true rfl, Nat.le_of_ble_eq_true rfl⟩, ⟨by show _ ≤ 44; omega, by show _ ≤ 968; omega⟩⟩) ?_)
        intro  h13 hp
        obtain ⟨o11, e9, w⟩ := hp
        obtain ⟨g12, rfl⟩ : ∃ z, z = h13 := ⟨_, rfl⟩
        have w := w _ e9
        obtain ⟨o14, e15, w⟩ := w
        obtain ⟨q181, q182, ⟨q185, q186, q183, q184⟩, w⟩ := w
        refine r_goi (r_runV C dX3_issue_24 (m_ladd (N := 20) (B := 40) e15 (by decide) (by decide) q181 q182 q183 q184) mt_Jx4a65c_add_9ea2d tw854 tw368 tw369 (ci := 0) rfl e15 rfl (stk := []) rfl (Nat.le_of_ble_eq_true rfl) ⟨rfl, rfl, ⟨Nat.le_of_ble_eq_true rfl, Nat.le_of_ble_eq_true rfl⟩, ⟨by show _ ≤ 44; omega, by show _ ≤ 968; omega⟩⟩) ?_
        intro r19 h16 hp
        obtain ⟨rfl, e9⟩ := hp
        obtain ⟨g17, rfl⟩ : ∃ z, z = h16 := ⟨_, rfl⟩
        have w := w _ e9
        exact r_pop C dX3_issue_27 rfl (r_iinc C (v := x2 + 1) 2 dX3_issue_28 rfl rfl (nlt hn (by decide)) rfl (r_goto C 2 dX3_issue_31 (by decide) (r_widen (by omega) (by omega) <| r_sub [1, 2, 0] rfl (ih _ _ w (by omega)))))
set_option maxHeartbeats 4000000 in
set_option maxRecDepth 100000 in
theorem m_X3_issue {Y : gWx} {a : Nat}  {p0 : Int32} {post : GH → Prop} {g : GH}     (w : wp_X3_issue a p0 g post) : gMet Y yX3_issue cX3_issue 3 none rm_X3_issue [.ref a, .int p0] g (gQv Y post) 44 968 := by
  refine gm_of rfl (Nat.le_of_ble_eq_true rfl) ?_
  intro X hY hn C hnm hQ
  subst hY
  have hQ : gRet X (gQv (xY X) post) 44 968 ∨ gRex X (gQv (xY X) post) (fun _ _ => False) 44 968 := Or.inl hQ
  have C : gC X cX3_issue RX3 none rm_X3_issue := C
  show gX X 0 0 0 [(0, .ref a), (1, .int p0)] [] g
  unfold wp_X3_issue at w
  exact r_iconst C (v := 0) dX3_issue_0 (by decide) (r_istore_n C dX3_issue_1 (nlt hn (by decide)) rfl (r_widen (Nat.le_of_ble_eq_true rfl) (Nat.le_of_ble_eq_true rfl) <| r_sub [1, 2, 0] rfl (t_X3_issue_2 C hn hQ 22 _ _ w (Nat.le_refl 22))))
def rm_X7_freeze : Room := { frames := 8, cells := 65, slots := 1545, locals := 323 }
theorem mt_X7_freeze : gMt yX7_freeze cX7_freeze 10 (some .int) 7 := ⟨tw724, tw59, by decide +kernel, by decide +kernel, by decide +kernel⟩
def wp_X7_freeze_72 (a : Nat) (p0 : Int32) (p1 : Int32) (p2 : Int32) (p3 : Int32) (p4 : Int32) (p5 : Int32) (p6 : Int32) (post : Int32 → GH → Prop) (px : String → GH → Prop)  (g : GH) : Prop :=
px "java/lang/IllegalStateException" g
def wp_X7_freeze (a : Nat) (p0 : Int32) (p1 : Int32) (p2 : Int32) (p3 : Int32) (p4 : Int32) (p5 : Int32) (p6 : Int32) (g : GH) (post : Int32 → GH → Prop) (px : String → GH → Prop) : Prop :=
wp_X7_checkHand p0 (
wp_X7_checkRectangle p1 p2 p3 p4 (
wp_X7_checkRange p5 1 20 (
wp_X7_checkRange p6 0 100000 (
∀ a5, g a5 = none → ∀ g6, g6 = hu g a5 (7, fo0) →
∃ o9, g6 a5 = some (7, o9) ∧
wp_X6_init p1 p2 p3 p4 o9 (fun o11 => ∀ g12, g12 = hu g6 a5 (7, o11) →
∃ o14, g12 a = some (8, o14) ∧
∃ o16, g12 (fR o14 2) = some (0, o16) ∧
((8 ≤ (fI o16 2) → wp_X7_freeze_72 a p0 p1 p2 p3 p4 p5 p6 post px g12) ∧ (¬ 8 ≤ (fI o16 2) → ∃ o21, g12 a = some (8, o21) ∧
∃ o23, g12 a = some (8, o23) ∧
∃ o26, g12 a5 = some (7, o26) ∧
wp_X6_isAnyShown a5 (fR o21 4) (fL o23 6) g12 (fun r25 =>
((¬ r25 = 0 → ∀ a30, (∀ q, a30 ≤ q → g12 q = none) → ∀ g31, g31 = hu (hu (hu g12 (a30 + 1) (2, fo0)) (a30 + 11) (0, fo0)) a30 (4, ed0 a30 p0 a5 p6) →
∃ o34, g31 a30 = some (4, o34) ∧
wp_X3_issue a30 p5 g31 (fun g36 =>
∃ o38, g36 a30 = some (4, o38) ∧
∃ o40, g36 a = some (8, o40) ∧
∃ o42, g36 (fR o38 3) = some (2, o42) ∧
wp_X1_copy (fR o38 3) (fR o40 4) g36 (fun g44 =>
∃ o46, g44 a = some (8, o46) ∧
wp_X7_measureAndHold a a30 g44 (fun g48 =>
∃ o50, g48 a = some (8, o50) ∧
∃ o52, g48 (fR o50 2) = some (0, o52) ∧
vp_in (fI o52 2) 8 ∧ (∀ j, j < (fI o52 2).toNatClampNeg → ∃ c oo, c < 10 ∧ g48 (fR o52 j) = some (c, oo)) ∧ (∃ c oo, c < 10 ∧ g48 a30 = some (c, oo)) ∧ ∀ g55, g55 = hu g48 (fR o50 2) (0, lAdd o52 a30) →
∃ o58, g55 a = some (8, o58) ∧
∃ o60, g55 (fR o58 2) = some (0, o60) ∧
post ((fI o60 2) - 1) g55)))) ∧ (r25 = 0 → wp_X7_freeze_72 a p0 p1 p2 p3 p4 p5 p6 post px g12))))))) (fun E => px E g)) (fun E => px E g)) (fun E => px E g)) (fun E => px E g)
set_option maxHeartbeats 4000000 in
set_option maxRecDepth 100000 in
theorem t_X7_freeze_72 {X : gCx} {a : Nat}  {p0 : Int32} {p1 : Int32} {p2 : Int32} {p3 : Int32} {p4 : Int32} {p5 : Int32} {p6 : Int32} {post : Int32 → GH → Prop} {px : String → GH → Prop}    (C : gC X cX7_freeze RX7 (some .int) rm_X7_freeze) (hn : xn X = 10) (hQ : gRet X (gQi (xY X) post) 65 1545 ∨ gRex X (gQi (xY X) post) px 65 1545) (hQx : gRex X (gQi (xY X) post) px 65 1545) (hl : (yl (xY X)).stackTraces = false) (hno : ∀ x ∈ (xc X).exceptionTable.toList, False)    : ∀ (g : GH), wp_X7_freeze_72 a p0 p1 p2 p3 p4 p5 p6 post px g → gX X 8 46 72 [] [] g := by
  intro g w
  unfold wp_X7_freeze_72 at w
  exact r_throw (text := "no shape is seen, or no room for another edition") C hQx hl (fun x hx => (hno x hx).elim) thx_65.1 thx_65.2.1 thx_65.2.2.1 thx_65.2.2.2.1 (by decide +kernel) thx_65.2.2.2.2.1 thx_65.2.2.2.2.2 dX7_freeze_72 dX7_freeze_75 dX7_freeze_76 dX7_freeze_78 dX7_freeze_81 ⟨Nat.le_of_ble_eq_true rfl, Nat.le_of_ble_eq_true rfl, Nat.le_of_ble_eq_true rfl, Nat.le_of_ble_eq_true rfl⟩ ⟨Nat.le_of_ble_eq_true rfl, Nat.le_of_ble_eq_true rfl⟩ w
set_option maxHeartbeats 4000000 in
set_option maxRecDepth 100000 in
theorem m_X7_freeze {Y : gWx} {a : Nat}  {p0 : Int32} {p1 : Int32} {p2 : Int32} {p3 : Int32} {p4 : Int32} {p5 : Int32} {p6 : Int32} {post : Int32 → GH → Prop} {px : String → GH → Prop} {g : GH}    (hl : (yl Y).stackTraces = false) (w : wp_X7_freeze a p0 p1 p2 p3 p4 p5 p6 g post px) : gMex Y yX7_freeze cX7_freeze 10 (some .int) rm_X7_freeze [.ref a, .int p0, .int p1, .int p2, .int p3, .int p4, .int p5, .int p6] g (gQi Y post) px 65 1545 := by
  refine gm_ofx rfl (Nat.le_of_ble_eq_true rfl) ?_
  intro X hY hn C hno hQx
  subst hY
  have hQ := Or.inr (a := gRet X (gQi (xY X) post) 65 1545) hQx
  have C : gC X cX7_freeze RX7 (some .int) rm_X7_freeze := C
  show gX X 0 0 0 [(0, .ref a), (1, .int p0), (2, .int p1), (3, .int p2), (4, .int p3), (5, .int p4), (6, .int p5), (7, .int p6)] [] g
  unfold wp_X7_freeze at w
  refine r_iload_n C 1 dX7_freeze_0 rfl (r_gxv (r_ruxS C dX7_freeze_1 (m_X7_checkHand hl w) mt_X7_checkHand tw227 tw228 rfl (stk := []) rfl (Nat.le_of_ble_eq_true rfl) ⟨rfl, rfl, ⟨Nat.le_of_ble_eq_true rfl, Nat.le_of_ble_eq_true rfl⟩, ⟨Nat.le_of_ble_eq_true rfl, Nat.le_of_ble_eq_true rfl⟩⟩) (fun E h1 hp => by obtain ⟨rfl, hp⟩ := hp; exact r_out C hQx (fun x hx => (hno x hx).elim) ⟨Nat.le_of_ble_eq_true rfl, Nat.le_of_ble_eq_true rfl⟩ hp) ?_)
  intro  h1 hp
  obtain ⟨e9, w⟩ := hp
  rw [e9]
  refine r_iload_n C 2 dX7_freeze_4 rfl (r_iload_n C 3 dX7_freeze_5 rfl (r_iload C 4 dX7_freeze_6 rfl (r_iload C 5 dX7_freeze_8 rfl (r_gxv (r_ruxS C dX7_freeze_10 (m_X7_checkRectangle hl w) mt_X7_checkRectangle tw298 tw299 rfl (stk := []) rfl (Nat.le_of_ble_eq_true rfl) ⟨rfl, rfl, ⟨Nat.le_of_ble_eq_true rfl, Nat.le_of_ble_eq_true rfl⟩, ⟨Nat.le_of_ble_eq_true rfl, Nat.le_of_ble_eq_true rfl⟩⟩) (fun E h2 hp => by obtain ⟨rfl, hp⟩ := hp; exact r_out C hQx (fun x hx => (hno x hx).elim) ⟨Nat.le_of_ble_eq_true rfl, Nat.le_of_ble_eq_true rfl⟩ hp) ?_))))
  intro  h2 hp
  obtain ⟨e9, w⟩ := hp
  rw [e9]
  refine r_iload C 6 dX7_freeze_13 rfl (r_iconst C (v := 1) dX7_freeze_15 (by decide) (r_bipush C (v := 20) dX7_freeze_16 (by decide) (r_gxv (r_ruxS C dX7_freeze_18 (m_X7_checkRange hl w) mt_X7_checkRange tw301 tw302 rfl (stk := []) rfl (Nat.le_of_ble_eq_true rfl) ⟨rfl, rfl, ⟨Nat.le_of_ble_eq_true rfl, Nat.le_of_ble_eq_true rfl⟩, ⟨Nat.le_of_ble_eq_true rfl, Nat.le_of_ble_eq_true rfl⟩⟩) (fun E h3 hp => by obtain ⟨rfl, hp⟩ := hp; exact r_out C hQx (fun x hx => (hno x hx).elim) ⟨Nat.le_of_ble_eq_true rfl, Nat.le_of_ble_eq_true rfl⟩ hp) ?_)))
  intro  h3 hp
  obtain ⟨e9, w⟩ := hp
  rw [e9]
  refine r_iload C 7 dX7_freeze_21 rfl (r_iconst C (v := 0) dX7_freeze_23 (by decide) (r_ldc C dX7_freeze_24 tw725 (r_gxv (r_ruxS C dX7_freeze_26 (m_X7_checkRange hl w) mt_X7_checkRange tw301 tw302 rfl (stk := []) rfl (Nat.le_of_ble_eq_true rfl) ⟨rfl, rfl, ⟨Nat.le_of_ble_eq_true rfl, Nat.le_of_ble_eq_true rfl⟩, ⟨Nat.le_of_ble_eq_true rfl, Nat.le_of_ble_eq_true rfl⟩⟩) (fun E h4 hp => by obtain ⟨rfl, hp⟩ := hp; exact r_out C hQx (fun x hx => (hno x hx).elim) ⟨Nat.le_of_ble_eq_true rfl, Nat.le_of_ble_eq_true rfl⟩ hp) ?_)))
  intro  h4 hp
  obtain ⟨e9, w⟩ := hp
  rw [e9]
  refine r_new C gcl_7 dX7_freeze_29 ⟨tw726, tw727, tw80⟩ hsm_7 ⟨Nat.le_of_ble_eq_true rfl, Nat.le_of_ble_eq_true rfl⟩ (fun a5 n8 _ => ?_)
  obtain ⟨g6, e7⟩ : ∃ z, z = hu g a5 (7, fo0) := ⟨_, rfl⟩
  have w := w a5 n8 g6 e7
  refine gX_eq e7.symm ?_
  obtain ⟨o9, e10, w⟩ := w
  refine r_dup C dX7_freeze_32 rfl (r_iload_n C 2 dX7_freeze_33 rfl (r_iload_n C 3 dX7_freeze_34 rfl (r_iload C 4 dX7_freeze_35 rfl (r_iload C 5 dX7_freeze_37 rfl (r_gov (r_runI C dX7_freeze_39 (m_X6_init e10 w) mt_X6_init tw728 tw729 rfl rfl (stk := [.ref a5]) rfl (Nat.le_of_ble_eq_true rfl) ⟨rfl, rfl, ⟨Nat.le_of_ble_eq_true rfl, Nat.le_of_ble_eq_true rfl⟩, ⟨Nat.le_of_ble_eq_true rfl, Nat.le_of_ble_eq_true rfl⟩⟩) ?_)))))
  intro  h13 hp
  obtain ⟨o11, e9, w⟩ := hp
  obtain ⟨g12, rfl⟩ : ∃ z, z = h13 := ⟨_, rfl⟩
  have w := w _ e9
  obtain ⟨o14, e15, w⟩ := w
  obtain ⟨o16, e17, w⟩ := w
  refine r_astore C dX7_freeze_42 (nlt hn (by decide)) rfl (r_aload_n C 1 dX7_freeze_44 rfl (rg_X7_X7_frozenEditions C dX7_freeze_45 e15 (r_goi (r_runV C dX7_freeze_48 (m_lsize e17) mt_Jx4a65c_size_8abf5 tw201 tw202 tw203 (ci := 0) rfl e17 rfl (stk := []) rfl (Nat.le_of_ble_eq_true rfl) ⟨rfl, rfl, ⟨Nat.le_of_ble_eq_true rfl, Nat.le_of_ble_eq_true rfl⟩, ⟨Nat.le_of_ble_eq_true rfl, Nat.le_of_ble_eq_true rfl⟩⟩) ?_)))
  intro r19 h18 hp
  obtain ⟨e9, e8⟩ := hp
  rw [e9, e8]
  refine r_bipush C (v := 8) dX7_freeze_51 (by decide) (r_icmp_ge C 72 dX7_freeze_53 (by decide) (fun c20 => ?_) (fun c20 => ?_))
  · have w := w.1 c20
    exact r_widen (Nat.le_of_ble_eq_true rfl) (Nat.le_of_ble_eq_true rfl) <| r_sub [] rfl (t_X7_freeze_72 C hn hQ hQx hl hno _ w)
  · have w := w.2 c20
    obtain ⟨o21, e22, w⟩ := w
    obtain ⟨o23, e24, w⟩ := w
    obtain ⟨o26, e27, w⟩ := w
    refine r_aload C 0 dX7_freeze_56 rfl (r_aload_n C 1 dX7_freeze_58 rfl (rg_X7_X7_board C dX7_freeze_59 e22 (r_aload_n C 1 dX7_freeze_62 rfl (rg_X7_X7_takenDown C dX7_freeze_63 e24 (r_goi (r_runV C dX7_freeze_66 (m_X6_isAnyShown w) mt_X6_isAnyShown tw749 tw750 tw751 gcl_7.1 e27 rfl (stk := []) rfl (Nat.le_of_ble_eq_true rfl) ⟨rfl, rfl, ⟨Nat.le_of_ble_eq_true rfl, Nat.le_of_ble_eq_true rfl⟩, ⟨Nat.le_of_ble_eq_true rfl, Nat.le_of_ble_eq_true rfl⟩⟩) ?_)))))
    intro r25 h28 hp
    obtain ⟨e9, w⟩ := hp
    rw [e9]
    refine r_if_ne C 82 dX7_freeze_69 (by decide) (fun c29 => ?_) (fun c29 => ?_)
    · have w := w.1 c29
      refine r_newE (p0 := p0) (p1 := a5) (p2 := p6) (pc5 := 91) C dX7_freeze_82 tw606 tw779 dX7_freeze_91 (Nat.le_of_ble_eq_true rfl) ⟨Nat.le_of_ble_eq_true rfl, Nat.le_of_ble_eq_true rfl⟩ ⟨Nat.le_of_ble_eq_true rfl, Nat.le_of_ble_eq_true rfl⟩ (fun a H locs ls mc ms hl k9 => lv_dup C.1 C.2.1 dX7_freeze_85 rfl (lv_iload_n C.1 C.2.1 dX7_freeze_86 rfl (lv_at hl 2 rfl) (lv_aload C.1 C.2.1 dX7_freeze_87 (lv_at hl 0 rfl) (lv_iload C.1 C.2.1 dX7_freeze_89 (lv_at hl 8 rfl) k9)))) (fun a30 n33 => ?_)
      obtain ⟨g31, e32⟩ : ∃ z, z = hu (hu (hu g12 (a30 + 1) (2, fo0)) (a30 + 11) (0, fo0)) a30 (4, ed0 a30 p0 a5 p6) := ⟨_, rfl⟩
      have w := w a30 n33 g31 e32
      refine gX_eq e32.symm ?_
      obtain ⟨o34, e35, w⟩ := w
      refine r_astore C dX7_freeze_94 (nlt hn (by decide)) rfl (r_aload C 0 dX7_freeze_96 rfl (r_iload C 8 dX7_freeze_98 rfl (r_gov (r_runV C dX7_freeze_100 (m_X3_issue w) mt_X3_issue tw825 tw826 tw827 gcl_4.1 e35 rfl (stk := []) rfl (Nat.le_of_ble_eq_true rfl) ⟨rfl, rfl, ⟨Nat.le_of_ble_eq_true rfl, Nat.le_of_ble_eq_true rfl⟩, ⟨Nat.le_of_ble_eq_true rfl, Nat.le_of_ble_eq_true rfl⟩⟩) ?_)))
      intro  h37 hp
      obtain ⟨g36, rfl⟩ : ∃ z, z = h37 := ⟨_, rfl⟩
      have w := hp
      obtain ⟨o38, e39, w⟩ := w
      obtain ⟨o40, e41, w⟩ := w
      obtain ⟨o42, e43, w⟩ := w
      refine r_aload C 0 dX7_freeze_103 rfl (rg_X7_X3_kept C dX7_freeze_105 e39 (r_aload_n C 2 dX7_freeze_108 rfl (rg_X7_X7_board C dX7_freeze_109 e41 (r_gov (r_runV C dX7_freeze_112 (m_X1_copy w) mt_X1_copy tw855 tw856 tw857 gcl_2.1 e43 rfl (stk := []) rfl (Nat.le_of_ble_eq_true rfl) ⟨rfl, rfl, ⟨Nat.le_of_ble_eq_true rfl, Nat.le_of_ble_eq_true rfl⟩, ⟨Nat.le_of_ble_eq_true rfl, Nat.le_of_ble_eq_true rfl⟩⟩) ?_))))
      intro  h45 hp
      obtain ⟨g44, rfl⟩ : ∃ z, z = h45 := ⟨_, rfl⟩
      have w := hp
      obtain ⟨o46, e47, w⟩ := w
      refine r_aload_n C 2 dX7_freeze_115 rfl (r_aload C 0 dX7_freeze_116 rfl (r_gov (r_runV C dX7_freeze_118 (m_X7_measureAndHold w) mt_X7_measureAndHold tw860 tw862 tw23 gcl_8.1 e47 rfl (stk := []) rfl (Nat.le_of_ble_eq_true rfl) ⟨rfl, rfl, ⟨Nat.le_of_ble_eq_true rfl, Nat.le_of_ble_eq_true rfl⟩, ⟨Nat.le_of_ble_eq_true rfl, Nat.le_of_ble_eq_true rfl⟩⟩) ?_))
      intro  h49 hp
      obtain ⟨g48, rfl⟩ : ∃ z, z = h49 := ⟨_, rfl⟩
      have w := hp
      obtain ⟨o50, e51, w⟩ := w
      obtain ⟨o52, e53, w⟩ := w
      obtain ⟨q561, q562, ⟨q565, q566, q563, q564⟩, w⟩ := w
      refine r_aload_n C 2 dX7_freeze_121 rfl (rg_X7_X7_frozenEditions C dX7_freeze_122 e51 (r_aload C 0 dX7_freeze_125 rfl (r_goi (r_runV C dX7_freeze_127 (m_ladd (N := 8) (B := 22) e53 (by decide) (by decide) q561 q562 q563 q564) mt_Jx4a65c_add_9ea2d tw367 tw368 tw369 (ci := 0) rfl e53 rfl (stk := []) rfl (Nat.le_of_ble_eq_true rfl) ⟨rfl, rfl, ⟨Nat.le_of_ble_eq_true rfl, Nat.le_of_ble_eq_true rfl⟩, ⟨Nat.le_of_ble_eq_true rfl, Nat.le_of_ble_eq_true rfl⟩⟩) ?_)))
      intro r57 h54 hp
      obtain ⟨rfl, e9⟩ := hp
      obtain ⟨g55, rfl⟩ : ∃ z, z = h54 := ⟨_, rfl⟩
      have w := w _ e9
      obtain ⟨o58, e59, w⟩ := w
      obtain ⟨o60, e61, w⟩ := w
      refine r_pop C dX7_freeze_130 rfl (r_aload_n C 2 dX7_freeze_131 rfl (rg_X7_X7_frozenEditions C dX7_freeze_132 e59 (r_goi (r_runV C dX7_freeze_135 (m_lsize e61) mt_Jx4a65c_size_8abf5 tw201 tw202 tw203 (ci := 0) rfl e61 rfl (stk := []) rfl (Nat.le_of_ble_eq_true rfl) ⟨rfl, rfl, ⟨Nat.le_of_ble_eq_true rfl, Nat.le_of_ble_eq_true rfl⟩, ⟨Nat.le_of_ble_eq_true rfl, Nat.le_of_ble_eq_true rfl⟩⟩) ?_)))
      intro r63 h62 hp
      obtain ⟨e9, e8⟩ := hp
      rw [e9, e8]
      exact r_iconst C (v := 1) dX7_freeze_138 (by decide) (r_isub C dX7_freeze_139 (r_iret C hQ dX7_freeze_140 rfl (vp_nar_int _) ⟨Nat.le_of_ble_eq_true rfl, Nat.le_of_ble_eq_true rfl⟩ w))
    · have w := w.2 c29
      exact r_widen (Nat.le_of_ble_eq_true rfl) (Nat.le_of_ble_eq_true rfl) <| r_sub [] rfl (t_X7_freeze_72 C hn hQ hQx hl hno _ w)
