def rm_J6_bitCount_0f7a4 : Room := { frames := 0, cells := 0, slots := 0, locals := 0 }
theorem mt_J6_bitCount_0f7a4 : gMt yJ6_bitCount_0f7a4 cJ6_bitCount_0f7a4 1 (some .int) 1 := ⟨tw773, tw81, by decide +kernel, by decide +kernel, by decide +kernel⟩
def wp_J6_bitCount_0f7a4 (p0 : Int32)  (post : Int32 → Prop) : Prop :=
post ((((((((p0 - (((p0.toUInt32 >>> ((1 : Int32).toUInt32 &&& Int32.toUInt32 31)).toInt32) &&& 1431655765)) &&& 858993459) + ((((p0 - (((p0.toUInt32 >>> ((1 : Int32).toUInt32 &&& Int32.toUInt32 31)).toInt32) &&& 1431655765)).toUInt32 >>> ((2 : Int32).toUInt32 &&& Int32.toUInt32 31)).toInt32) &&& 858993459)) + (((((p0 - (((p0.toUInt32 >>> ((1 : Int32).toUInt32 &&& Int32.toUInt32 31)).toInt32) &&& 1431655765)) &&& 858993459) + ((((p0 - (((p0.toUInt32 >>> ((1 : Int32).toUInt32 &&& Int32.toUInt32 31)).toInt32) &&& 1431655765)).toUInt32 >>> ((2 : Int32).toUInt32 &&& Int32.toUInt32 31)).toInt32) &&& 858993459)).toUInt32 >>> ((4 : Int32).toUInt32 &&& Int32.toUInt32 31)).toInt32)) &&& 252645135) + (((((((p0 - (((p0.toUInt32 >>> ((1 : Int32).toUInt32 &&& Int32.toUInt32 31)).toInt32) &&& 1431655765)) &&& 858993459) + ((((p0 - (((p0.toUInt32 >>> ((1 : Int32).toUInt32 &&& Int32.toUInt32 31)).toInt32) &&& 1431655765)).toUInt32 >>> ((2 : Int32).toUInt32 &&& Int32.toUInt32 31)).toInt32) &&& 858993459)) + (((((p0 - (((p0.toUInt32 >>> ((1 : Int32).toUInt32 &&& Int32.toUInt32 31)).toInt32) &&& 1431655765)) &&& 858993459) + ((((p0 - (((p0.toUInt32 >>> ((1 : Int32).toUInt32 &&& Int32.toUInt32 31)).toInt32) &&& 1431655765)).toUInt32 >>> ((2 : Int32).toUInt32 &&& Int32.toUInt32 31)).toInt32) &&& 858993459)).toUInt32 >>> ((4 : Int32).toUInt32 &&& Int32.toUInt32 31)).toInt32)) &&& 252645135).toUInt32 >>> ((8 : Int32).toUInt32 &&& Int32.toUInt32 31)).toInt32)) + ((((((((p0 - (((p0.toUInt32 >>> ((1 : Int32).toUInt32 &&& Int32.toUInt32 31)).toInt32) &&& 1431655765)) &&& 858993459) + ((((p0 - (((p0.toUInt32 >>> ((1 : Int32).toUInt32 &&& Int32.toUInt32 31)).toInt32) &&& 1431655765)).toUInt32 >>> ((2 : Int32).toUInt32 &&& Int32.toUInt32 31)).toInt32) &&& 858993459)) + (((((p0 - (((p0.toUInt32 >>> ((1 : Int32).toUInt32 &&& Int32.toUInt32 31)).toInt32) &&& 1431655765)) &&& 858993459) + ((((p0 - (((p0.toUInt32 >>> ((1 : Int32).toUInt32 &&& Int32.toUInt32 31)).toInt32) &&& 1431655765)).toUInt32 >>> ((2 : Int32).toUInt32 &&& Int32.toUInt32 31)).toInt32) &&& 858993459)).toUInt32 >>> ((4 : Int32).toUInt32 &&& Int32.toUInt32 31)).toInt32)) &&& 252645135) + (((((((p0 - (((p0.toUInt32 >>> ((1 : Int32).toUInt32 &&& Int32.toUInt32 31)).toInt32) &&& 1431655765)) &&& 858993459) + ((((p0 - (((p0.toUInt32 >>> ((1 : Int32).toUInt32 &&& Int32.toUInt32 31)).toInt32) &&& 1431655765)).toUInt32 >>> ((2 : Int32).toUInt32 &&& Int32.toUInt32 31)).toInt32) &&& 858993459)) + (((((p0 - (((p0.toUInt32 >>> ((1 : Int32).toUInt32 &&& Int32.toUInt32 31)).toInt32) &&& 1431655765)) &&& 858993459) + ((((p0 - (((p0.toUInt32 >>> ((1 : Int32).toUInt32 &&& Int32.toUInt32 31)).toInt32) &&& 1431655765)).toUInt32 >>> ((2 : Int32).toUInt32 &&& Int32.toUInt32 31)).toInt32) &&& 858993459)).toUInt32 >>> ((4 : Int32).toUInt32 &&& Int32.toUInt32 31)).toInt32)) &&& 252645135).toUInt32 >>> ((8 : Int32).toUInt32 &&& Int32.toUInt32 31)).toInt32)).toUInt32 >>> ((16 : Int32).toUInt32 &&& Int32.toUInt32 31)).toInt32)) &&& 63)
set_option maxHeartbeats 4000000 in
set_option maxRecDepth 100000 in
theorem m_J6_bitCount_0f7a4 {Y : gWx}  {p0 : Int32} {post : Int32 → Prop} {g : GH}     (w : wp_J6_bitCount_0f7a4 p0 post) : gMet Y yJ6_bitCount_0f7a4 cJ6_bitCount_0f7a4 1 (some .int) rm_J6_bitCount_0f7a4 [.int p0] g (gQi Y (fun r9 g9 => g9 = g ∧ post r9)) 0 0 := by
  refine gm_of rfl (Nat.le_of_ble_eq_true rfl) ?_
  intro X hY hn C hnm hQ
  subst hY
  have hQ : gRet X (gQi (xY X) (fun r9 g9 => g9 = g ∧ post r9)) 0 0 ∨ gRex X (gQi (xY X) (fun r9 g9 => g9 = g ∧ post r9)) (fun _ _ => False) 0 0 := Or.inl hQ
  have C : gC X cJ6_bitCount_0f7a4 RJ6 (some .int) rm_J6_bitCount_0f7a4 := C
  show gX X 0 0 0 [(0, .int p0)] [] g
  unfold wp_J6_bitCount_0f7a4 at w
  exact r_iload_n C 0 dJ6_bitCount_0f7a4_0 rfl (r_iload_n C 0 dJ6_bitCount_0f7a4_1 rfl (r_iconst C (v := 1) dJ6_bitCount_0f7a4_2 (by decide) (r_iushr C dJ6_bitCount_0f7a4_3 (r_ldcw C dJ6_bitCount_0f7a4_4 tw774 (r_iand C dJ6_bitCount_0f7a4_7 (r_isub C dJ6_bitCount_0f7a4_8 (r_istore_n C dJ6_bitCount_0f7a4_9 (nlt hn (by decide)) rfl (r_iload_n C 0 dJ6_bitCount_0f7a4_10 rfl (r_ldcw C dJ6_bitCount_0f7a4_11 tw775 (r_iand C dJ6_bitCount_0f7a4_14 (r_iload_n C 0 dJ6_bitCount_0f7a4_15 rfl (r_iconst C (v := 2) dJ6_bitCount_0f7a4_16 (by decide) (r_iushr C dJ6_bitCount_0f7a4_17 (r_ldcw C dJ6_bitCount_0f7a4_18 tw775 (r_iand C dJ6_bitCount_0f7a4_21 (r_iadd C dJ6_bitCount_0f7a4_22 (r_istore_n C dJ6_bitCount_0f7a4_23 (nlt hn (by decide)) rfl (r_iload_n C 0 dJ6_bitCount_0f7a4_24 rfl (r_iload_n C 0 dJ6_bitCount_0f7a4_25 rfl (r_iconst C (v := 4) dJ6_bitCount_0f7a4_26 (by decide) (r_iushr C dJ6_bitCount_0f7a4_27 (r_iadd C dJ6_bitCount_0f7a4_28 (r_ldcw C dJ6_bitCount_0f7a4_29 tw776 (r_iand C dJ6_bitCount_0f7a4_32 (r_istore_n C dJ6_bitCount_0f7a4_33 (nlt hn (by decide)) rfl (r_iload_n C 0 dJ6_bitCount_0f7a4_34 rfl (r_iload_n C 0 dJ6_bitCount_0f7a4_35 rfl (r_bipush C (v := 8) dJ6_bitCount_0f7a4_36 (by decide) (r_iushr C dJ6_bitCount_0f7a4_38 (r_iadd C dJ6_bitCount_0f7a4_39 (r_istore_n C dJ6_bitCount_0f7a4_40 (nlt hn (by decide)) rfl (r_iload_n C 0 dJ6_bitCount_0f7a4_41 rfl (r_iload_n C 0 dJ6_bitCount_0f7a4_42 rfl (r_bipush C (v := 16) dJ6_bitCount_0f7a4_43 (by decide) (r_iushr C dJ6_bitCount_0f7a4_45 (r_iadd C dJ6_bitCount_0f7a4_46 (r_istore_n C dJ6_bitCount_0f7a4_47 (nlt hn (by decide)) rfl (r_iload_n C 0 dJ6_bitCount_0f7a4_48 rfl (r_bipush C (v := 63) dJ6_bitCount_0f7a4_49 (by decide) (r_iand C dJ6_bitCount_0f7a4_51 (r_iret C hQ dJ6_bitCount_0f7a4_52 rfl (vp_nar_int _) ⟨Nat.le_of_ble_eq_true rfl, Nat.le_of_ble_eq_true rfl⟩ ⟨rfl, w⟩)))))))))))))))))))))))))))))))))))))))))
def rm_X6_countShown : Room := { frames := 4, cells := 0, slots := 0, locals := 90 }
theorem mt_X6_countShown : gMt yX6_countShown cX6_countShown 8 (some .int) 3 := ⟨tw756, tw80, by decide +kernel, by decide +kernel, by decide +kernel⟩
def wp_X6_countShown_22 (a : Nat) (p0 : Nat) (p1 : Int32) (p2 : Int64) (g : GH) (post : Int32 → Prop) : Nat → Int32 → Int32 → Int32 → Prop
  | 0, _, _, _ => False
  | n + 1, x5, x6, x7 =>
    ∃ o9, g a = some (7, o9) ∧
    ∃ o11, g a = some (7, o11) ∧
    ((((fI o9 1) + (fI o11 3)) ≤ x7 → post x6) ∧ (¬ ((fI o9 1) + (fI o11 3)) ≤ x7 → ∃ o15, g p0 = some (2, o15) ∧
    wp_X1_columnsShown p1 x7 p2 o15 (fun r14 =>
    wp_J6_bitCount_0f7a4 (x5 &&& r14) (fun r18 =>
    wp_X6_countShown_22 a p0 p1 p2 g post n x5 (x6 + r18) (x7 + 1)))))
def wp_X6_countShown (a : Nat) (p0 : Nat) (p1 : Int32) (p2 : Int64) (g : GH)  (post : Int32 → Prop) : Prop :=
∃ o1, g a = some (7, o1) ∧
∃ o3, g a = some (7, o3) ∧
wp_X7_columnSet (fI o1 0) (fI o3 2) (fun r5 =>
∃ o7, g a = some (7, o7) ∧
wp_X6_countShown_22 a p0 p1 p2 g post 1000 r5 0 (fI o7 1))
set_option maxHeartbeats 4000000 in
set_option maxRecDepth 100000 in
theorem t_X6_countShown_22 {X : gCx} {a : Nat}  {p0 : Nat} {p1 : Int32} {p2 : Int64} {post : Int32 → Prop} {g : GH}   (C : gC X cX6_countShown RX6 (some .int) rm_X6_countShown) (hn : xn X = 8) (hQ : gRet X (gQi (xY X) (fun r9 g9 => g9 = g ∧ post r9)) 0 0 ∨ gRex X (gQi (xY X) (fun r9 g9 => g9 = g ∧ post r9)) (fun _ _ => False) 0 0)    : ∀ (n : Nat) (x5 : Int32) (x6 : Int32) (x7 : Int32), wp_X6_countShown_22 a p0 p1 p2 g post n x5 x6 x7 → gX X 0 0 22 [(0, .ref a), (1, .ref p0), (2, .int p1), (3, .long p2), (5, .int x5), (6, .int x6), (7, .int x7)] [] g := by
  intro n
  induction n with
  | zero => intro x5 x6 x7 w; exact w.elim
  | succ n ih =>
    intro x5 x6 x7 w
    unfold wp_X6_countShown_22 at w
    obtain ⟨o9, e10, w⟩ := w
    obtain ⟨o11, e12, w⟩ := w
    refine r_iload C 6 dX6_countShown_22 rfl (r_aload_n C 0 dX6_countShown_24 rfl (rg_X6_X6_row C dX6_countShown_25 e10 (r_aload_n C 0 dX6_countShown_28 rfl (rg_X6_X6_height C dX6_countShown_29 e12 (r_iadd C dX6_countShown_32 (r_icmp_ge C 61 dX6_countShown_33 (by decide) (fun c13 => ?_) (fun c13 => ?_)))))))
    · have w := w.1 c13
      exact r_iload C 5 dX6_countShown_61 rfl (r_iret C hQ dX6_countShown_63 rfl (vp_nar_int _) ⟨Nat.le_of_ble_eq_true rfl, Nat.le_of_ble_eq_true rfl⟩ ⟨rfl, w⟩)
    · have w := w.2 c13
      obtain ⟨o15, e16, w⟩ := w
      refine r_iload C 5 dX6_countShown_36 rfl (r_iload C 4 dX6_countShown_38 rfl (r_aload_n C 1 dX6_countShown_40 rfl (r_iload_n C 2 dX6_countShown_41 rfl (r_iload C 6 dX6_countShown_42 rfl (r_lload_n C 3 dX6_countShown_44 rfl (r_goi (r_runV C dX6_countShown_45 (m_X1_columnsShown e16 w) mt_X1_columnsShown tw760 tw761 tw762 gcl_2.1 e16 rfl (stk := [.int x5, .int x6]) rfl (Nat.le_of_ble_eq_true rfl) ⟨rfl, rfl, ⟨Nat.le_of_ble_eq_true rfl, Nat.le_of_ble_eq_true rfl⟩, ⟨Nat.le_of_ble_eq_true rfl, Nat.le_of_ble_eq_true rfl⟩⟩) ?_))))))
      intro r14 h17 hp
      obtain ⟨e9, w⟩ := hp
      rw [e9]
      refine r_iand C dX6_countShown_48 (r_goi (r_runS C dX6_countShown_49 (m_J6_bitCount_0f7a4 w) mt_J6_bitCount_0f7a4 tw771 tw772 rfl (stk := [.int x6]) rfl (Nat.le_of_ble_eq_true rfl) ⟨rfl, rfl, ⟨Nat.le_of_ble_eq_true rfl, Nat.le_of_ble_eq_true rfl⟩, ⟨Nat.le_of_ble_eq_true rfl, Nat.le_of_ble_eq_true rfl⟩⟩) ?_)
      intro r18 h19 hp
      obtain ⟨e9, w⟩ := hp
      rw [e9]
      exact r_iadd C dX6_countShown_52 (r_istore C dX6_countShown_53 (nlt hn (by decide)) rfl (r_iinc C (v := x7 + 1) 6 dX6_countShown_55 rfl rfl (nlt hn (by decide)) rfl (r_goto C 22 dX6_countShown_58 (by decide) (r_sub [2, 3, 4, 5, 6, 1, 0] rfl (ih _ _ _ w)))))
set_option maxHeartbeats 4000000 in
set_option maxRecDepth 100000 in
theorem m_X6_countShown {Y : gWx} {a : Nat}  {p0 : Nat} {p1 : Int32} {p2 : Int64} {post : Int32 → Prop} {g : GH}     (w : wp_X6_countShown a p0 p1 p2 g post) : gMet Y yX6_countShown cX6_countShown 8 (some .int) rm_X6_countShown [.ref a, .ref p0, .int p1, .long p2] g (gQi Y (fun r9 g9 => g9 = g ∧ post r9)) 0 0 := by
  refine gm_of rfl (Nat.le_of_ble_eq_true rfl) ?_
  intro X hY hn C hnm hQ
  subst hY
  have hQ : gRet X (gQi (xY X) (fun r9 g9 => g9 = g ∧ post r9)) 0 0 ∨ gRex X (gQi (xY X) (fun r9 g9 => g9 = g ∧ post r9)) (fun _ _ => False) 0 0 := Or.inl hQ
  have C : gC X cX6_countShown RX6 (some .int) rm_X6_countShown := C
  show gX X 0 0 0 [(0, .ref a), (1, .ref p0), (2, .int p1), (3, .long p2)] [] g
  unfold wp_X6_countShown at w
  obtain ⟨o1, e2, w⟩ := w
  obtain ⟨o3, e4, w⟩ := w
  refine r_aload_n C 0 dX6_countShown_0 rfl (rg_X6_X6_column C dX6_countShown_1 e2 (r_aload_n C 0 dX6_countShown_4 rfl (rg_X6_X6_width C dX6_countShown_5 e4 (r_goi (r_runSN C dX6_countShown_8 (m_X7_columnSet w) mt_X7_columnSet tw757 tw758 rfl (stk := []) rfl (Nat.le_of_ble_eq_true rfl) ⟨rfl, rfl, ⟨Nat.le_of_ble_eq_true rfl, Nat.le_of_ble_eq_true rfl⟩, ⟨Nat.le_of_ble_eq_true rfl, Nat.le_of_ble_eq_true rfl⟩⟩) ?_))))
  intro r5 h6 hp
  obtain ⟨e9, w⟩ := hp
  rw [e9]
  obtain ⟨o7, e8, w⟩ := w
  exact r_istore C dX6_countShown_11 (nlt hn (by decide)) rfl (r_iconst C (v := 0) dX6_countShown_13 (by decide) (r_istore C dX6_countShown_14 (nlt hn (by decide)) rfl (r_aload_n C 2 dX6_countShown_16 rfl (rg_X6_X6_row C dX6_countShown_17 e8 (r_istore C dX6_countShown_20 (nlt hn (by decide)) rfl (r_sub [3, 4, 5, 6, 2, 1, 0] rfl (t_X6_countShown_22 C hn hQ 1000 _ _ _ w)))))))
def rm_X3_changeSoldCopies : Room := { frames := 3, cells := 0, slots := 0, locals := 101 }
theorem mt_X3_changeSoldCopies : gMt yX3_changeSoldCopies cX3_changeSoldCopies 5 (some .int) 1 := ⟨tw993, tw82, by decide +kernel, by decide +kernel, by decide +kernel⟩
def wp_X3_changeSoldCopies_52 (a : Nat) (p0 : Int32) (post : Int32 → GH → Prop) (k4 : Int32 → Int32 → GH → Prop) (x2 : Int32) (x3 : Int32) (g : GH) : Prop :=
k4 x2 (x3 + 1) g
def wp_X3_changeSoldCopies_4 (a : Nat) (p0 : Int32) (post : Int32 → GH → Prop) : Nat → Int32 → Int32 → GH → Prop
  | 0, _, _, _ => False
  | n + 1, x2, x3, g =>
    ∃ o1, g a = some (4, o1) ∧
    ∃ o3, g (fR o1 8) = some (0, o3) ∧
    (((fI o3 2) ≤ x3 → post x2 g) ∧ (¬ (fI o3 2) ≤ x3 → ∃ o8, g a = some (4, o8) ∧
    ∃ o10, g (fR o8 8) = some (0, o10) ∧
    vp_in x3 (fI o10 2).toNatClampNeg ∧
    ∃ o15, g (fR o10 x3.toNatClampNeg) = some (3, o15) ∧
    ∃ o17, g (fR o10 x3.toNatClampNeg) = some (3, o17) ∧
    ((¬ (fI o17 0) = 1 → wp_X3_changeSoldCopies_52 a p0 post (fun x2 x3 g => wp_X3_changeSoldCopies_4 a p0 post n x2 x3 g) x2 x3 g) ∧ ((fI o17 0) = 1 → ∃ o20, g (fR o10 x3.toNatClampNeg) = some (3, o20) ∧
    ∀ g22, g22 = hu g (fR o10 x3.toNatClampNeg) (3, sI o20 0 2) →
    ∃ o24, g22 (fR o10 x3.toNatClampNeg) = some (3, o24) ∧
    ∀ g26, g26 = hu g22 (fR o10 x3.toNatClampNeg) (3, sI o24 3 p0) →
    wp_X3_changeSoldCopies_52 a p0 post (fun x2 x3 g => wp_X3_changeSoldCopies_4 a p0 post n x2 x3 g) (x2 + 1) x3 g26))))
def wp_X3_changeSoldCopies (a : Nat) (p0 : Int32) (g : GH) (post : Int32 → GH → Prop) : Prop :=
wp_X3_changeSoldCopies_4 a p0 post 1000 0 0 g
set_option maxHeartbeats 4000000 in
set_option maxRecDepth 100000 in
theorem t_X3_changeSoldCopies_52 {X : gCx} {a : Nat}  {p0 : Int32} {post : Int32 → GH → Prop}   {k4 : Int32 → Int32 → GH → Prop} (C : gC X cX3_changeSoldCopies RX3 (some .int) rm_X3_changeSoldCopies) (hn : xn X = 5) (hQ : gRet X (gQi (xY X) post) 0 0 ∨ gRex X (gQi (xY X) post) (fun _ _ => False) 0 0)   (hk4 : ∀ (x2 : Int32) (x3 : Int32) (g : GH), k4 x2 x3 g → gX X 0 0 4 [(0, .ref a), (1, .int p0), (2, .int x2), (3, .int x3)] [] g) : ∀ (x2 : Int32) (x3 : Int32) (g : GH), wp_X3_changeSoldCopies_52 a p0 post k4 x2 x3 g → gX X 0 0 52 [(0, .ref a), (1, .int p0), (2, .int x2), (3, .int x3)] [] g := by
  intro x2 x3 g w
  unfold wp_X3_changeSoldCopies_52 at w
  exact r_iinc C (v := x3 + 1) 3 dX3_changeSoldCopies_52 rfl rfl (nlt hn (by decide)) rfl (r_goto C 4 dX3_changeSoldCopies_55 (by decide) (r_sub [1, 2, 3, 0] rfl (hk4 _ _ _ w)))
set_option maxHeartbeats 4000000 in
set_option maxRecDepth 100000 in
theorem t_X3_changeSoldCopies_4 {X : gCx} {a : Nat}  {p0 : Int32} {post : Int32 → GH → Prop}    (C : gC X cX3_changeSoldCopies RX3 (some .int) rm_X3_changeSoldCopies) (hn : xn X = 5) (hQ : gRet X (gQi (xY X) post) 0 0 ∨ gRex X (gQi (xY X) post) (fun _ _ => False) 0 0)    : ∀ (n : Nat) (x2 : Int32) (x3 : Int32) (g : GH), wp_X3_changeSoldCopies_4 a p0 post n x2 x3 g → gX X 0 0 4 [(0, .ref a), (1, .int p0), (2, .int x2), (3, .int x3)] [] g := by
  intro n
  induction n with
  | zero => intro x2 x3 g w; exact w.elim
  | succ n ih =>
    intro x2 x3 g w
    unfold wp_X3_changeSoldCopies_4 at w
    obtain ⟨o1, e2, w⟩ := w
    obtain ⟨o3, e4, w⟩ := w
    refine r_iload_n C 3 dX3_changeSoldCopies_4 rfl (r_aload_n C 0 dX3_changeSoldCopies_5 rfl (rg_X3_X3_copies C dX3_changeSoldCopies_6 e2 (r_goi (r_runV C dX3_changeSoldCopies_9 (m_lsize e4) mt_Jx4a65c_size_8abf5 tw994 tw202 tw203 (ci := 0) rfl e4 rfl (stk := [.int x3]) rfl (Nat.le_of_ble_eq_true rfl) ⟨rfl, rfl, ⟨Nat.le_of_ble_eq_true rfl, Nat.le_of_ble_eq_true rfl⟩, ⟨Nat.le_of_ble_eq_true rfl, Nat.le_of_ble_eq_true rfl⟩⟩) ?_)))
    intro r6 h5 hp
    obtain ⟨e9, e8⟩ := hp
    rw [e9, e8]
    refine r_icmp_ge C 58 dX3_changeSoldCopies_12 (by decide) (fun c7 => ?_) (fun c7 => ?_)
    · have w := w.1 c7
      exact r_iload_n C 2 dX3_changeSoldCopies_58 rfl (r_iret C hQ dX3_changeSoldCopies_59 rfl (vp_nar_int _) ⟨Nat.le_of_ble_eq_true rfl, Nat.le_of_ble_eq_true rfl⟩ w)
    · have w := w.2 c7
      obtain ⟨o8, e9, w⟩ := w
      obtain ⟨o10, e11, w⟩ := w
      obtain ⟨i13, w⟩ := w
      refine r_aload_n C 0 dX3_changeSoldCopies_15 rfl (rg_X3_X3_copies C dX3_changeSoldCopies_16 e9 (r_iload_n C 3 dX3_changeSoldCopies_19 rfl (r_gor (r_runV C dX3_changeSoldCopies_20 (m_lget e11 i13) mt_Jx4a65c_get_915e3 tw995 tw468 tw469 (ci := 0) rfl e11 rfl (stk := []) rfl (Nat.le_of_ble_eq_true rfl) ⟨rfl, rfl, ⟨Nat.le_of_ble_eq_true rfl, Nat.le_of_ble_eq_true rfl⟩, ⟨Nat.le_of_ble_eq_true rfl, Nat.le_of_ble_eq_true rfl⟩⟩) ?_)))
      intro r14 h12 hp
      obtain ⟨e9, e8⟩ := hp
      rw [e9, e8]
      obtain ⟨o15, e16, w⟩ := w
      obtain ⟨o17, e18, w⟩ := w
      refine r_cast C gcl_3 dX3_changeSoldCopies_23 tw829 e16 (r_astore C dX3_changeSoldCopies_26 (nlt hn (by decide)) rfl (r_aload C 0 dX3_changeSoldCopies_28 rfl (rg_X3_X2_state C dX3_changeSoldCopies_30 e18 (r_iconst C (v := 1) dX3_changeSoldCopies_33 (by decide) (r_icmp_ne C 52 dX3_changeSoldCopies_34 (by decide) (fun c19 => ?_) (fun c19 => ?_))))))
      · have w := w.1 c19
        exact r_sub [1, 2, 3, 4] rfl (t_X3_changeSoldCopies_52 C hn hQ ih _ _ _ w)
      · have w := w.2 c19
        obtain ⟨o20, e21, w⟩ := w
        obtain ⟨g22, e23⟩ : ∃ z, z = hu g (fR o10 x3.toNatClampNeg) (3, sI o20 0 2) := ⟨_, rfl⟩
        have w := w g22 e23
        obtain ⟨o24, e25, w⟩ := w
        obtain ⟨g26, e27⟩ : ∃ z, z = hu g22 (fR o10 x3.toNatClampNeg) (3, sI o24 3 p0) := ⟨_, rfl⟩
        have w := w g26 e27
        exact r_aload C 0 dX3_changeSoldCopies_37 rfl (r_iconst C (v := 2) dX3_changeSoldCopies_39 (by decide) (rp_X3_X2_state C dX3_changeSoldCopies_40 e21 rfl e23 (r_aload C 0 dX3_changeSoldCopies_43 rfl (r_iload_n C 2 dX3_changeSoldCopies_45 rfl (rp_X3_X2_answerer C dX3_changeSoldCopies_46 e25 rfl e27 (r_iinc C (v := x2 + 1) 3 dX3_changeSoldCopies_49 rfl rfl (nlt hn (by decide)) rfl (r_sub [2, 3, 0, 4] rfl (t_X3_changeSoldCopies_52 C hn hQ ih _ _ _ w))))))))
set_option maxHeartbeats 4000000 in
set_option maxRecDepth 100000 in
theorem m_X3_changeSoldCopies {Y : gWx} {a : Nat}  {p0 : Int32} {post : Int32 → GH → Prop} {g : GH}     (w : wp_X3_changeSoldCopies a p0 g post) : gMet Y yX3_changeSoldCopies cX3_changeSoldCopies 5 (some .int) rm_X3_changeSoldCopies [.ref a, .int p0] g (gQi Y post) 0 0 := by
  refine gm_of rfl (Nat.le_of_ble_eq_true rfl) ?_
  intro X hY hn C hnm hQ
  subst hY
  have hQ : gRet X (gQi (xY X) post) 0 0 ∨ gRex X (gQi (xY X) post) (fun _ _ => False) 0 0 := Or.inl hQ
  have C : gC X cX3_changeSoldCopies RX3 (some .int) rm_X3_changeSoldCopies := C
  show gX X 0 0 0 [(0, .ref a), (1, .int p0)] [] g
  unfold wp_X3_changeSoldCopies at w
  exact r_iconst C (v := 0) dX3_changeSoldCopies_0 (by decide) (r_istore_n C dX3_changeSoldCopies_1 (nlt hn (by decide)) rfl (r_iconst C (v := 0) dX3_changeSoldCopies_2 (by decide) (r_istore_n C dX3_changeSoldCopies_3 (nlt hn (by decide)) rfl (r_sub [2, 3, 1, 0] rfl (t_X3_changeSoldCopies_4 C hn hQ 1000 _ _ _ w)))))
def rm_X7_takeDown : Room := { frames := 7, cells := 2, slots := 12, locals := 125 }
theorem mt_X7_takeDown : gMt yX7_takeDown cX7_takeDown 6 (some .int) 1 := ⟨tw988, tw59, by decide +kernel, by decide +kernel, by decide +kernel⟩
def wp_X7_takeDown_100 (a : Nat) (p0 : Int32) (post : Int32 → GH → Prop) (px : String → GH → Prop) (k44 : Int32 → Int32 → Int32 → GH → Prop) (x2 : Int32) (x3 : Int32) (x4 : Int32) (g : GH) : Prop :=
k44 x2 x3 (x4 + 1) g
def wp_X7_takeDown_44 (a : Nat) (p0 : Int32) (post : Int32 → GH → Prop) (px : String → GH → Prop) : Nat → Int32 → Int32 → Int32 → GH → Prop
  | 0, _, _, _, _ => False
  | n + 1, x2, x3, x4, g =>
    ∃ o20, g a = some (8, o20) ∧
    ∃ o22, g (fR o20 2) = some (0, o22) ∧
    (((fI o22 2) ≤ x4 → ∃ o27, g a = some (8, o27) ∧
    wp_X7_bit p0 (fun r29 =>
    ∃ o31, g a = some (8, o31) ∧
    ∀ g33, g33 = hu g a (8, sL o31 6 ((fL o27 6) ||| r29)) →
    post x3 g33)) ∧ (¬ (fI o22 2) ≤ x4 → ∃ o35, g a = some (8, o35) ∧
    ∃ o37, g (fR o35 2) = some (0, o37) ∧
    vp_in x4 (fI o37 2).toNatClampNeg ∧
    ∃ o42, g (fR o37 x4.toNatClampNeg) = some (4, o42) ∧
    ∃ o44, g (fR o37 x4.toNatClampNeg) = some (4, o44) ∧
    ∃ o46, g (fR o37 x4.toNatClampNeg) = some (4, o46) ∧
    ∃ o48, g a = some (8, o48) ∧
    ∃ o51, g (fR o44 1) = some (7, o51) ∧
    wp_X6_countShown (fR o44 1) (fR o46 3) p0 (fL o48 6) g (fun r50 =>
    ((r50 ≤ 0 → wp_X7_takeDown_100 a p0 post px (fun x2 x3 x4 g => wp_X7_takeDown_44 a p0 post px n x2 x3 x4 g) x2 x3 x4 g) ∧ (¬ r50 ≤ 0 → ∃ o56, g (fR o37 x4.toNatClampNeg) = some (4, o56) ∧
    wp_X3_changeSoldCopies (fR o37 x4.toNatClampNeg) x2 g (fun r55 g58 =>
    wp_X7_takeDown_100 a p0 post px (fun x2 x3 x4 g => wp_X7_takeDown_44 a p0 post px n x2 x3 x4 g) x2 (x3 + r55) x4 g58))))))
def wp_X7_takeDown (a : Nat) (p0 : Int32) (g : GH) (post : Int32 → GH → Prop) (px : String → GH → Prop) : Prop :=
∃ o1, g a = some (8, o1) ∧
wp_X7_checkShape a p0 g (
∃ o5, g a = some (8, o5) ∧
wp_X7_isTakenDown p0 o5 (fun r4 =>
((r4 = 0 → ∃ o9, g a = some (8, o9) ∧
∃ o11, g (fR o9 0) = some (0, o11) ∧
vp_in p0 (fI o11 2).toNatClampNeg ∧
∃ o16, g (fR o11 p0.toNatClampNeg) = some (6, o16) ∧
∃ o18, g (fR o11 p0.toNatClampNeg) = some (6, o18) ∧
wp_X7_takeDown_44 a p0 post px 1000 (fI o18 0) 0 0 g) ∧ (¬ r4 = 0 → px "java/lang/IllegalStateException" g)))) (fun E => px E g)
set_option maxHeartbeats 4000000 in
set_option maxRecDepth 100000 in
theorem t_X7_takeDown_100 {X : gCx} {a : Nat}  {p0 : Int32} {post : Int32 → GH → Prop} {px : String → GH → Prop}   {k44 : Int32 → Int32 → Int32 → GH → Prop} (C : gC X cX7_takeDown RX7 (some .int) rm_X7_takeDown) (hn : xn X = 6) (hQ : gRet X (gQi (xY X) post) 2 12 ∨ gRex X (gQi (xY X) post) px 2 12) (hQx : gRex X (gQi (xY X) post) px 2 12) (hl : (yl (xY X)).stackTraces = false) (hno : ∀ x ∈ (xc X).exceptionTable.toList, False)   (hk44 : ∀ (x2 : Int32) (x3 : Int32) (x4 : Int32) (g : GH), k44 x2 x3 x4 g → gX X 1 6 44 [(0, .ref a), (1, .int p0), (2, .int x2), (3, .int x3), (4, .int x4)] [] g) : ∀ (x2 : Int32) (x3 : Int32) (x4 : Int32) (g : GH), wp_X7_takeDown_100 a p0 post px k44 x2 x3 x4 g → gX X 1 6 100 [(0, .ref a), (1, .int p0), (2, .int x2), (3, .int x3), (4, .int x4)] [] g := by
  intro x2 x3 x4 g w
  unfold wp_X7_takeDown_100 at w
  exact r_iinc C (v := x4 + 1) 4 dX7_takeDown_100 rfl rfl (nlt hn (by decide)) rfl (r_goto C 44 dX7_takeDown_103 (by decide) (r_widen (Nat.le_of_ble_eq_true rfl) (Nat.le_of_ble_eq_true rfl) <| r_sub [1, 2, 3, 4, 0] rfl (hk44 _ _ _ _ w)))
set_option maxHeartbeats 4000000 in
set_option maxRecDepth 100000 in
theorem t_X7_takeDown_44 {X : gCx} {a : Nat}  {p0 : Int32} {post : Int32 → GH → Prop} {px : String → GH → Prop}    (C : gC X cX7_takeDown RX7 (some .int) rm_X7_takeDown) (hn : xn X = 6) (hQ : gRet X (gQi (xY X) post) 2 12 ∨ gRex X (gQi (xY X) post) px 2 12) (hQx : gRex X (gQi (xY X) post) px 2 12) (hl : (yl (xY X)).stackTraces = false) (hno : ∀ x ∈ (xc X).exceptionTable.toList, False)    : ∀ (n : Nat) (x2 : Int32) (x3 : Int32) (x4 : Int32) (g : GH), wp_X7_takeDown_44 a p0 post px n x2 x3 x4 g → gX X 1 6 44 [(0, .ref a), (1, .int p0), (2, .int x2), (3, .int x3), (4, .int x4)] [] g := by
  intro n
  induction n with
  | zero => intro x2 x3 x4 g w; exact w.elim
  | succ n ih =>
    intro x2 x3 x4 g w
    unfold wp_X7_takeDown_44 at w
    obtain ⟨o20, e21, w⟩ := w
    obtain ⟨o22, e23, w⟩ := w
    refine r_iload C 4 dX7_takeDown_44 rfl (r_aload_n C 0 dX7_takeDown_46 rfl (rg_X7_X7_frozenEditions C dX7_takeDown_47 e21 (r_goi (r_runV C dX7_takeDown_50 (m_lsize e23) mt_Jx4a65c_size_8abf5 tw201 tw202 tw203 (ci := 0) rfl e23 rfl (stk := [.int x4]) rfl (Nat.le_of_ble_eq_true rfl) ⟨rfl, rfl, ⟨Nat.le_of_ble_eq_true rfl, Nat.le_of_ble_eq_true rfl⟩, ⟨Nat.le_of_ble_eq_true rfl, Nat.le_of_ble_eq_true rfl⟩⟩) ?_)))
    intro r25 h24 hp
    obtain ⟨e9, e8⟩ := hp
    rw [e9, e8]
    refine r_icmp_ge C 106 dX7_takeDown_53 (by decide) (fun c26 => ?_) (fun c26 => ?_)
    · have w := w.1 c26
      obtain ⟨o27, e28, w⟩ := w
      refine r_aload_n C 0 dX7_takeDown_106 rfl (r_dup C dX7_takeDown_107 rfl (rg_X7_X7_takenDown C dX7_takeDown_108 e28 (r_iload_n C 1 dX7_takeDown_111 rfl (r_gol (r_runS C dX7_takeDown_112 (m_X7_bit w) mt_X7_bit tw542 tw494 rfl (stk := [.long (fL o27 6), .ref a]) rfl (Nat.le_of_ble_eq_true rfl) ⟨rfl, rfl, ⟨Nat.le_of_ble_eq_true rfl, Nat.le_of_ble_eq_true rfl⟩, ⟨Nat.le_of_ble_eq_true rfl, Nat.le_of_ble_eq_true rfl⟩⟩) ?_))))
      intro r29 h30 hp
      obtain ⟨e9, w⟩ := hp
      rw [e9]
      obtain ⟨o31, e32, w⟩ := w
      obtain ⟨g33, e34⟩ : ∃ z, z = hu g a (8, sL o31 6 ((fL o27 6) ||| r29)) := ⟨_, rfl⟩
      have w := w g33 e34
      exact r_lor C dX7_takeDown_115 (rp_X7_X7_takenDown C dX7_takeDown_116 e32 rfl e34 (r_iload_n C 3 dX7_takeDown_119 rfl (r_iret C hQ dX7_takeDown_120 rfl (vp_nar_int _) ⟨Nat.le_of_ble_eq_true rfl, Nat.le_of_ble_eq_true rfl⟩ w)))
    · have w := w.2 c26
      obtain ⟨o35, e36, w⟩ := w
      obtain ⟨o37, e38, w⟩ := w
      obtain ⟨i40, w⟩ := w
      refine r_aload_n C 0 dX7_takeDown_56 rfl (rg_X7_X7_frozenEditions C dX7_takeDown_57 e36 (r_iload C 4 dX7_takeDown_60 rfl (r_gor (r_runV C dX7_takeDown_62 (m_lget e38 i40) mt_Jx4a65c_get_915e3 tw467 tw468 tw469 (ci := 0) rfl e38 rfl (stk := []) rfl (Nat.le_of_ble_eq_true rfl) ⟨rfl, rfl, ⟨Nat.le_of_ble_eq_true rfl, Nat.le_of_ble_eq_true rfl⟩, ⟨Nat.le_of_ble_eq_true rfl, Nat.le_of_ble_eq_true rfl⟩⟩) ?_)))
      intro r41 h39 hp
      obtain ⟨e9, e8⟩ := hp
      rw [e9, e8]
      obtain ⟨o42, e43, w⟩ := w
      obtain ⟨o44, e45, w⟩ := w
      obtain ⟨o46, e47, w⟩ := w
      obtain ⟨o48, e49, w⟩ := w
      obtain ⟨o51, e52, w⟩ := w
      refine r_cast C gcl_4 dX7_takeDown_65 tw606 e43 (r_astore C dX7_takeDown_68 (nlt hn (by decide)) rfl (r_aload C 0 dX7_takeDown_70 rfl (rg_X7_X3_window C dX7_takeDown_72 e45 (r_aload C 0 dX7_takeDown_75 rfl (rg_X7_X3_kept C dX7_takeDown_77 e47 (r_iload_n C 2 dX7_takeDown_80 rfl (r_aload_n C 1 dX7_takeDown_81 rfl (rg_X7_X7_takenDown C dX7_takeDown_82 e49 (r_goi (r_runV C dX7_takeDown_85 (m_X6_countShown w) mt_X6_countShown tw864 tw754 tw755 gcl_7.1 e52 rfl (stk := []) rfl (Nat.le_of_ble_eq_true rfl) ⟨rfl, rfl, ⟨Nat.le_of_ble_eq_true rfl, Nat.le_of_ble_eq_true rfl⟩, ⟨Nat.le_of_ble_eq_true rfl, Nat.le_of_ble_eq_true rfl⟩⟩) ?_)))))))))
      intro r50 h53 hp
      obtain ⟨e9, w⟩ := hp
      rw [e9]
      refine r_if_le C 100 dX7_takeDown_88 (by decide) (fun c54 => ?_) (fun c54 => ?_)
      · have w := w.1 c54
        exact r_widen (Nat.le_of_ble_eq_true rfl) (Nat.le_of_ble_eq_true rfl) <| r_sub [1, 2, 3, 4, 5] rfl (t_X7_takeDown_100 C hn hQ hQx hl hno ih _ _ _ _ w)
      · have w := w.2 c54
        obtain ⟨o56, e57, w⟩ := w
        refine r_iload_n C 4 dX7_takeDown_91 rfl (r_aload C 0 dX7_takeDown_92 rfl (r_iload_n C 3 dX7_takeDown_94 rfl (r_goi (r_runV C dX7_takeDown_95 (m_X3_changeSoldCopies w) mt_X3_changeSoldCopies tw990 tw991 tw992 gcl_4.1 e57 rfl (stk := [.int x3]) rfl (Nat.le_of_ble_eq_true rfl) ⟨rfl, rfl, ⟨Nat.le_of_ble_eq_true rfl, Nat.le_of_ble_eq_true rfl⟩, ⟨Nat.le_of_ble_eq_true rfl, Nat.le_of_ble_eq_true rfl⟩⟩) ?_)))
        intro r55 h59 hp
        obtain ⟨g58, rfl⟩ : ∃ z, z = h59 := ⟨_, rfl⟩
        have w := hp
        exact r_iadd C dX7_takeDown_98 (r_istore_n C dX7_takeDown_99 (nlt hn (by decide)) rfl (r_widen (Nat.le_of_ble_eq_true rfl) (Nat.le_of_ble_eq_true rfl) <| r_sub [2, 3, 4, 0, 5] rfl (t_X7_takeDown_100 C hn hQ hQx hl hno ih _ _ _ _ w)))
set_option maxHeartbeats 4000000 in
set_option maxRecDepth 100000 in
theorem m_X7_takeDown {Y : gWx} {a : Nat}  {p0 : Int32} {post : Int32 → GH → Prop} {px : String → GH → Prop} {g : GH}    (hl : (yl Y).stackTraces = false) (w : wp_X7_takeDown a p0 g post px) : gMex Y yX7_takeDown cX7_takeDown 6 (some .int) rm_X7_takeDown [.ref a, .int p0] g (gQi Y post) px 2 12 := by
  refine gm_ofx rfl (Nat.le_of_ble_eq_true rfl) ?_
  intro X hY hn C hno hQx
  subst hY
  have hQ := Or.inr (a := gRet X (gQi (xY X) post) 2 12) hQx
  have C : gC X cX7_takeDown RX7 (some .int) rm_X7_takeDown := C
  show gX X 0 0 0 [(0, .ref a), (1, .int p0)] [] g
  unfold wp_X7_takeDown at w
  obtain ⟨o1, e2, w⟩ := w
  refine r_aload_n C 0 dX7_takeDown_0 rfl (r_iload_n C 1 dX7_takeDown_1 rfl (r_gxv (r_ruxV C dX7_takeDown_2 (m_X7_checkShape hl w) mt_X7_checkShape tw528 tw530 tw11 gcl_8.1 e2 rfl (stk := []) rfl (Nat.le_of_ble_eq_true rfl) ⟨rfl, rfl, ⟨Nat.le_of_ble_eq_true rfl, Nat.le_of_ble_eq_true rfl⟩, ⟨Nat.le_of_ble_eq_true rfl, Nat.le_of_ble_eq_true rfl⟩⟩) (fun E h3 hp => by obtain ⟨rfl, hp⟩ := hp; exact r_out C hQx (fun x hx => (hno x hx).elim) ⟨Nat.le_of_ble_eq_true rfl, Nat.le_of_ble_eq_true rfl⟩ hp) ?_))
  intro  h3 hp
  obtain ⟨e9, w⟩ := hp
  rw [e9]
  obtain ⟨o5, e6, w⟩ := w
  refine r_aload_n C 0 dX7_takeDown_5 rfl (r_iload_n C 1 dX7_takeDown_6 rfl (r_goi (r_runV C dX7_takeDown_7 (m_X7_isTakenDown e6 w) mt_X7_isTakenDown tw538 tw540 tw13 gcl_8.1 e6 rfl (stk := []) rfl (Nat.le_of_ble_eq_true rfl) ⟨rfl, rfl, ⟨Nat.le_of_ble_eq_true rfl, Nat.le_of_ble_eq_true rfl⟩, ⟨Nat.le_of_ble_eq_true rfl, Nat.le_of_ble_eq_true rfl⟩⟩) ?_))
  intro r4 h7 hp
  obtain ⟨e9, w⟩ := hp
  rw [e9]
  refine r_if_eq C 24 dX7_takeDown_10 (by decide) (fun c8 => ?_) (fun c8 => ?_)
  · have w := w.1 c8
    obtain ⟨o9, e10, w⟩ := w
    obtain ⟨o11, e12, w⟩ := w
    obtain ⟨i14, w⟩ := w
    refine r_aload_n C 0 dX7_takeDown_24 rfl (rg_X7_X7_addedShapes C dX7_takeDown_25 e10 (r_iload_n C 1 dX7_takeDown_28 rfl (r_gor (r_runV C dX7_takeDown_29 (m_lget e12 i14) mt_Jx4a65c_get_915e3 tw467 tw468 tw469 (ci := 0) rfl e12 rfl (stk := []) rfl (Nat.le_of_ble_eq_true rfl) ⟨rfl, rfl, ⟨Nat.le_of_ble_eq_true rfl, Nat.le_of_ble_eq_true rfl⟩, ⟨Nat.le_of_ble_eq_true rfl, Nat.le_of_ble_eq_true rfl⟩⟩) ?_)))
    intro r15 h13 hp
    obtain ⟨e9, e8⟩ := hp
    rw [e9, e8]
    obtain ⟨o16, e17, w⟩ := w
    obtain ⟨o18, e19, w⟩ := w
    exact r_cast C gcl_6 dX7_takeDown_32 tw336 e17 (rg_X7_X5_maker C dX7_takeDown_35 e19 (r_istore_n C dX7_takeDown_38 (nlt hn (by decide)) rfl (r_iconst C (v := 0) dX7_takeDown_39 (by decide) (r_istore_n C dX7_takeDown_40 (nlt hn (by decide)) rfl (r_iconst C (v := 0) dX7_takeDown_41 (by decide) (r_istore C dX7_takeDown_42 (nlt hn (by decide)) rfl (r_widen (Nat.le_of_ble_eq_true rfl) (Nat.le_of_ble_eq_true rfl) <| r_sub [3, 4, 2, 1, 0] rfl (t_X7_takeDown_44 C hn hQ hQx hl hno 1000 _ _ _ _ w))))))))
  · have w := w.2 c8
    exact r_throwW (text := "taken down already") C hQx hl (fun x hx => (hno x hx).elim) thx_65.1 thx_65.2.1 thx_65.2.2.1 thx_65.2.2.2.1 (by decide +kernel) thx_65.2.2.2.2.1 thx_65.2.2.2.2.2 dX7_takeDown_13 dX7_takeDown_16 dX7_takeDown_17 dX7_takeDown_20 dX7_takeDown_23 ⟨Nat.le_of_ble_eq_true rfl, Nat.le_of_ble_eq_true rfl, Nat.le_of_ble_eq_true rfl, Nat.le_of_ble_eq_true rfl⟩ ⟨Nat.le_of_ble_eq_true rfl, Nat.le_of_ble_eq_true rfl⟩ w
def rm_X7_checkedChangedCopy : Room := { frames := 8, cells := 3, slots := 18, locals := 145 }
theorem mt_X7_checkedChangedCopy : gMt yX7_checkedChangedCopy cX7_checkedChangedCopy 4 (some (.object "CanvasRoom$Copy")) 2 := ⟨tw1006, tw59, by decide +kernel, by decide +kernel, by decide +kernel⟩
def wp_X7_checkedChangedCopy (a : Nat) (p0 : Int32) (p1 : Int32) (g : GH)  (post : Nat → Prop) (px : String → Prop) : Prop :=
∃ o2, g a = some (8, o2) ∧
wp_X7_checkedCopy a p0 p1 g (fun r1 =>
∃ o5, g r1 = some (3, o5) ∧
(((fI o5 0) = 2 → post r1) ∧ (¬ (fI o5 0) = 2 → px "java/lang/IllegalStateException"))) px
set_option maxHeartbeats 4000000 in
set_option maxRecDepth 100000 in
theorem m_X7_checkedChangedCopy {Y : gWx} {a : Nat}  {p0 : Int32} {p1 : Int32} {post : Nat → Prop} {px : String → Prop} {g : GH}    (hl : (yl Y).stackTraces = false) (w : wp_X7_checkedChangedCopy a p0 p1 g post px) : gMex Y yX7_checkedChangedCopy cX7_checkedChangedCopy 4 (some (.object "CanvasRoom$Copy")) rm_X7_checkedChangedCopy [.ref a, .int p0, .int p1] g (gQr Y (fun r9 g9 => g9 = g ∧ post r9)) (fun E9 g9 => g9 = g ∧ px E9) 3 18 := by
  refine gm_ofx rfl (Nat.le_of_ble_eq_true rfl) ?_
  intro X hY hn C hno hQx
  subst hY
  have hQ := Or.inr (a := gRet X (gQr (xY X) (fun r9 g9 => g9 = g ∧ post r9)) 3 18) hQx
  have C : gC X cX7_checkedChangedCopy RX7 (some (.object "CanvasRoom$Copy")) rm_X7_checkedChangedCopy := C
  show gX X 0 0 0 [(0, .ref a), (1, .int p0), (2, .int p1)] [] g
  unfold wp_X7_checkedChangedCopy at w
  obtain ⟨o2, e3, w⟩ := w
  refine r_aload_n C 0 dX7_checkedChangedCopy_0 rfl (r_iload_n C 1 dX7_checkedChangedCopy_1 rfl (r_iload_n C 2 dX7_checkedChangedCopy_2 rfl (r_gxr (r_ruxV C dX7_checkedChangedCopy_3 (m_X7_checkedCopy hl w) mt_X7_checkedCopy tw972 tw974 tw29 gcl_8.1 e3 rfl (stk := []) rfl (Nat.le_of_ble_eq_true rfl) ⟨rfl, rfl, ⟨Nat.le_of_ble_eq_true rfl, Nat.le_of_ble_eq_true rfl⟩, ⟨Nat.le_of_ble_eq_true rfl, Nat.le_of_ble_eq_true rfl⟩⟩) (fun E h4 hp => by obtain ⟨rfl, hp⟩ := hp; exact r_out C hQx (fun x hx => (hno x hx).elim) ⟨Nat.le_of_ble_eq_true rfl, Nat.le_of_ble_eq_true rfl⟩ ⟨rfl, hp⟩) ?_)))
  intro r1 h4 hp
  obtain ⟨e9, w⟩ := hp
  rw [e9]
  obtain ⟨o5, e6, w⟩ := w
  refine r_astore_n C dX7_checkedChangedCopy_6 (nlt hn (by decide)) rfl (r_aload_n C 0 dX7_checkedChangedCopy_7 rfl (rg_X7_X2_state C dX7_checkedChangedCopy_8 e6 (r_iconst C (v := 2) dX7_checkedChangedCopy_11 (by decide) (r_icmp_eq C 26 dX7_checkedChangedCopy_12 (by decide) (fun c7 => ?_) (fun c7 => ?_)))))
  · have w := w.1 c7
    exact r_aload_n C 0 dX7_checkedChangedCopy_26 rfl (r_aret C hQ dX7_checkedChangedCopy_27 rfl (Or.inl ⟨_, rfl⟩) ⟨Nat.le_of_ble_eq_true rfl, Nat.le_of_ble_eq_true rfl⟩ ⟨rfl, w⟩)
  · have w := w.2 c7
    exact r_throwW (text := "the copy is not CHANGED") C hQx hl (fun x hx => (hno x hx).elim) thx_65.1 thx_65.2.1 thx_65.2.2.1 thx_65.2.2.2.1 (by decide +kernel) thx_65.2.2.2.2.1 thx_65.2.2.2.2.2 dX7_checkedChangedCopy_15 dX7_checkedChangedCopy_18 dX7_checkedChangedCopy_19 dX7_checkedChangedCopy_22 dX7_checkedChangedCopy_25 ⟨Nat.le_of_ble_eq_true rfl, Nat.le_of_ble_eq_true rfl, Nat.le_of_ble_eq_true rfl, Nat.le_of_ble_eq_true rfl⟩ ⟨Nat.le_of_ble_eq_true rfl, Nat.le_of_ble_eq_true rfl⟩ ⟨rfl, w⟩
def rm_X7_accept : Room := { frames := 9, cells := 3, slots := 18, locals := 168 }
theorem mt_X7_accept : gMt yX7_accept cX7_accept 4 (some .int) 2 := ⟨tw1002, tw59, by decide +kernel, by decide +kernel, by decide +kernel⟩
def wp_X7_accept (a : Nat) (p0 : Int32) (p1 : Int32) (g : GH) (post : Int32 → GH → Prop) (px : String → GH → Prop) : Prop :=
∃ o2, g a = some (8, o2) ∧
wp_X7_checkedChangedCopy a p0 p1 g (fun r1 =>
∃ o5, g r1 = some (3, o5) ∧
∀ g7, g7 = hu g r1 (3, sI o5 0 1) →
∃ o9, g7 r1 = some (3, o9) ∧
post (fI o9 1) g7) (fun E => px E g)
set_option maxHeartbeats 4000000 in
set_option maxRecDepth 100000 in
theorem m_X7_accept {Y : gWx} {a : Nat}  {p0 : Int32} {p1 : Int32} {post : Int32 → GH → Prop} {px : String → GH → Prop} {g : GH}    (hl : (yl Y).stackTraces = false) (w : wp_X7_accept a p0 p1 g post px) : gMex Y yX7_accept cX7_accept 4 (some .int) rm_X7_accept [.ref a, .int p0, .int p1] g (gQi Y post) px 3 18 := by
  refine gm_ofx rfl (Nat.le_of_ble_eq_true rfl) ?_
  intro X hY hn C hno hQx
  subst hY
  have hQ := Or.inr (a := gRet X (gQi (xY X) post) 3 18) hQx
  have C : gC X cX7_accept RX7 (some .int) rm_X7_accept := C
  show gX X 0 0 0 [(0, .ref a), (1, .int p0), (2, .int p1)] [] g
  unfold wp_X7_accept at w
  obtain ⟨o2, e3, w⟩ := w
  refine r_aload_n C 0 dX7_accept_0 rfl (r_iload_n C 1 dX7_accept_1 rfl (r_iload_n C 2 dX7_accept_2 rfl (r_gxr (r_ruxV C dX7_accept_3 (m_X7_checkedChangedCopy hl w) mt_X7_checkedChangedCopy tw1003 tw1005 tw31 gcl_8.1 e3 rfl (stk := []) rfl (Nat.le_of_ble_eq_true rfl) ⟨rfl, rfl, ⟨Nat.le_of_ble_eq_true rfl, Nat.le_of_ble_eq_true rfl⟩, ⟨Nat.le_of_ble_eq_true rfl, Nat.le_of_ble_eq_true rfl⟩⟩) (fun E h4 hp => by obtain ⟨rfl, hp⟩ := hp; exact r_out C hQx (fun x hx => (hno x hx).elim) ⟨Nat.le_of_ble_eq_true rfl, Nat.le_of_ble_eq_true rfl⟩ hp) ?_)))
  intro r1 h4 hp
  obtain ⟨e9, w⟩ := hp
  rw [e9]
  obtain ⟨o5, e6, w⟩ := w
  obtain ⟨g7, e8⟩ : ∃ z, z = hu g r1 (3, sI o5 0 1) := ⟨_, rfl⟩
  have w := w g7 e8
  obtain ⟨o9, e10, w⟩ := w
  exact r_astore_n C dX7_accept_6 (nlt hn (by decide)) rfl (r_aload_n C 0 dX7_accept_7 rfl (r_iconst C (v := 1) dX7_accept_8 (by decide) (rp_X7_X2_state C dX7_accept_9 e6 rfl e8 (r_aload_n C 0 dX7_accept_12 rfl (rg_X7_X2_owner C dX7_accept_13 e10 (r_iret C hQ dX7_accept_16 rfl (vp_nar_int _) ⟨Nat.le_of_ble_eq_true rfl, Nat.le_of_ble_eq_true rfl⟩ w))))))
def rm_X7_giveBack : Room := { frames := 9, cells := 5, slots := 799, locals := 322 }
theorem mt_X7_giveBack : gMt yX7_giveBack cX7_giveBack 5 (some .int) 2 := ⟨tw1014, tw59, by decide +kernel, by decide +kernel, by decide +kernel⟩
def wp_X7_giveBack (a : Nat) (p0 : Int32) (p1 : Int32) (g : GH) (post : Int32 → GH → Prop) (px : String → GH → Prop) : Prop :=
∃ o2, g a = some (8, o2) ∧
wp_X7_checkedChangedCopy a p0 p1 g (fun r1 =>
∃ o5, g r1 = some (3, o5) ∧
∃ o7, g r1 = some (3, o7) ∧
∃ o9, g a = some (8, o9) ∧
wp_X7_payBuyer (fI o7 1) (fI o5 2) o9 (fun o11 => ∀ g12, g12 = hu g a (8, o11) →
∀ a14, g12 a14 = none → ∀ g15, g15 = hu g12 a14 (5, fo0) →
∃ o18, g15 r1 = some (3, o18) ∧
∃ o20, g15 a14 = some (5, o20) ∧
wp_X4_init ((-1)) (fI o18 3) (-(fI o5 2)) o20 (fun o22 => ∀ g23, g23 = hu g15 a14 (5, o22) →
∃ o25, g23 a = some (8, o25) ∧
wp_X7_enter a a14 g23 (fun g27 =>
∃ o29, g27 r1 = some (3, o29) ∧
∀ g31, g31 = hu g27 r1 (3, sI o29 0 3) →
∃ o33, g31 r1 = some (3, o33) ∧
∀ g35, g35 = hu g31 r1 (3, sI o33 1 ((-1))) →
post (fI o5 2) g35)))) (fun E => px E g)
set_option maxHeartbeats 4000000 in
set_option maxRecDepth 100000 in
theorem m_X7_giveBack {Y : gWx} {a : Nat}  {p0 : Int32} {p1 : Int32} {post : Int32 → GH → Prop} {px : String → GH → Prop} {g : GH}    (hl : (yl Y).stackTraces = false) (w : wp_X7_giveBack a p0 p1 g post px) : gMex Y yX7_giveBack cX7_giveBack 5 (some .int) rm_X7_giveBack [.ref a, .int p0, .int p1] g (gQi Y post) px 5 799 := by
  refine gm_ofx rfl (Nat.le_of_ble_eq_true rfl) ?_
  intro X hY hn C hno hQx
  subst hY
  have hQ := Or.inr (a := gRet X (gQi (xY X) post) 5 799) hQx
  have C : gC X cX7_giveBack RX7 (some .int) rm_X7_giveBack := C
  show gX X 0 0 0 [(0, .ref a), (1, .int p0), (2, .int p1)] [] g
  unfold wp_X7_giveBack at w
  obtain ⟨o2, e3, w⟩ := w
  refine r_aload_n C 0 dX7_giveBack_0 rfl (r_iload_n C 1 dX7_giveBack_1 rfl (r_iload_n C 2 dX7_giveBack_2 rfl (r_gxr (r_ruxV C dX7_giveBack_3 (m_X7_checkedChangedCopy hl w) mt_X7_checkedChangedCopy tw1003 tw1005 tw31 gcl_8.1 e3 rfl (stk := []) rfl (Nat.le_of_ble_eq_true rfl) ⟨rfl, rfl, ⟨Nat.le_of_ble_eq_true rfl, Nat.le_of_ble_eq_true rfl⟩, ⟨Nat.le_of_ble_eq_true rfl, Nat.le_of_ble_eq_true rfl⟩⟩) (fun E h4 hp => by obtain ⟨rfl, hp⟩ := hp; exact r_out C hQx (fun x hx => (hno x hx).elim) ⟨Nat.le_of_ble_eq_true rfl, Nat.le_of_ble_eq_true rfl⟩ hp) ?_)))
  intro r1 h4 hp
  obtain ⟨e9, w⟩ := hp
  rw [e9]
  obtain ⟨o5, e6, w⟩ := w
  obtain ⟨o7, e8, w⟩ := w
  obtain ⟨o9, e10, w⟩ := w
  refine r_astore_n C dX7_giveBack_6 (nlt hn (by decide)) rfl (r_aload_n C 0 dX7_giveBack_7 rfl (rg_X7_X2_cost C dX7_giveBack_8 e6 (r_istore C dX7_giveBack_11 (nlt hn (by decide)) rfl (r_aload_n C 2 dX7_giveBack_13 rfl (r_aload_n C 1 dX7_giveBack_14 rfl (rg_X7_X2_owner C dX7_giveBack_15 e8 (r_iload C 0 dX7_giveBack_18 rfl (r_gov (r_runV C dX7_giveBack_20 (m_X7_payBuyer e10 w) mt_X7_payBuyer tw978 tw980 tw30 gcl_8.1 e10 rfl (stk := []) rfl (Nat.le_of_ble_eq_true rfl) ⟨rfl, rfl, ⟨Nat.le_of_ble_eq_true rfl, Nat.le_of_ble_eq_true rfl⟩, ⟨Nat.le_of_ble_eq_true rfl, Nat.le_of_ble_eq_true rfl⟩⟩) ?_))))))))
  intro  h13 hp
  obtain ⟨o11, e9, w⟩ := hp
  obtain ⟨g12, rfl⟩ : ∃ z, z = h13 := ⟨_, rfl⟩
  have w := w _ e9
  refine r_aload_n C 2 dX7_giveBack_23 rfl (r_new C gcl_5 dX7_giveBack_24 ⟨tw934, tw935, tw84⟩ hsm_5 ⟨Nat.le_of_ble_eq_true rfl, Nat.le_of_ble_eq_true rfl⟩ (fun a14 n17 _ => ?_))
  obtain ⟨g15, e16⟩ : ∃ z, z = hu g12 a14 (5, fo0) := ⟨_, rfl⟩
  have w := w a14 n17 g15 e16
  refine gX_eq e16.symm ?_
  obtain ⟨o18, e19, w⟩ := w
  obtain ⟨o20, e21, w⟩ := w
  refine r_dup C dX7_giveBack_27 rfl (r_iconst C (v := (-1)) dX7_giveBack_28 (by decide) (r_aload_n C 1 dX7_giveBack_29 rfl (rg_X7_X2_answerer C dX7_giveBack_30 e19 (r_iload C 0 dX7_giveBack_33 rfl (r_ineg C dX7_giveBack_35 (r_gov (r_runI C dX7_giveBack_36 (m_X4_init e21 w) mt_X4_init tw936 tw937 rfl rfl (stk := [.ref a14, .ref a]) rfl (Nat.le_of_ble_eq_true rfl) ⟨rfl, rfl, ⟨Nat.le_of_ble_eq_true rfl, Nat.le_of_ble_eq_true rfl⟩, ⟨Nat.le_of_ble_eq_true rfl, Nat.le_of_ble_eq_true rfl⟩⟩) ?_))))))
  intro  h24 hp
  obtain ⟨o22, e9, w⟩ := hp
  obtain ⟨g23, rfl⟩ : ∃ z, z = h24 := ⟨_, rfl⟩
  have w := w _ e9
  obtain ⟨o25, e26, w⟩ := w
  refine r_gov (r_runV C dX7_giveBack_39 (m_X7_enter w) mt_X7_enter tw953 tw955 tw27 gcl_8.1 e26 rfl (stk := []) rfl (Nat.le_of_ble_eq_true rfl) ⟨rfl, rfl, ⟨Nat.le_of_ble_eq_true rfl, Nat.le_of_ble_eq_true rfl⟩, ⟨Nat.le_of_ble_eq_true rfl, Nat.le_of_ble_eq_true rfl⟩⟩) ?_
  intro  h28 hp
  obtain ⟨g27, rfl⟩ : ∃ z, z = h28 := ⟨_, rfl⟩
  have w := hp
  obtain ⟨o29, e30, w⟩ := w
  obtain ⟨g31, e32⟩ : ∃ z, z = hu g27 r1 (3, sI o29 0 3) := ⟨_, rfl⟩
  have w := w g31 e32
  obtain ⟨o33, e34, w⟩ := w
  obtain ⟨g35, e36⟩ : ∃ z, z = hu g31 r1 (3, sI o33 1 ((-1))) := ⟨_, rfl⟩
  have w := w g35 e36
  exact r_aload_n C 1 dX7_giveBack_42 rfl (r_iconst C (v := 3) dX7_giveBack_43 (by decide) (rp_X7_X2_state C dX7_giveBack_44 e30 rfl e32 (r_aload_n C 1 dX7_giveBack_47 rfl (r_iconst C (v := (-1)) dX7_giveBack_48 (by decide) (rp_X7_X2_owner C dX7_giveBack_49 e34 rfl e36 (r_iload C 0 dX7_giveBack_52 rfl (r_iret C hQ dX7_giveBack_54 rfl (vp_nar_int _) ⟨Nat.le_of_ble_eq_true rfl, Nat.le_of_ble_eq_true rfl⟩ w)))))))
def rm_X7_copyState : Room := { frames := 8, cells := 2, slots := 12, locals := 145 }
theorem mt_X7_copyState : gMt yX7_copyState cX7_copyState 3 (some .int) 2 := ⟨tw1021, tw59, by decide +kernel, by decide +kernel, by decide +kernel⟩
def wp_X7_copyState (a : Nat) (p0 : Int32) (p1 : Int32) (g : GH)  (post : Int32 → Prop) (px : String → Prop) : Prop :=
∃ o2, g a = some (8, o2) ∧
wp_X7_checkedCopy a p0 p1 g (fun r1 =>
∃ o5, g r1 = some (3, o5) ∧
post (fI o5 0)) px
set_option maxHeartbeats 4000000 in
set_option maxRecDepth 100000 in
theorem m_X7_copyState {Y : gWx} {a : Nat}  {p0 : Int32} {p1 : Int32} {post : Int32 → Prop} {px : String → Prop} {g : GH}    (hl : (yl Y).stackTraces = false) (w : wp_X7_copyState a p0 p1 g post px) : gMex Y yX7_copyState cX7_copyState 3 (some .int) rm_X7_copyState [.ref a, .int p0, .int p1] g (gQi Y (fun r9 g9 => g9 = g ∧ post r9)) (fun E9 g9 => g9 = g ∧ px E9) 2 12 := by
  refine gm_ofx rfl (Nat.le_of_ble_eq_true rfl) ?_
  intro X hY hn C hno hQx
  subst hY
  have hQ := Or.inr (a := gRet X (gQi (xY X) (fun r9 g9 => g9 = g ∧ post r9)) 2 12) hQx
  have C : gC X cX7_copyState RX7 (some .int) rm_X7_copyState := C
  show gX X 0 0 0 [(0, .ref a), (1, .int p0), (2, .int p1)] [] g
  unfold wp_X7_copyState at w
  obtain ⟨o2, e3, w⟩ := w
  refine r_aload_n C 0 dX7_copyState_0 rfl (r_iload_n C 1 dX7_copyState_1 rfl (r_iload_n C 2 dX7_copyState_2 rfl (r_gxr (r_ruxV C dX7_copyState_3 (m_X7_checkedCopy hl w) mt_X7_checkedCopy tw972 tw974 tw29 gcl_8.1 e3 rfl (stk := []) rfl (Nat.le_of_ble_eq_true rfl) ⟨rfl, rfl, ⟨Nat.le_of_ble_eq_true rfl, Nat.le_of_ble_eq_true rfl⟩, ⟨Nat.le_of_ble_eq_true rfl, Nat.le_of_ble_eq_true rfl⟩⟩) (fun E h4 hp => by obtain ⟨rfl, hp⟩ := hp; exact r_out C hQx (fun x hx => (hno x hx).elim) ⟨Nat.le_of_ble_eq_true rfl, Nat.le_of_ble_eq_true rfl⟩ ⟨rfl, hp⟩) ?_)))
  intro r1 h4 hp
  obtain ⟨e9, w⟩ := hp
  rw [e9]
  obtain ⟨o5, e6, w⟩ := w
  exact rg_X7_X2_state C dX7_copyState_6 e6 (r_iret C hQ dX7_copyState_9 rfl (vp_nar_int _) ⟨Nat.le_of_ble_eq_true rfl, Nat.le_of_ble_eq_true rfl⟩ ⟨rfl, w⟩)
def rm_X7_owner : Room := { frames := 8, cells := 2, slots := 12, locals := 145 }
theorem mt_X7_owner : gMt yX7_owner cX7_owner 3 (some .int) 2 := ⟨tw1028, tw59, by decide +kernel, by decide +kernel, by decide +kernel⟩
def wp_X7_owner (a : Nat) (p0 : Int32) (p1 : Int32) (g : GH)  (post : Int32 → Prop) (px : String → Prop) : Prop :=
∃ o2, g a = some (8, o2) ∧
wp_X7_checkedCopy a p0 p1 g (fun r1 =>
∃ o5, g r1 = some (3, o5) ∧
post (fI o5 1)) px
set_option maxHeartbeats 4000000 in
set_option maxRecDepth 100000 in
theorem m_X7_owner {Y : gWx} {a : Nat}  {p0 : Int32} {p1 : Int32} {post : Int32 → Prop} {px : String → Prop} {g : GH}    (hl : (yl Y).stackTraces = false) (w : wp_X7_owner a p0 p1 g post px) : gMex Y yX7_owner cX7_owner 3 (some .int) rm_X7_owner [.ref a, .int p0, .int p1] g (gQi Y (fun r9 g9 => g9 = g ∧ post r9)) (fun E9 g9 => g9 = g ∧ px E9) 2 12 := by
  refine gm_ofx rfl (Nat.le_of_ble_eq_true rfl) ?_
  intro X hY hn C hno hQx
  subst hY
  have hQ := Or.inr (a := gRet X (gQi (xY X) (fun r9 g9 => g9 = g ∧ post r9)) 2 12) hQx
  have C : gC X cX7_owner RX7 (some .int) rm_X7_owner := C
  show gX X 0 0 0 [(0, .ref a), (1, .int p0), (2, .int p1)] [] g
  unfold wp_X7_owner at w
  obtain ⟨o2, e3, w⟩ := w
  refine r_aload_n C 0 dX7_owner_0 rfl (r_iload_n C 1 dX7_owner_1 rfl (r_iload_n C 2 dX7_owner_2 rfl (r_gxr (r_ruxV C dX7_owner_3 (m_X7_checkedCopy hl w) mt_X7_checkedCopy tw972 tw974 tw29 gcl_8.1 e3 rfl (stk := []) rfl (Nat.le_of_ble_eq_true rfl) ⟨rfl, rfl, ⟨Nat.le_of_ble_eq_true rfl, Nat.le_of_ble_eq_true rfl⟩, ⟨Nat.le_of_ble_eq_true rfl, Nat.le_of_ble_eq_true rfl⟩⟩) (fun E h4 hp => by obtain ⟨rfl, hp⟩ := hp; exact r_out C hQx (fun x hx => (hno x hx).elim) ⟨Nat.le_of_ble_eq_true rfl, Nat.le_of_ble_eq_true rfl⟩ ⟨rfl, hp⟩) ?_)))
  intro r1 h4 hp
  obtain ⟨e9, w⟩ := hp
  rw [e9]
  obtain ⟨o5, e6, w⟩ := w
  exact rg_X7_X2_owner C dX7_owner_6 e6 (r_iret C hQ dX7_owner_9 rfl (vp_nar_int _) ⟨Nat.le_of_ble_eq_true rfl, Nat.le_of_ble_eq_true rfl⟩ ⟨rfl, w⟩)
def rm_X7_money : Room := { frames := 7, cells := 1, slots := 6, locals := 110 }
theorem mt_X7_money : gMt yX7_money cX7_money 2 (some .int) 1 := ⟨tw1035, tw59, by decide +kernel, by decide +kernel, by decide +kernel⟩
def wp_X7_money (p0 : Int32) (o : FO)  (post : Int32 → Prop) (px : String → Prop) : Prop :=
wp_X7_checkHand p0 (
vp_in p0 6 ∧
post (fA o 7 p0.toNatClampNeg)) px
set_option maxHeartbeats 4000000 in
set_option maxRecDepth 100000 in
theorem m_X7_money {Y : gWx} {a : Nat}  {p0 : Int32} {post : Int32 → Prop} {px : String → Prop} {g : GH} {o : FO} (hg : g a = some (8, o))   (hl : (yl Y).stackTraces = false) (w : wp_X7_money p0 o post px) : gMex Y yX7_money cX7_money 2 (some .int) rm_X7_money [.ref a, .int p0] g (gQi Y (fun r9 g9 => g9 = g ∧ post r9)) (fun E9 g9 => g9 = g ∧ px E9) 1 6 := by
  refine gm_ofx rfl (Nat.le_of_ble_eq_true rfl) ?_
  intro X hY hn C hno hQx
  subst hY
  have hQ := Or.inr (a := gRet X (gQi (xY X) (fun r9 g9 => g9 = g ∧ post r9)) 1 6) hQx
  have C : gC X cX7_money RX7 (some .int) rm_X7_money := C
  show gX X 0 0 0 [(0, .ref a), (1, .int p0)] [] g
  unfold wp_X7_money at w
  refine r_iload_n C 1 dX7_money_0 rfl (r_gxv (r_ruxS C dX7_money_1 (m_X7_checkHand hl w) mt_X7_checkHand tw227 tw228 rfl (stk := []) rfl (Nat.le_of_ble_eq_true rfl) ⟨rfl, rfl, ⟨Nat.le_of_ble_eq_true rfl, Nat.le_of_ble_eq_true rfl⟩, ⟨Nat.le_of_ble_eq_true rfl, Nat.le_of_ble_eq_true rfl⟩⟩) (fun E h1 hp => by obtain ⟨rfl, hp⟩ := hp; exact r_out C hQx (fun x hx => (hno x hx).elim) ⟨Nat.le_of_ble_eq_true rfl, Nat.le_of_ble_eq_true rfl⟩ ⟨rfl, hp⟩) ?_)
  intro  h1 hp
  obtain ⟨rfl, w⟩ := hp
  obtain ⟨i2, w⟩ := w
  exact r_aload_n C 0 dX7_money_4 rfl (rg_X7_X7_handMoney C dX7_money_5 hg (r_iload_n C 1 dX7_money_8 rfl (r_iald (ci := 8) (k := 7) C dX7_money_9 rfl rfl hg i2 (r_iret C hQ dX7_money_10 rfl (vp_nar_int _) ⟨Nat.le_of_ble_eq_true rfl, Nat.le_of_ble_eq_true rfl⟩ ⟨rfl, w⟩))))
def rm_J7_fill_53178 : Room := { frames := 0, cells := 0, slots := 0, locals := 0 }
theorem mt_J7_fill_53178 : gMt yJ7_fill_53178 cJ7_fill_53178 4 none 2 := ⟨tw1045, tw74, by decide +kernel, by decide +kernel, by decide +kernel⟩
def wp_J7_fill_53178_5 (p0 : Nat) (k0 : Nat) (f0 : Nat) (p1 : Int32) (post : GH → Prop) : Nat → Int32 → Int32 → GH → Prop
  | 0, _, _, _ => False
  | n + 1, x2, x3, g =>
    ((x3 ≤ x2 → post g) ∧ (¬ x3 ≤ x2 → ∃ o4, g p0 = some (8, o4) ∧
    vp_in x2 6 ∧
    ∀ g7, g7 = hu g p0 (8, sA o4 k0 x2.toNatClampNeg p1) →
    wp_J7_fill_53178_5 p0 k0 f0 p1 post n (x2 + 1) x3 g7))
def wp_J7_fill_53178 (p0 : Nat) (k0 : Nat) (f0 : Nat) (p1 : Int32) (g : GH) (post : GH → Prop) : Prop :=
∃ o1, g p0 = some (8, o1) ∧
wp_J7_fill_53178_5 p0 k0 f0 p1 post 1000 0 6 g
set_option maxHeartbeats 4000000 in
set_option maxRecDepth 100000 in
theorem t_J7_fill_53178_5 {X : gCx}  {p0 : Nat} {k0 : Nat} {f0 : Nat} {p1 : Int32} {post : GH → Prop}    (C : gC X cJ7_fill_53178 RJ7 none rm_J7_fill_53178) (hn : xn X = 4) (hQ : gRet X (gQv (xY X) post) 0 0 ∨ gRex X (gQv (xY X) post) (fun _ _ => False) 0 0)  (hk_p0 : (g_tab 8)[k0]? = some (3, 6, f0))  : ∀ (n : Nat) (x2 : Int32) (x3 : Int32) (g : GH), wp_J7_fill_53178_5 p0 k0 f0 p1 post n x2 x3 g → gX X 0 0 5 [(0, .ref (p0 + f0)), (1, .int p1), (2, .int x2), (3, .int x3)] [] g := by
  intro n
  induction n with
  | zero => intro x2 x3 g w; exact w.elim
  | succ n ih =>
    intro x2 x3 g w
    unfold wp_J7_fill_53178_5 at w
    refine r_iload_n C 2 dJ7_fill_53178_5 rfl (r_iload_n C 3 dJ7_fill_53178_6 rfl (r_icmp_ge C 20 dJ7_fill_53178_7 (by decide) (fun c3 => ?_) (fun c3 => ?_)))
    · have w := w.1 c3
      exact r_vret C hQ dJ7_fill_53178_20 rfl ⟨Nat.le_of_ble_eq_true rfl, Nat.le_of_ble_eq_true rfl⟩ w
    · have w := w.2 c3
      obtain ⟨o4, e5, w⟩ := w
      obtain ⟨i6, w⟩ := w
      obtain ⟨g7, e8⟩ : ∃ z, z = hu g p0 (8, sA o4 k0 x2.toNatClampNeg p1) := ⟨_, rfl⟩
      have w := w g7 e8
      exact r_aload_n C 0 dJ7_fill_53178_10 rfl (r_iload_n C 2 dJ7_fill_53178_11 rfl (r_iload_n C 1 dJ7_fill_53178_12 rfl (r_iast (ci := 8) (k := k0) C dJ7_fill_53178_13 rfl hk_p0 e5 i6 rfl e8 (r_iinc C (v := x2 + 1) 2 dJ7_fill_53178_14 rfl rfl (nlt hn (by decide)) rfl (r_goto C 5 dJ7_fill_53178_17 (by decide) (r_sub [1, 2, 0, 3] rfl (ih _ _ _ w)))))))
set_option maxHeartbeats 4000000 in
set_option maxRecDepth 100000 in
theorem m_J7_fill_53178 {Y : gWx}  {p0 : Nat} {k0 : Nat} {f0 : Nat} {p1 : Int32} {post : GH → Prop} {g : GH}   (hk_p0 : (g_tab 8)[k0]? = some (3, 6, f0))  (w : wp_J7_fill_53178 p0 k0 f0 p1 g post) : gMet Y yJ7_fill_53178 cJ7_fill_53178 4 none rm_J7_fill_53178 [.ref (p0 + f0), .int p1] g (gQv Y post) 0 0 := by
  refine gm_of rfl (Nat.le_of_ble_eq_true rfl) ?_
  intro X hY hn C hnm hQ
  subst hY
  have hQ : gRet X (gQv (xY X) post) 0 0 ∨ gRex X (gQv (xY X) post) (fun _ _ => False) 0 0 := Or.inl hQ
  have C : gC X cJ7_fill_53178 RJ7 none rm_J7_fill_53178 := C
  show gX X 0 0 0 [(0, .ref (p0 + f0)), (1, .int p1)] [] g
  unfold wp_J7_fill_53178 at w
  obtain ⟨o1, e2, w⟩ := w
  exact r_iconst C (v := 0) dJ7_fill_53178_0 (by decide) (r_istore_n C dJ7_fill_53178_1 (nlt hn (by decide)) rfl (r_aload_n C 1 dJ7_fill_53178_2 rfl (r_alen (ci := 8) (k := k0) (v := 6) C dJ7_fill_53178_3 rfl hk_p0 e2 rfl (r_istore_n C dJ7_fill_53178_4 (nlt hn (by decide)) rfl (r_sub [2, 3, 1, 0] rfl (t_J7_fill_53178_5 C hn hQ hk_p0 1000 _ _ _ w))))))
def rm_X7_moneyAnew : Room := { frames := 7, cells := 1, slots := 6, locals := 123 }
theorem mt_X7_moneyAnew : gMt yX7_moneyAnew cX7_moneyAnew 3 (some .int) 1 := ⟨tw1042, tw59, by decide +kernel, by decide +kernel, by decide +kernel⟩
def wp_X7_moneyAnew_14 (a : Nat) (p0 : Int32) (post : Int32 → GH → Prop) (px : String → GH → Prop) : Nat → Int32 → GH → Prop
  | 0, _, _ => False
  | n + 1, x2, g =>
    ∃ o6, g a = some (8, o6) ∧
    ∃ o8, g (fR o6 3) = some (0, o8) ∧
    (((fI o8 2) ≤ x2 → ∃ o13, g a = some (8, o13) ∧
    ∃ o15, g a = some (8, o15) ∧
    vp_in p0 6 ∧
    post (fA o15 8 p0.toNatClampNeg) g) ∧ (¬ (fI o8 2) ≤ x2 → ∃ o18, g a = some (8, o18) ∧
    ∃ o20, g (fR o18 3) = some (0, o20) ∧
    vp_in x2 (fI o20 2).toNatClampNeg ∧
    ∃ o25, g (fR o20 x2.toNatClampNeg) = some (5, o25) ∧
    ∃ o27, g a = some (8, o27) ∧
    ∃ o29, g a = some (8, o29) ∧
    wp_X7_payHands a (fR o20 x2.toNatClampNeg) a 8 22 g (fun g31 =>
    wp_X7_moneyAnew_14 a p0 post px n (x2 + 1) g31)))
def wp_X7_moneyAnew (a : Nat) (p0 : Int32) (g : GH) (post : Int32 → GH → Prop) (px : String → GH → Prop) : Prop :=
wp_X7_checkHand p0 (
∃ o2, g a = some (8, o2) ∧
wp_J7_fill_53178 a 8 22 0 g (fun g4 =>
wp_X7_moneyAnew_14 a p0 post px 1000 0 g4)) (fun E => px E g)
set_option maxHeartbeats 4000000 in
set_option maxRecDepth 100000 in
theorem t_X7_moneyAnew_14 {X : gCx} {a : Nat}  {p0 : Int32} {post : Int32 → GH → Prop} {px : String → GH → Prop}    (C : gC X cX7_moneyAnew RX7 (some .int) rm_X7_moneyAnew) (hn : xn X = 3) (hQ : gRet X (gQi (xY X) post) 1 6 ∨ gRex X (gQi (xY X) post) px 1 6) (hQx : gRex X (gQi (xY X) post) px 1 6) (hl : (yl (xY X)).stackTraces = false) (hno : ∀ x ∈ (xc X).exceptionTable.toList, False)    : ∀ (n : Nat) (x2 : Int32) (g : GH), wp_X7_moneyAnew_14 a p0 post px n x2 g → gX X 1 6 14 [(0, .ref a), (1, .int p0), (2, .int x2)] [] g := by
  intro n
  induction n with
  | zero => intro x2 g w; exact w.elim
  | succ n ih =>
    intro x2 g w
    unfold wp_X7_moneyAnew_14 at w
    obtain ⟨o6, e7, w⟩ := w
    obtain ⟨o8, e9, w⟩ := w
    refine r_iload_n C 2 dX7_moneyAnew_14 rfl (r_aload_n C 0 dX7_moneyAnew_15 rfl (rg_X7_X7_payments C dX7_moneyAnew_16 e7 (r_goi (r_runV C dX7_moneyAnew_19 (m_lsize e9) mt_Jx4a65c_size_8abf5 tw201 tw202 tw203 (ci := 0) rfl e9 rfl (stk := [.int x2]) rfl (Nat.le_of_ble_eq_true rfl) ⟨rfl, rfl, ⟨Nat.le_of_ble_eq_true rfl, Nat.le_of_ble_eq_true rfl⟩, ⟨Nat.le_of_ble_eq_true rfl, Nat.le_of_ble_eq_true rfl⟩⟩) ?_)))
    intro r11 h10 hp
    obtain ⟨e9, e8⟩ := hp
    rw [e9, e8]
    refine r_icmp_ge C 50 dX7_moneyAnew_22 (by decide) (fun c12 => ?_) (fun c12 => ?_)
    · have w := w.1 c12
      obtain ⟨o13, e14, w⟩ := w
      obtain ⟨o15, e16, w⟩ := w
      obtain ⟨i17, w⟩ := w
      exact r_aload_n C 0 dX7_moneyAnew_50 rfl (rg_X7_X7_spareMoney C dX7_moneyAnew_51 e14 (r_iload_n C 1 dX7_moneyAnew_54 rfl (r_iald (ci := 8) (k := 8) C dX7_moneyAnew_55 rfl rfl e16 i17 (r_iret C hQ dX7_moneyAnew_56 rfl (vp_nar_int _) ⟨Nat.le_of_ble_eq_true rfl, Nat.le_of_ble_eq_true rfl⟩ w))))
    · have w := w.2 c12
      obtain ⟨o18, e19, w⟩ := w
      obtain ⟨o20, e21, w⟩ := w
      obtain ⟨i23, w⟩ := w
      refine r_aload_n C 0 dX7_moneyAnew_25 rfl (r_aload_n C 0 dX7_moneyAnew_26 rfl (rg_X7_X7_payments C dX7_moneyAnew_27 e19 (r_iload_n C 2 dX7_moneyAnew_30 rfl (r_gor (r_runV C dX7_moneyAnew_31 (m_lget e21 i23) mt_Jx4a65c_get_915e3 tw467 tw468 tw469 (ci := 0) rfl e21 rfl (stk := [.ref a]) rfl (Nat.le_of_ble_eq_true rfl) ⟨rfl, rfl, ⟨Nat.le_of_ble_eq_true rfl, Nat.le_of_ble_eq_true rfl⟩, ⟨Nat.le_of_ble_eq_true rfl, Nat.le_of_ble_eq_true rfl⟩⟩) ?_))))
      intro r24 h22 hp
      obtain ⟨e9, e8⟩ := hp
      rw [e9, e8]
      obtain ⟨o25, e26, w⟩ := w
      obtain ⟨o27, e28, w⟩ := w
      obtain ⟨o29, e30, w⟩ := w
      refine r_cast C gcl_5 dX7_moneyAnew_34 tw934 e26 (r_aload_n C 0 dX7_moneyAnew_37 rfl (rg_X7_X7_spareMoney C dX7_moneyAnew_38 e28 (r_gov (r_runV C dX7_moneyAnew_41 (m_X7_payHands rfl w) mt_X7_payHands tw957 tw959 tw28 gcl_8.1 e30 rfl (stk := []) rfl (Nat.le_of_ble_eq_true rfl) ⟨rfl, rfl, ⟨Nat.le_of_ble_eq_true rfl, Nat.le_of_ble_eq_true rfl⟩, ⟨Nat.le_of_ble_eq_true rfl, Nat.le_of_ble_eq_true rfl⟩⟩) ?_)))
      intro  h32 hp
      obtain ⟨g31, rfl⟩ : ∃ z, z = h32 := ⟨_, rfl⟩
      have w := hp
      exact r_iinc C (v := x2 + 1) 2 dX7_moneyAnew_44 rfl rfl (nlt hn (by decide)) rfl (r_goto C 14 dX7_moneyAnew_47 (by decide) (r_widen (Nat.le_of_ble_eq_true rfl) (Nat.le_of_ble_eq_true rfl) <| r_sub [1, 2, 0] rfl (ih _ _ w)))
set_option maxHeartbeats 4000000 in
set_option maxRecDepth 100000 in
theorem m_X7_moneyAnew {Y : gWx} {a : Nat}  {p0 : Int32} {post : Int32 → GH → Prop} {px : String → GH → Prop} {g : GH}    (hl : (yl Y).stackTraces = false) (w : wp_X7_moneyAnew a p0 g post px) : gMex Y yX7_moneyAnew cX7_moneyAnew 3 (some .int) rm_X7_moneyAnew [.ref a, .int p0] g (gQi Y post) px 1 6 := by
  refine gm_ofx rfl (Nat.le_of_ble_eq_true rfl) ?_
  intro X hY hn C hno hQx
  subst hY
  have hQ := Or.inr (a := gRet X (gQi (xY X) post) 1 6) hQx
  have C : gC X cX7_moneyAnew RX7 (some .int) rm_X7_moneyAnew := C
  show gX X 0 0 0 [(0, .ref a), (1, .int p0)] [] g
  unfold wp_X7_moneyAnew at w
  refine r_iload_n C 1 dX7_moneyAnew_0 rfl (r_gxv (r_ruxS C dX7_moneyAnew_1 (m_X7_checkHand hl w) mt_X7_checkHand tw227 tw228 rfl (stk := []) rfl (Nat.le_of_ble_eq_true rfl) ⟨rfl, rfl, ⟨Nat.le_of_ble_eq_true rfl, Nat.le_of_ble_eq_true rfl⟩, ⟨Nat.le_of_ble_eq_true rfl, Nat.le_of_ble_eq_true rfl⟩⟩) (fun E h1 hp => by obtain ⟨rfl, hp⟩ := hp; exact r_out C hQx (fun x hx => (hno x hx).elim) ⟨Nat.le_of_ble_eq_true rfl, Nat.le_of_ble_eq_true rfl⟩ hp) ?_)
  intro  h1 hp
  obtain ⟨e9, w⟩ := hp
  rw [e9]
  obtain ⟨o2, e3, w⟩ := w
  refine r_aload_n C 0 dX7_moneyAnew_4 rfl (rg_X7_X7_spareMoney C dX7_moneyAnew_5 e3 (r_iconst C (v := 0) dX7_moneyAnew_8 (by decide) (r_gov (r_runS C dX7_moneyAnew_9 (m_J7_fill_53178 rfl w) mt_J7_fill_53178 tw1043 tw1044 rfl (stk := []) rfl (Nat.le_of_ble_eq_true rfl) ⟨rfl, rfl, ⟨Nat.le_of_ble_eq_true rfl, Nat.le_of_ble_eq_true rfl⟩, ⟨Nat.le_of_ble_eq_true rfl, Nat.le_of_ble_eq_true rfl⟩⟩) ?_)))
  intro  h5 hp
  obtain ⟨g4, rfl⟩ : ∃ z, z = h5 := ⟨_, rfl⟩
  have w := hp
  exact r_iconst C (v := 0) dX7_moneyAnew_12 (by decide) (r_istore_n C dX7_moneyAnew_13 (nlt hn (by decide)) rfl (r_widen (Nat.le_of_ble_eq_true rfl) (Nat.le_of_ble_eq_true rfl) <| r_sub [1, 2, 0] rfl (t_X7_moneyAnew_14 C hn hQ hQx hl hno 1000 _ _ w)))
def rm_X7_purse : Room := { frames := 7, cells := 1, slots := 6, locals := 110 }
theorem mt_X7_purse : gMt yX7_purse cX7_purse 2 (some .int) 1 := ⟨tw1052, tw59, by decide +kernel, by decide +kernel, by decide +kernel⟩
def wp_X7_purse (p0 : Int32) (o : FO)  (post : Int32 → Prop) (px : String → Prop) : Prop :=
wp_X7_checkBuyer p0 (
vp_in p0 8 ∧
post (fA o 9 p0.toNatClampNeg)) px
set_option maxHeartbeats 4000000 in
set_option maxRecDepth 100000 in
theorem m_X7_purse {Y : gWx} {a : Nat}  {p0 : Int32} {post : Int32 → Prop} {px : String → Prop} {g : GH} {o : FO} (hg : g a = some (8, o))   (hl : (yl Y).stackTraces = false) (w : wp_X7_purse p0 o post px) : gMex Y yX7_purse cX7_purse 2 (some .int) rm_X7_purse [.ref a, .int p0] g (gQi Y (fun r9 g9 => g9 = g ∧ post r9)) (fun E9 g9 => g9 = g ∧ px E9) 1 6 := by
  refine gm_ofx rfl (Nat.le_of_ble_eq_true rfl) ?_
  intro X hY hn C hno hQx
  subst hY
  have hQ := Or.inr (a := gRet X (gQi (xY X) (fun r9 g9 => g9 = g ∧ post r9)) 1 6) hQx
  have C : gC X cX7_purse RX7 (some .int) rm_X7_purse := C
  show gX X 0 0 0 [(0, .ref a), (1, .int p0)] [] g
  unfold wp_X7_purse at w
  refine r_iload_n C 1 dX7_purse_0 rfl (r_gxv (r_ruxS C dX7_purse_1 (m_X7_checkBuyer hl w) mt_X7_checkBuyer tw924 tw925 rfl (stk := []) rfl (Nat.le_of_ble_eq_true rfl) ⟨rfl, rfl, ⟨Nat.le_of_ble_eq_true rfl, Nat.le_of_ble_eq_true rfl⟩, ⟨Nat.le_of_ble_eq_true rfl, Nat.le_of_ble_eq_true rfl⟩⟩) (fun E h1 hp => by obtain ⟨rfl, hp⟩ := hp; exact r_out C hQx (fun x hx => (hno x hx).elim) ⟨Nat.le_of_ble_eq_true rfl, Nat.le_of_ble_eq_true rfl⟩ ⟨rfl, hp⟩) ?_)
  intro  h1 hp
  obtain ⟨rfl, w⟩ := hp
  obtain ⟨i2, w⟩ := w
  exact r_aload_n C 0 dX7_purse_4 rfl (rg_X7_X7_buyerMoney C dX7_purse_5 hg (r_iload_n C 1 dX7_purse_8 rfl (r_iald (ci := 8) (k := 9) C dX7_purse_9 rfl rfl hg i2 (r_iret C hQ dX7_purse_10 rfl (vp_nar_int _) ⟨Nat.le_of_ble_eq_true rfl, Nat.le_of_ble_eq_true rfl⟩ ⟨rfl, w⟩))))
def rm_X7_house : Room := { frames := 0, cells := 0, slots := 0, locals := 0 }
theorem mt_X7_house : gMt yX7_house cX7_house 1 (some .int) 0 := ⟨tw216, tw59, by decide +kernel, by decide +kernel, by decide +kernel⟩
def wp_X7_house (o : FO)  (post : Int32 → Prop) : Prop :=
post (fI o 10)
set_option maxHeartbeats 4000000 in
set_option maxRecDepth 100000 in
theorem m_X7_house {Y : gWx} {a : Nat}   {post : Int32 → Prop} {g : GH} {o : FO} (hg : g a = some (8, o))    (w : wp_X7_house o post) : gMet Y yX7_house cX7_house 1 (some .int) rm_X7_house [.ref a] g (gQi Y (fun r9 g9 => g9 = g ∧ post r9)) 0 0 := by
  refine gm_of rfl (Nat.le_of_ble_eq_true rfl) ?_
  intro X hY hn C hnm hQ
  subst hY
  have hQ : gRet X (gQi (xY X) (fun r9 g9 => g9 = g ∧ post r9)) 0 0 ∨ gRex X (gQi (xY X) (fun r9 g9 => g9 = g ∧ post r9)) (fun _ _ => False) 0 0 := Or.inl hQ
  have C : gC X cX7_house RX7 (some .int) rm_X7_house := C
  show gX X 0 0 0 [(0, .ref a)] [] g
  unfold wp_X7_house at w
  exact r_aload_n C 0 dX7_house_0 rfl (rg_X7_X7_houseMoney C dX7_house_1 hg (r_iret C hQ dX7_house_4 rfl (vp_nar_int _) ⟨Nat.le_of_ble_eq_true rfl, Nat.le_of_ble_eq_true rfl⟩ ⟨rfl, w⟩))
def rm_X3_addArea : Room := { frames := 0, cells := 0, slots := 0, locals := 0 }
theorem mt_X3_addArea : gMt yX3_addArea cX3_addArea 3 none 2 := ⟨tw868, tw82, by decide +kernel, by decide +kernel, by decide +kernel⟩
def wp_X3_addArea (p0 : Int32) (p1 : Int32) (o : FO) (post : FO → Prop) : Prop :=
((p0 < 0 → post o) ∧ (¬ p0 < 0 → ((6 ≤ p0 → post o) ∧ (¬ 6 ≤ p0 → vp_in p0 6 ∧
vp_in p0 6 ∧
∀ o5, o5 = sA o 4 p0.toNatClampNeg ((fA o 4 p0.toNatClampNeg) + p1) →
∀ o7, o7 = sI o5 5 ((fI o5 5) + p1) →
post o7))))
set_option maxHeartbeats 4000000 in
set_option maxRecDepth 100000 in
theorem m_X3_addArea {Y : gWx} {a : Nat}  {p0 : Int32} {p1 : Int32} {post : FO → Prop} {g : GH}  {o : FO} (hg : g a = some (4, o))    (w : wp_X3_addArea p0 p1 o post) : gMet Y yX3_addArea cX3_addArea 3 none rm_X3_addArea [.ref a, .int p0, .int p1] g (gQv Y (fun  g9 => ∃ o9, g9 = hu g a (4, o9) ∧ post  o9)) 0 0 := by
  refine gm_of rfl (Nat.le_of_ble_eq_true rfl) ?_
  intro X hY hn C hnm hQ
  subst hY
  have hQ : gRet X (gQv (xY X) (fun  g9 => ∃ o9, g9 = hu g a (4, o9) ∧ post  o9)) 0 0 ∨ gRex X (gQv (xY X) (fun  g9 => ∃ o9, g9 = hu g a (4, o9) ∧ post  o9)) (fun _ _ => False) 0 0 := Or.inl hQ
  have C : gC X cX3_addArea RX3 none rm_X3_addArea := C
  refine gX_eq (hu_id hg).symm ?_
  show gX X 0 0 0 [(0, .ref a), (1, .int p0), (2, .int p1)] [] (hu g a (4, o))
  unfold wp_X3_addArea at w
  refine r_iload_n C 1 dX3_addArea_0 rfl (r_if_lt C 30 dX3_addArea_1 (by decide) (fun c1 => ?_) (fun c1 => ?_))
  · have w := w.1 c1
    exact r_vret C hQ dX3_addArea_30 rfl ⟨Nat.le_of_ble_eq_true rfl, Nat.le_of_ble_eq_true rfl⟩ ⟨_, rfl, w⟩
  · have w := w.2 c1
    refine r_iload_n C 1 dX3_addArea_4 rfl (r_bipush C (v := 6) dX3_addArea_5 (by decide) (r_icmp_ge C 30 dX3_addArea_7 (by decide) (fun c2 => ?_) (fun c2 => ?_)))
    · have w := w.1 c2
      exact r_vret C hQ dX3_addArea_30 rfl ⟨Nat.le_of_ble_eq_true rfl, Nat.le_of_ble_eq_true rfl⟩ ⟨_, rfl, w⟩
    · have w := w.2 c2
      obtain ⟨i3, w⟩ := w
      obtain ⟨i4, w⟩ := w
      obtain ⟨o5, e6⟩ : ∃ z, z = sA o 4 p0.toNatClampNeg ((fA o 4 p0.toNatClampNeg) + p1) := ⟨_, rfl⟩
      have w := w o5 e6
      obtain ⟨o7, e8⟩ : ∃ z, z = sI o5 5 ((fI o5 5) + p1) := ⟨_, rfl⟩
      have w := w o7 e8
      exact r_aload_n C 0 dX3_addArea_10 rfl (rg_X3_X3_areas C dX3_addArea_11 hu_s (r_iload_n C 1 dX3_addArea_14 rfl (r_dup2 C dX3_addArea_15 rfl rfl (r_iald (ci := 4) (k := 4) C dX3_addArea_16 rfl rfl hu_s i3 (r_iload_n C 2 dX3_addArea_17 rfl (r_iadd C dX3_addArea_18 (r_iast (ci := 4) (k := 4) C dX3_addArea_19 rfl rfl hu_s i4 e6 hu_hu.symm (r_aload_n C 0 dX3_addArea_20 rfl (r_dup C dX3_addArea_21 rfl (rg_X3_X3_wholeArea C dX3_addArea_22 hu_s (r_iload_n C 2 dX3_addArea_25 rfl (r_iadd C dX3_addArea_26 (rp_X3_X3_wholeArea C dX3_addArea_27 hu_s e8 hu_hu.symm (r_vret C hQ dX3_addArea_30 rfl ⟨Nat.le_of_ble_eq_true rfl, Nat.le_of_ble_eq_true rfl⟩ ⟨_, rfl, w⟩))))))))))))))
def rm_X0_isNaming : Room := { frames := 0, cells := 0, slots := 0, locals := 0 }
theorem mt_X0_isNaming : gMt yX0_isNaming cX0_isNaming 2 (some .boolean) 1 := ⟨tw876, tw76, by decide +kernel, by decide +kernel, by decide +kernel⟩
def wp_X0_isNaming_24 (p0 : Int32) (o : FO) (post : Int32 → Prop)   : Prop :=
post 1
def wp_X0_isNaming (p0 : Int32) (o : FO)  (post : Int32 → Prop) : Prop :=
(((fI o 2) = p0 → wp_X0_isNaming_24 p0 o post) ∧ (¬ (fI o 2) = p0 → ((¬ (fI o 1) = 5 → post 0) ∧ ((fI o 1) = 5 → ((¬ (fI o 3) = p0 → post 0) ∧ ((fI o 3) = p0 → wp_X0_isNaming_24 p0 o post))))))
set_option maxHeartbeats 4000000 in
set_option maxRecDepth 100000 in
theorem t_X0_isNaming_24 {X : gCx} {a : Nat}  {p0 : Int32} {post : Int32 → Prop} {g : GH} {o : FO}  (C : gC X cX0_isNaming RX0 (some .boolean) rm_X0_isNaming) (hn : xn X = 2) (hQ : gRet X (gQi (xY X) (fun r9 g9 => g9 = g ∧ post r9)) 0 0 ∨ gRex X (gQi (xY X) (fun r9 g9 => g9 = g ∧ post r9)) (fun _ _ => False) 0 0) (hg : g a = some (1, o))    : wp_X0_isNaming_24 p0 o post → gX X 0 0 24 [] [] g := by
  intro  w
  unfold wp_X0_isNaming_24 at w
  exact r_iconst C (v := 1) dX0_isNaming_24 (by decide) (r_goto C 29 dX0_isNaming_25 (by decide) (r_iret C hQ dX0_isNaming_29 rfl rfl ⟨Nat.le_of_ble_eq_true rfl, Nat.le_of_ble_eq_true rfl⟩ ⟨rfl, w⟩))
set_option maxHeartbeats 4000000 in
set_option maxRecDepth 100000 in
theorem m_X0_isNaming {Y : gWx} {a : Nat}  {p0 : Int32} {post : Int32 → Prop} {g : GH} {o : FO} (hg : g a = some (1, o))    (w : wp_X0_isNaming p0 o post) : gMet Y yX0_isNaming cX0_isNaming 2 (some .boolean) rm_X0_isNaming [.ref a, .int p0] g (gQi Y (fun r9 g9 => g9 = g ∧ post r9)) 0 0 := by
  refine gm_of rfl (Nat.le_of_ble_eq_true rfl) ?_
  intro X hY hn C hnm hQ
  subst hY
  have hQ : gRet X (gQi (xY X) (fun r9 g9 => g9 = g ∧ post r9)) 0 0 ∨ gRex X (gQi (xY X) (fun r9 g9 => g9 = g ∧ post r9)) (fun _ _ => False) 0 0 := Or.inl hQ
  have C : gC X cX0_isNaming RX0 (some .boolean) rm_X0_isNaming := C
  show gX X 0 0 0 [(0, .ref a), (1, .int p0)] [] g
  unfold wp_X0_isNaming at w
  refine r_aload_n C 0 dX0_isNaming_0 rfl (rg_X0_X0_shape C dX0_isNaming_1 hg (r_iload_n C 1 dX0_isNaming_4 rfl (r_icmp_eq C 24 dX0_isNaming_5 (by decide) (fun c1 => ?_) (fun c1 => ?_))))
  · have w := w.1 c1
    exact r_sub [] rfl (t_X0_isNaming_24 C hn hQ hg w)
  · have w := w.2 c1
    refine r_aload_n C 0 dX0_isNaming_8 rfl (rg_X0_X0_kind C dX0_isNaming_9 hg (r_iconst C (v := 5) dX0_isNaming_12 (by decide) (r_icmp_ne C 28 dX0_isNaming_13 (by decide) (fun c2 => ?_) (fun c2 => ?_))))
    · have w := w.1 c2
      exact r_iconst C (v := 0) dX0_isNaming_28 (by decide) (r_iret C hQ dX0_isNaming_29 rfl rfl ⟨Nat.le_of_ble_eq_true rfl, Nat.le_of_ble_eq_true rfl⟩ ⟨rfl, w⟩)
    · have w := w.2 c2
      refine r_aload_n C 0 dX0_isNaming_16 rfl (rg_X0_X0_first C dX0_isNaming_17 hg (r_iload_n C 1 dX0_isNaming_20 rfl (r_icmp_ne C 28 dX0_isNaming_21 (by decide) (fun c3 => ?_) (fun c3 => ?_))))
      · have w := w.1 c3
        exact r_iconst C (v := 0) dX0_isNaming_28 (by decide) (r_iret C hQ dX0_isNaming_29 rfl rfl ⟨Nat.le_of_ble_eq_true rfl, Nat.le_of_ble_eq_true rfl⟩ ⟨rfl, w⟩)
      · have w := w.2 c3
        exact r_sub [] rfl (t_X0_isNaming_24 C hn hQ hg w)
def rm_X3_hold : Room := { frames := 0, cells := 0, slots := 0, locals := 0 }
theorem mt_X3_hold : gMt yX3_hold cX3_hold 2 none 1 := ⟨tw880, tw82, by decide +kernel, by decide +kernel, by decide +kernel⟩
def wp_X3_hold (p0 : Int32) (o : FO) (post : FO → Prop) : Prop :=
((p0 < 0 → post o) ∧ (¬ p0 < 0 → ((200 ≤ p0 → post o) ∧ (¬ 200 ≤ p0 → vp_in p0 200 ∧
∀ o4, o4 = sA o 6 p0.toNatClampNeg (vp_nar .boolean 1) →
post o4))))
set_option maxHeartbeats 4000000 in
set_option maxRecDepth 100000 in
theorem m_X3_hold {Y : gWx} {a : Nat}  {p0 : Int32} {post : FO → Prop} {g : GH}  {o : FO} (hg : g a = some (4, o))    (w : wp_X3_hold p0 o post) : gMet Y yX3_hold cX3_hold 2 none rm_X3_hold [.ref a, .int p0] g (gQv Y (fun  g9 => ∃ o9, g9 = hu g a (4, o9) ∧ post  o9)) 0 0 := by
  refine gm_of rfl (Nat.le_of_ble_eq_true rfl) ?_
  intro X hY hn C hnm hQ
  subst hY
  have hQ : gRet X (gQv (xY X) (fun  g9 => ∃ o9, g9 = hu g a (4, o9) ∧ post  o9)) 0 0 ∨ gRex X (gQv (xY X) (fun  g9 => ∃ o9, g9 = hu g a (4, o9) ∧ post  o9)) (fun _ _ => False) 0 0 := Or.inl hQ
  have C : gC X cX3_hold RX3 none rm_X3_hold := C
  refine gX_eq (hu_id hg).symm ?_
  show gX X 0 0 0 [(0, .ref a), (1, .int p0)] [] (hu g a (4, o))
  unfold wp_X3_hold at w
  refine r_iload_n C 1 dX3_hold_0 rfl (r_if_lt C 18 dX3_hold_1 (by decide) (fun c1 => ?_) (fun c1 => ?_))
  · have w := w.1 c1
    exact r_vret C hQ dX3_hold_18 rfl ⟨Nat.le_of_ble_eq_true rfl, Nat.le_of_ble_eq_true rfl⟩ ⟨_, rfl, w⟩
  · have w := w.2 c1
    refine r_iload_n C 1 dX3_hold_4 rfl (r_sipush C (v := 200) dX3_hold_5 (by decide) (r_icmp_ge C 18 dX3_hold_8 (by decide) (fun c2 => ?_) (fun c2 => ?_)))
    · have w := w.1 c2
      exact r_vret C hQ dX3_hold_18 rfl ⟨Nat.le_of_ble_eq_true rfl, Nat.le_of_ble_eq_true rfl⟩ ⟨_, rfl, w⟩
    · have w := w.2 c2
      obtain ⟨i3, w⟩ := w
      obtain ⟨o4, e5⟩ : ∃ z, z = sA o 6 p0.toNatClampNeg (vp_nar .boolean 1) := ⟨_, rfl⟩
      have w := w o4 e5
      exact r_aload_n C 0 dX3_hold_11 rfl (rg_X3_X3_held C dX3_hold_12 hu_s (r_iload_n C 1 dX3_hold_15 rfl (r_iconst C (v := 1) dX3_hold_16 (by decide) (r_zast (ci := 4) (k := 6) C dX3_hold_17 rfl rfl hu_s i3 e5 hu_hu.symm (r_vret C hQ dX3_hold_18 rfl ⟨Nat.le_of_ble_eq_true rfl, Nat.le_of_ble_eq_true rfl⟩ ⟨_, rfl, w⟩)))))
def rm_X7_holdActsOf : Room := { frames := 3, cells := 0, slots := 0, locals := 101 }
theorem mt_X7_holdActsOf : gMt yX7_holdActsOf cX7_holdActsOf 5 none 2 := ⟨tw872, tw59, by decide +kernel, by decide +kernel, by decide +kernel⟩
def wp_X7_holdActsOf_48 (a : Nat) (p0 : Int32) (p1 : Nat) (post : GH → Prop) (k2 : Int32 → GH → Prop) (x3 : Int32) (g : GH) : Prop :=
k2 (x3 + 1) g
def wp_X7_holdActsOf_2 (a : Nat) (p0 : Int32) (p1 : Nat) (post : GH → Prop) : Nat → Int32 → GH → Prop
  | 0, _, _ => False
  | n + 1, x3, g =>
    ∃ o1, g a = some (8, o1) ∧
    ∃ o3, g (fR o1 1) = some (0, o3) ∧
    (((fI o3 2) ≤ x3 → post g) ∧ (¬ (fI o3 2) ≤ x3 → ∃ o8, g a = some (8, o8) ∧
    ∃ o10, g (fR o8 1) = some (0, o10) ∧
    vp_in x3 (fI o10 2).toNatClampNeg ∧
    ∃ o15, g (fR o10 x3.toNatClampNeg) = some (1, o15) ∧
    ∃ o17, g (fR o10 x3.toNatClampNeg) = some (1, o17) ∧
    (((fI o17 5) = 0 → wp_X7_holdActsOf_48 a p0 p1 post (fun x3 g => wp_X7_holdActsOf_2 a p0 p1 post n x3 g) x3 g) ∧ (¬ (fI o17 5) = 0 → ∃ o21, g (fR o10 x3.toNatClampNeg) = some (1, o21) ∧
    wp_X0_isNaming p0 o21 (fun r20 =>
    ((r20 = 0 → wp_X7_holdActsOf_48 a p0 p1 post (fun x3 g => wp_X7_holdActsOf_2 a p0 p1 post n x3 g) x3 g) ∧ (¬ r20 = 0 → ∃ o25, g p1 = some (4, o25) ∧
    wp_X3_hold x3 o25 (fun o27 => ∀ g28, g28 = hu g p1 (4, o27) →
    wp_X7_holdActsOf_48 a p0 p1 post (fun x3 g => wp_X7_holdActsOf_2 a p0 p1 post n x3 g) x3 g28))))))))
def wp_X7_holdActsOf (a : Nat) (p0 : Int32) (p1 : Nat) (g : GH) (post : GH → Prop) : Prop :=
wp_X7_holdActsOf_2 a p0 p1 post 1000 0 g
set_option maxHeartbeats 4000000 in
set_option maxRecDepth 100000 in
theorem t_X7_holdActsOf_48 {X : gCx} {a : Nat}  {p0 : Int32} {p1 : Nat} {post : GH → Prop}   {k2 : Int32 → GH → Prop} (C : gC X cX7_holdActsOf RX7 none rm_X7_holdActsOf) (hn : xn X = 5) (hQ : gRet X (gQv (xY X) post) 0 0 ∨ gRex X (gQv (xY X) post) (fun _ _ => False) 0 0)   (hk2 : ∀ (x3 : Int32) (g : GH), k2 x3 g → gX X 0 0 2 [(0, .ref a), (1, .int p0), (2, .ref p1), (3, .int x3)] [] g) : ∀ (x3 : Int32) (g : GH), wp_X7_holdActsOf_48 a p0 p1 post k2 x3 g → gX X 0 0 48 [(0, .ref a), (1, .int p0), (2, .ref p1), (3, .int x3)] [] g := by
  intro x3 g w
  unfold wp_X7_holdActsOf_48 at w
  exact r_iinc C (v := x3 + 1) 3 dX7_holdActsOf_48 rfl rfl (nlt hn (by decide)) rfl (r_goto C 2 dX7_holdActsOf_51 (by decide) (r_sub [1, 2, 3, 0] rfl (hk2 _ _ w)))
set_option maxHeartbeats 4000000 in
set_option maxRecDepth 100000 in
theorem t_X7_holdActsOf_2 {X : gCx} {a : Nat}  {p0 : Int32} {p1 : Nat} {post : GH → Prop}    (C : gC X cX7_holdActsOf RX7 none rm_X7_holdActsOf) (hn : xn X = 5) (hQ : gRet X (gQv (xY X) post) 0 0 ∨ gRex X (gQv (xY X) post) (fun _ _ => False) 0 0)    : ∀ (n : Nat) (x3 : Int32) (g : GH), wp_X7_holdActsOf_2 a p0 p1 post n x3 g → gX X 0 0 2 [(0, .ref a), (1, .int p0), (2, .ref p1), (3, .int x3)] [] g := by
  intro n
  induction n with
  | zero => intro x3 g w; exact w.elim
  | succ n ih =>
    intro x3 g w
    unfold wp_X7_holdActsOf_2 at w
    obtain ⟨o1, e2, w⟩ := w
    obtain ⟨o3, e4, w⟩ := w
    refine r_iload_n C 3 dX7_holdActsOf_2 rfl (r_aload_n C 0 dX7_holdActsOf_3 rfl (rg_X7_X7_toldActs C dX7_holdActsOf_4 e2 (r_goi (r_runV C dX7_holdActsOf_7 (m_lsize e4) mt_Jx4a65c_size_8abf5 tw201 tw202 tw203 (ci := 0) rfl e4 rfl (stk := [.int x3]) rfl (Nat.le_of_ble_eq_true rfl) ⟨rfl, rfl, ⟨Nat.le_of_ble_eq_true rfl, Nat.le_of_ble_eq_true rfl⟩, ⟨Nat.le_of_ble_eq_true rfl, Nat.le_of_ble_eq_true rfl⟩⟩) ?_)))
    intro r6 h5 hp
    obtain ⟨e9, e8⟩ := hp
    rw [e9, e8]
    refine r_icmp_ge C 54 dX7_holdActsOf_10 (by decide) (fun c7 => ?_) (fun c7 => ?_)
    · have w := w.1 c7
      exact r_vret C hQ dX7_holdActsOf_54 rfl ⟨Nat.le_of_ble_eq_true rfl, Nat.le_of_ble_eq_true rfl⟩ w
    · have w := w.2 c7
      obtain ⟨o8, e9, w⟩ := w
      obtain ⟨o10, e11, w⟩ := w
      obtain ⟨i13, w⟩ := w
      refine r_aload_n C 0 dX7_holdActsOf_13 rfl (rg_X7_X7_toldActs C dX7_holdActsOf_14 e9 (r_iload_n C 3 dX7_holdActsOf_17 rfl (r_gor (r_runV C dX7_holdActsOf_18 (m_lget e11 i13) mt_Jx4a65c_get_915e3 tw467 tw468 tw469 (ci := 0) rfl e11 rfl (stk := []) rfl (Nat.le_of_ble_eq_true rfl) ⟨rfl, rfl, ⟨Nat.le_of_ble_eq_true rfl, Nat.le_of_ble_eq_true rfl⟩, ⟨Nat.le_of_ble_eq_true rfl, Nat.le_of_ble_eq_true rfl⟩⟩) ?_)))
      intro r14 h12 hp
      obtain ⟨e9, e8⟩ := hp
      rw [e9, e8]
      obtain ⟨o15, e16, w⟩ := w
      obtain ⟨o17, e18, w⟩ := w
      refine r_cast C gcl_1 dX7_holdActsOf_21 tw427 e16 (r_astore C dX7_holdActsOf_24 (nlt hn (by decide)) rfl (r_aload C 0 dX7_holdActsOf_26 rfl (rg_X7_X0_isLive C dX7_holdActsOf_28 e18 (r_if_eq C 48 dX7_holdActsOf_31 (by decide) (fun c19 => ?_) (fun c19 => ?_)))))
      · have w := w.1 c19
        exact r_sub [1, 2, 3, 4] rfl (t_X7_holdActsOf_48 C hn hQ ih _ _ w)
      · have w := w.2 c19
        obtain ⟨o21, e22, w⟩ := w
        refine r_aload C 0 dX7_holdActsOf_34 rfl (r_iload_n C 2 dX7_holdActsOf_36 rfl (r_goi (r_runV C dX7_holdActsOf_37 (m_X0_isNaming e22 w) mt_X0_isNaming tw873 tw874 tw875 gcl_1.1 e22 rfl (stk := []) rfl (Nat.le_of_ble_eq_true rfl) ⟨rfl, rfl, ⟨Nat.le_of_ble_eq_true rfl, Nat.le_of_ble_eq_true rfl⟩, ⟨Nat.le_of_ble_eq_true rfl, Nat.le_of_ble_eq_true rfl⟩⟩) ?_))
        intro r20 h23 hp
        obtain ⟨e9, w⟩ := hp
        rw [e9]
        refine r_if_eq C 48 dX7_holdActsOf_40 (by decide) (fun c24 => ?_) (fun c24 => ?_)
        · have w := w.1 c24
          exact r_sub [1, 2, 3, 4] rfl (t_X7_holdActsOf_48 C hn hQ ih _ _ w)
        · have w := w.2 c24
          obtain ⟨o25, e26, w⟩ := w
          refine r_aload_n C 3 dX7_holdActsOf_43 rfl (r_iload_n C 4 dX7_holdActsOf_44 rfl (r_gov (r_runV C dX7_holdActsOf_45 (m_X3_hold e26 w) mt_X3_hold tw877 tw878 tw879 gcl_4.1 e26 rfl (stk := []) rfl (Nat.le_of_ble_eq_true rfl) ⟨rfl, rfl, ⟨Nat.le_of_ble_eq_true rfl, Nat.le_of_ble_eq_true rfl⟩, ⟨Nat.le_of_ble_eq_true rfl, Nat.le_of_ble_eq_true rfl⟩⟩) ?_))
          intro  h29 hp
          obtain ⟨o27, e9, w⟩ := hp
          obtain ⟨g28, rfl⟩ : ∃ z, z = h29 := ⟨_, rfl⟩
          have w := w _ e9
          exact r_sub [1, 2, 3, 4] rfl (t_X7_holdActsOf_48 C hn hQ ih _ _ w)
set_option maxHeartbeats 4000000 in
set_option maxRecDepth 100000 in
theorem m_X7_holdActsOf {Y : gWx} {a : Nat}  {p0 : Int32} {p1 : Nat} {post : GH → Prop} {g : GH}     (w : wp_X7_holdActsOf a p0 p1 g post) : gMet Y yX7_holdActsOf cX7_holdActsOf 5 none rm_X7_holdActsOf [.ref a, .int p0, .ref p1] g (gQv Y post) 0 0 := by
  refine gm_of rfl (Nat.le_of_ble_eq_true rfl) ?_
  intro X hY hn C hnm hQ
  subst hY
  have hQ : gRet X (gQv (xY X) post) 0 0 ∨ gRex X (gQv (xY X) post) (fun _ _ => False) 0 0 := Or.inl hQ
  have C : gC X cX7_holdActsOf RX7 none rm_X7_holdActsOf := C
  show gX X 0 0 0 [(0, .ref a), (1, .int p0), (2, .ref p1)] [] g
  unfold wp_X7_holdActsOf at w
  exact r_iconst C (v := 0) dX7_holdActsOf_0 (by decide) (r_istore_n C dX7_holdActsOf_1 (nlt hn (by decide)) rfl (r_sub [1, 2, 3, 0] rfl (t_X7_holdActsOf_2 C hn hQ 1000 _ _ w)))
def rm_X7_measureAndHold : Room := { frames := 5, cells := 0, slots := 0, locals := 125 }
theorem mt_X7_measureAndHold : gMt yX7_measureAndHold cX7_measureAndHold 4 none 1 := ⟨tw863, tw59, by decide +kernel, by decide +kernel, by decide +kernel⟩
def wp_X7_measureAndHold_59 (a : Nat) (p0 : Nat) (post : GH → Prop) (k2 : Int32 → GH → Prop) (x2 : Int32) (g : GH) : Prop :=
k2 (x2 + 1) g
def wp_X7_measureAndHold_2 (a : Nat) (p0 : Nat) (post : GH → Prop) : Nat → Int32 → GH → Prop
  | 0, _, _ => False
  | n + 1, x2, g =>
    ∃ o1, g a = some (8, o1) ∧
    ∃ o3, g (fR o1 0) = some (0, o3) ∧
    (((fI o3 2) ≤ x2 → post g) ∧ (¬ (fI o3 2) ≤ x2 → ∃ o8, g p0 = some (4, o8) ∧
    ∃ o10, g a = some (8, o10) ∧
    ∃ o12, g a = some (8, o12) ∧
    ∃ o15, g (fR o8 1) = some (7, o15) ∧
    wp_X6_countShown (fR o8 1) (fR o10 4) x2 (fL o12 6) g (fun r14 =>
    ((r14 ≤ 0 → wp_X7_measureAndHold_59 a p0 post (fun x2 g => wp_X7_measureAndHold_2 a p0 post n x2 g) x2 g) ∧ (¬ r14 ≤ 0 → ∃ o19, g a = some (8, o19) ∧
    ∃ o21, g (fR o19 0) = some (0, o21) ∧
    vp_in x2 (fI o21 2).toNatClampNeg ∧
    ∃ o26, g (fR o21 x2.toNatClampNeg) = some (6, o26) ∧
    ∃ o28, g (fR o21 x2.toNatClampNeg) = some (6, o28) ∧
    ∃ o30, g p0 = some (4, o30) ∧
    wp_X3_addArea (fI o28 0) r14 o30 (fun o32 => ∀ g33, g33 = hu g p0 (4, o32) →
    ∃ o35, g33 a = some (8, o35) ∧
    wp_X7_holdActsOf a x2 p0 g33 (fun g37 =>
    wp_X7_measureAndHold_59 a p0 post (fun x2 g => wp_X7_measureAndHold_2 a p0 post n x2 g) x2 g37)))))))
def wp_X7_measureAndHold (a : Nat) (p0 : Nat) (g : GH) (post : GH → Prop) : Prop :=
wp_X7_measureAndHold_2 a p0 post 1000 0 g
set_option maxHeartbeats 4000000 in
set_option maxRecDepth 100000 in
theorem t_X7_measureAndHold_59 {X : gCx} {a : Nat}  {p0 : Nat} {post : GH → Prop}   {k2 : Int32 → GH → Prop} (C : gC X cX7_measureAndHold RX7 none rm_X7_measureAndHold) (hn : xn X = 4) (hQ : gRet X (gQv (xY X) post) 0 0 ∨ gRex X (gQv (xY X) post) (fun _ _ => False) 0 0)   (hk2 : ∀ (x2 : Int32) (g : GH), k2 x2 g → gX X 0 0 2 [(0, .ref a), (1, .ref p0), (2, .int x2)] [] g) : ∀ (x2 : Int32) (g : GH), wp_X7_measureAndHold_59 a p0 post k2 x2 g → gX X 0 0 59 [(0, .ref a), (1, .ref p0), (2, .int x2)] [] g := by
  intro x2 g w
  unfold wp_X7_measureAndHold_59 at w
  exact r_iinc C (v := x2 + 1) 2 dX7_measureAndHold_59 rfl rfl (nlt hn (by decide)) rfl (r_goto C 2 dX7_measureAndHold_62 (by decide) (r_sub [1, 2, 0] rfl (hk2 _ _ w)))
set_option maxHeartbeats 4000000 in
set_option maxRecDepth 100000 in
theorem t_X7_measureAndHold_2 {X : gCx} {a : Nat}  {p0 : Nat} {post : GH → Prop}    (C : gC X cX7_measureAndHold RX7 none rm_X7_measureAndHold) (hn : xn X = 4) (hQ : gRet X (gQv (xY X) post) 0 0 ∨ gRex X (gQv (xY X) post) (fun _ _ => False) 0 0)    : ∀ (n : Nat) (x2 : Int32) (g : GH), wp_X7_measureAndHold_2 a p0 post n x2 g → gX X 0 0 2 [(0, .ref a), (1, .ref p0), (2, .int x2)] [] g := by
  intro n
  induction n with
  | zero => intro x2 g w; exact w.elim
  | succ n ih =>
    intro x2 g w
    unfold wp_X7_measureAndHold_2 at w
    obtain ⟨o1, e2, w⟩ := w
    obtain ⟨o3, e4, w⟩ := w
    refine r_iload_n C 2 dX7_measureAndHold_2 rfl (r_aload_n C 0 dX7_measureAndHold_3 rfl (rg_X7_X7_addedShapes C dX7_measureAndHold_4 e2 (r_goi (r_runV C dX7_measureAndHold_7 (m_lsize e4) mt_Jx4a65c_size_8abf5 tw201 tw202 tw203 (ci := 0) rfl e4 rfl (stk := [.int x2]) rfl (Nat.le_of_ble_eq_true rfl) ⟨rfl, rfl, ⟨Nat.le_of_ble_eq_true rfl, Nat.le_of_ble_eq_true rfl⟩, ⟨Nat.le_of_ble_eq_true rfl, Nat.le_of_ble_eq_true rfl⟩⟩) ?_)))
    intro r6 h5 hp
    obtain ⟨e9, e8⟩ := hp
    rw [e9, e8]
    refine r_icmp_ge C 65 dX7_measureAndHold_10 (by decide) (fun c7 => ?_) (fun c7 => ?_)
    · have w := w.1 c7
      exact r_vret C hQ dX7_measureAndHold_65 rfl ⟨Nat.le_of_ble_eq_true rfl, Nat.le_of_ble_eq_true rfl⟩ w
    · have w := w.2 c7
      obtain ⟨o8, e9, w⟩ := w
      obtain ⟨o10, e11, w⟩ := w
      obtain ⟨o12, e13, w⟩ := w
      obtain ⟨o15, e16, w⟩ := w
      refine r_aload_n C 1 dX7_measureAndHold_13 rfl (rg_X7_X3_window C dX7_measureAndHold_14 e9 (r_aload_n C 0 dX7_measureAndHold_17 rfl (rg_X7_X7_board C dX7_measureAndHold_18 e11 (r_iload_n C 2 dX7_measureAndHold_21 rfl (r_aload_n C 0 dX7_measureAndHold_22 rfl (rg_X7_X7_takenDown C dX7_measureAndHold_23 e13 (r_goi (r_runV C dX7_measureAndHold_26 (m_X6_countShown w) mt_X6_countShown tw864 tw754 tw755 gcl_7.1 e16 rfl (stk := []) rfl (Nat.le_of_ble_eq_true rfl) ⟨rfl, rfl, ⟨Nat.le_of_ble_eq_true rfl, Nat.le_of_ble_eq_true rfl⟩, ⟨Nat.le_of_ble_eq_true rfl, Nat.le_of_ble_eq_true rfl⟩⟩) ?_)))))))
      intro r14 h17 hp
      obtain ⟨e9, w⟩ := hp
      rw [e9]
      refine r_istore_n C dX7_measureAndHold_29 (nlt hn (by decide)) rfl (r_iload_n C 0 dX7_measureAndHold_30 rfl (r_if_le C 59 dX7_measureAndHold_31 (by decide) (fun c18 => ?_) (fun c18 => ?_)))
      · have w := w.1 c18
        exact r_sub [1, 2, 3] rfl (t_X7_measureAndHold_59 C hn hQ ih _ _ w)
      · have w := w.2 c18
        obtain ⟨o19, e20, w⟩ := w
        obtain ⟨o21, e22, w⟩ := w
        obtain ⟨i24, w⟩ := w
        refine r_aload_n C 2 dX7_measureAndHold_34 rfl (r_aload_n C 1 dX7_measureAndHold_35 rfl (rg_X7_X7_addedShapes C dX7_measureAndHold_36 e20 (r_iload_n C 3 dX7_measureAndHold_39 rfl (r_gor (r_runV C dX7_measureAndHold_40 (m_lget e22 i24) mt_Jx4a65c_get_915e3 tw467 tw468 tw469 (ci := 0) rfl e22 rfl (stk := [.ref p0]) rfl (Nat.le_of_ble_eq_true rfl) ⟨rfl, rfl, ⟨Nat.le_of_ble_eq_true rfl, Nat.le_of_ble_eq_true rfl⟩, ⟨Nat.le_of_ble_eq_true rfl, Nat.le_of_ble_eq_true rfl⟩⟩) ?_))))
        intro r25 h23 hp
        obtain ⟨e9, e8⟩ := hp
        rw [e9, e8]
        obtain ⟨o26, e27, w⟩ := w
        obtain ⟨o28, e29, w⟩ := w
        obtain ⟨o30, e31, w⟩ := w
        refine r_cast C gcl_6 dX7_measureAndHold_43 tw336 e27 (rg_X7_X5_maker C dX7_measureAndHold_46 e29 (r_iload_n C 0 dX7_measureAndHold_49 rfl (r_gov (r_runV C dX7_measureAndHold_50 (m_X3_addArea e31 w) mt_X3_addArea tw865 tw866 tw867 gcl_4.1 e31 rfl (stk := []) rfl (Nat.le_of_ble_eq_true rfl) ⟨rfl, rfl, ⟨Nat.le_of_ble_eq_true rfl, Nat.le_of_ble_eq_true rfl⟩, ⟨Nat.le_of_ble_eq_true rfl, Nat.le_of_ble_eq_true rfl⟩⟩) ?_)))
        intro  h34 hp
        obtain ⟨o32, e9, w⟩ := hp
        obtain ⟨g33, rfl⟩ : ∃ z, z = h34 := ⟨_, rfl⟩
        have w := w _ e9
        obtain ⟨o35, e36, w⟩ := w
        refine r_aload_n C 1 dX7_measureAndHold_53 rfl (r_iload_n C 3 dX7_measureAndHold_54 rfl (r_aload_n C 2 dX7_measureAndHold_55 rfl (r_gov (r_runV C dX7_measureAndHold_56 (m_X7_holdActsOf w) mt_X7_holdActsOf tw869 tw871 tw24 gcl_8.1 e36 rfl (stk := []) rfl (Nat.le_of_ble_eq_true rfl) ⟨rfl, rfl, ⟨Nat.le_of_ble_eq_true rfl, Nat.le_of_ble_eq_true rfl⟩, ⟨Nat.le_of_ble_eq_true rfl, Nat.le_of_ble_eq_true rfl⟩⟩) ?_)))
        intro  h38 hp
        obtain ⟨g37, rfl⟩ : ∃ z, z = h38 := ⟨_, rfl⟩
        have w := hp
        exact r_sub [1, 2, 3] rfl (t_X7_measureAndHold_59 C hn hQ ih _ _ w)
set_option maxHeartbeats 4000000 in
set_option maxRecDepth 100000 in
theorem m_X7_measureAndHold {Y : gWx} {a : Nat}  {p0 : Nat} {post : GH → Prop} {g : GH}     (w : wp_X7_measureAndHold a p0 g post) : gMet Y yX7_measureAndHold cX7_measureAndHold 4 none rm_X7_measureAndHold [.ref a, .ref p0] g (gQv Y post) 0 0 := by
  refine gm_of rfl (Nat.le_of_ble_eq_true rfl) ?_
  intro X hY hn C hnm hQ
  subst hY
  have hQ : gRet X (gQv (xY X) post) 0 0 ∨ gRex X (gQv (xY X) post) (fun _ _ => False) 0 0 := Or.inl hQ
  have C : gC X cX7_measureAndHold RX7 none rm_X7_measureAndHold := C
  show gX X 0 0 0 [(0, .ref a), (1, .ref p0)] [] g
  unfold wp_X7_measureAndHold at w
  exact r_iconst C (v := 0) dX7_measureAndHold_0 (by decide) (r_istore_n C dX7_measureAndHold_1 (nlt hn (by decide)) rfl (r_sub [1, 2, 0] rfl (t_X7_measureAndHold_2 C hn hQ 1000 _ _ w)))
def rm_X1_copy : Room := { frames := 1, cells := 0, slots := 0, locals := 60 }
theorem mt_X1_copy : gMt yX1_copy cX1_copy 2 none 1 := ⟨tw858, tw63, by decide +kernel, by decide +kernel, by decide +kernel⟩
def wp_X1_copy (a : Nat) (p0 : Nat) (g : GH) (post : GH → Prop) : Prop :=
∃ o1, g p0 = some (2, o1) ∧
∃ o3, g a = some (2, o3) ∧
∃ o5, g a = some (2, o5) ∧
∃ o7, g p0 = some (2, o7) ∧
¬ p0 = a ∧
∀ g10, g10 = hu g a (2, cpA o5 0 o7 0 40) →
∃ o12, g10 p0 = some (2, o12) ∧
∃ o14, g10 a = some (2, o14) ∧
∃ o16, g10 a = some (2, o16) ∧
∃ o18, g10 p0 = some (2, o18) ∧
¬ p0 = a ∧
∀ g21, g21 = hu g10 a (2, cpA o16 1 o18 1 40) →
∃ o23, g21 p0 = some (2, o23) ∧
∃ o25, g21 a = some (2, o25) ∧
∃ o27, g21 a = some (2, o27) ∧
∃ o29, g21 p0 = some (2, o29) ∧
¬ p0 = a ∧
∀ g32, g32 = hu g21 a (2, cpA o27 2 o29 2 40) →
∃ o34, g32 p0 = some (2, o34) ∧
∃ o36, g32 a = some (2, o36) ∧
∃ o38, g32 a = some (2, o38) ∧
∃ o40, g32 p0 = some (2, o40) ∧
¬ p0 = a ∧
∀ g43, g43 = hu g32 a (2, cpA o38 3 o40 3 40) →
∃ o45, g43 p0 = some (2, o45) ∧
∃ o47, g43 a = some (2, o47) ∧
∃ o49, g43 a = some (2, o49) ∧
∃ o51, g43 p0 = some (2, o51) ∧
¬ p0 = a ∧
∀ g54, g54 = hu g43 a (2, cpA o49 4 o51 4 40) →
∃ o56, g54 p0 = some (2, o56) ∧
∃ o58, g54 a = some (2, o58) ∧
∃ o60, g54 a = some (2, o60) ∧
∃ o62, g54 p0 = some (2, o62) ∧
¬ p0 = a ∧
∀ g65, g65 = hu g54 a (2, cpA o60 5 o62 5 40) →
∃ o67, g65 p0 = some (2, o67) ∧
∃ o69, g65 a = some (2, o69) ∧
∀ g71, g71 = hu g65 a (2, sL o69 7 (fL o67 7)) →
post g71
set_option maxHeartbeats 4000000 in
set_option maxRecDepth 100000 in
theorem m_X1_copy {Y : gWx} {a : Nat}  {p0 : Nat} {post : GH → Prop} {g : GH}     (w : wp_X1_copy a p0 g post) : gMet Y yX1_copy cX1_copy 2 none rm_X1_copy [.ref a, .ref p0] g (gQv Y post) 0 0 := by
  refine gm_of rfl (Nat.le_of_ble_eq_true rfl) ?_
  intro X hY hn C hnm hQ
  subst hY
  have hQ : gRet X (gQv (xY X) post) 0 0 ∨ gRex X (gQv (xY X) post) (fun _ _ => False) 0 0 := Or.inl hQ
  have C : gC X cX1_copy RX1 none rm_X1_copy := C
  show gX X 0 0 0 [(0, .ref a), (1, .ref p0)] [] g
  unfold wp_X1_copy at w
  obtain ⟨o1, e2, w⟩ := w
  obtain ⟨o3, e4, w⟩ := w
  obtain ⟨o5, e6, w⟩ := w
  obtain ⟨o7, e8, w⟩ := w
  obtain ⟨i9, w⟩ := w
  obtain ⟨g10, e11⟩ : ∃ z, z = hu g a (2, cpA o5 0 o7 0 40) := ⟨_, rfl⟩
  have w := w g10 e11
  obtain ⟨o12, e13, w⟩ := w
  obtain ⟨o14, e15, w⟩ := w
  obtain ⟨o16, e17, w⟩ := w
  obtain ⟨o18, e19, w⟩ := w
  obtain ⟨i20, w⟩ := w
  obtain ⟨g21, e22⟩ : ∃ z, z = hu g10 a (2, cpA o16 1 o18 1 40) := ⟨_, rfl⟩
  have w := w g21 e22
  obtain ⟨o23, e24, w⟩ := w
  obtain ⟨o25, e26, w⟩ := w
  obtain ⟨o27, e28, w⟩ := w
  obtain ⟨o29, e30, w⟩ := w
  obtain ⟨i31, w⟩ := w
  obtain ⟨g32, e33⟩ : ∃ z, z = hu g21 a (2, cpA o27 2 o29 2 40) := ⟨_, rfl⟩
  have w := w g32 e33
  obtain ⟨o34, e35, w⟩ := w
  obtain ⟨o36, e37, w⟩ := w
  obtain ⟨o38, e39, w⟩ := w
  obtain ⟨o40, e41, w⟩ := w
  obtain ⟨i42, w⟩ := w
  obtain ⟨g43, e44⟩ : ∃ z, z = hu g32 a (2, cpA o38 3 o40 3 40) := ⟨_, rfl⟩
  have w := w g43 e44
  obtain ⟨o45, e46, w⟩ := w
  obtain ⟨o47, e48, w⟩ := w
  obtain ⟨o49, e50, w⟩ := w
  obtain ⟨o51, e52, w⟩ := w
  obtain ⟨i53, w⟩ := w
  obtain ⟨g54, e55⟩ : ∃ z, z = hu g43 a (2, cpA o49 4 o51 4 40) := ⟨_, rfl⟩
  have w := w g54 e55
  obtain ⟨o56, e57, w⟩ := w
  obtain ⟨o58, e59, w⟩ := w
  obtain ⟨o60, e61, w⟩ := w
  obtain ⟨o62, e63, w⟩ := w
  obtain ⟨i64, w⟩ := w
  obtain ⟨g65, e66⟩ : ∃ z, z = hu g54 a (2, cpA o60 5 o62 5 40) := ⟨_, rfl⟩
  have w := w g65 e66
  obtain ⟨o67, e68, w⟩ := w
  obtain ⟨o69, e70, w⟩ := w
  obtain ⟨g71, e72⟩ : ∃ z, z = hu g65 a (2, sL o69 7 (fL o67 7)) := ⟨_, rfl⟩
  have w := w g71 e72
  exact r_aload_n C 1 dX1_copy_0 rfl (rg_X1_X1_columns C dX1_copy_1 e2 (r_iconst C (v := 0) dX1_copy_4 (by decide) (r_aload_n C 0 dX1_copy_5 rfl (rg_X1_X1_columns C dX1_copy_6 e4 (r_iconst C (v := 0) dX1_copy_9 (by decide) (r_bipush C (v := 40) dX1_copy_10 (by decide) (r_copyI (ci := 2) (k := 0) (cj := 2) (j := 0) C dX1_copy_12 tw859 tw424 tw423 tw75 rfl rfl rfl rfl e6 e8 i9 ⟨Nat.le_of_ble_eq_true rfl, Nat.le_of_ble_eq_true rfl⟩ (by decide) rfl e11 (r_aload_n C 1 dX1_copy_15 rfl (rg_X1_X1_rows C dX1_copy_16 e13 (r_iconst C (v := 0) dX1_copy_19 (by decide) (r_aload_n C 0 dX1_copy_20 rfl (rg_X1_X1_rows C dX1_copy_21 e15 (r_iconst C (v := 0) dX1_copy_24 (by decide) (r_bipush C (v := 40) dX1_copy_25 (by decide) (r_copyI (ci := 2) (k := 1) (cj := 2) (j := 1) C dX1_copy_27 tw859 tw424 tw423 tw75 rfl rfl rfl rfl e17 e19 i20 ⟨Nat.le_of_ble_eq_true rfl, Nat.le_of_ble_eq_true rfl⟩ (by decide) rfl e22 (r_aload_n C 1 dX1_copy_30 rfl (rg_X1_X1_widths C dX1_copy_31 e24 (r_iconst C (v := 0) dX1_copy_34 (by decide) (r_aload_n C 0 dX1_copy_35 rfl (rg_X1_X1_widths C dX1_copy_36 e26 (r_iconst C (v := 0) dX1_copy_39 (by decide) (r_bipush C (v := 40) dX1_copy_40 (by decide) (r_copyI (ci := 2) (k := 2) (cj := 2) (j := 2) C dX1_copy_42 tw859 tw424 tw423 tw75 rfl rfl rfl rfl e28 e30 i31 ⟨Nat.le_of_ble_eq_true rfl, Nat.le_of_ble_eq_true rfl⟩ (by decide) rfl e33 (r_aload_n C 1 dX1_copy_45 rfl (rg_X1_X1_heights C dX1_copy_46 e35 (r_iconst C (v := 0) dX1_copy_49 (by decide) (r_aload_n C 0 dX1_copy_50 rfl (rg_X1_X1_heights C dX1_copy_51 e37 (r_iconst C (v := 0) dX1_copy_54 (by decide) (r_bipush C (v := 40) dX1_copy_55 (by decide) (r_copyI (ci := 2) (k := 3) (cj := 2) (j := 3) C dX1_copy_57 tw859 tw424 tw423 tw75 rfl rfl rfl rfl e39 e41 i42 ⟨Nat.le_of_ble_eq_true rfl, Nat.le_of_ble_eq_true rfl⟩ (by decide) rfl e44 (r_aload_n C 1 dX1_copy_60 rfl (rg_X1_X1_colours C dX1_copy_61 e46 (r_iconst C (v := 0) dX1_copy_64 (by decide) (r_aload_n C 0 dX1_copy_65 rfl (rg_X1_X1_colours C dX1_copy_66 e48 (r_iconst C (v := 0) dX1_copy_69 (by decide) (r_bipush C (v := 40) dX1_copy_70 (by decide) (r_copyI (ci := 2) (k := 4) (cj := 2) (j := 4) C dX1_copy_72 tw859 tw424 tw423 tw75 rfl rfl rfl rfl e50 e52 i53 ⟨Nat.le_of_ble_eq_true rfl, Nat.le_of_ble_eq_true rfl⟩ (by decide) rfl e55 (r_aload_n C 1 dX1_copy_75 rfl (rg_X1_X1_layers C dX1_copy_76 e57 (r_iconst C (v := 0) dX1_copy_79 (by decide) (r_aload_n C 0 dX1_copy_80 rfl (rg_X1_X1_layers C dX1_copy_81 e59 (r_iconst C (v := 0) dX1_copy_84 (by decide) (r_bipush C (v := 40) dX1_copy_85 (by decide) (r_copyI (ci := 2) (k := 5) (cj := 2) (j := 5) C dX1_copy_87 tw859 tw424 tw423 tw75 rfl rfl rfl rfl e61 e63 i64 ⟨Nat.le_of_ble_eq_true rfl, Nat.le_of_ble_eq_true rfl⟩ (by decide) rfl e66 (r_aload_n C 0 dX1_copy_90 rfl (r_aload_n C 1 dX1_copy_91 rfl (rg_X1_X1_present C dX1_copy_92 e68 (rp_X1_X1_present C dX1_copy_95 e70 rfl e72 (r_vret C hQ dX1_copy_98 rfl ⟨Nat.le_of_ble_eq_true rfl, Nat.le_of_ble_eq_true rfl⟩ w))))))))))))))))))))))))))))))))))))))))))))))))))))
def rm_X2_init : Room := { frames := 1, cells := 0, slots := 0, locals := 20 }
theorem mt_X2_init : gMt yX2_init cX2_init 1 none 0 := ⟨tw833, tw83, by decide +kernel, by decide +kernel, by decide +kernel⟩
def wp_X2_init (o : FO) (post : FO → Prop) : Prop :=
∀ o1, o1 = sI o 0 0 →
∀ o3, o3 = sI o1 1 ((-1)) →
∀ o5, o5 = sI o3 3 ((-1)) →
post o5
set_option maxHeartbeats 4000000 in
set_option maxRecDepth 100000 in
theorem m_X2_init {Y : gWx} {a : Nat}   {post : FO → Prop} {g : GH}  {o : FO} (hg : g a = some (3, o))    (w : wp_X2_init o post) : gMet Y yX2_init cX2_init 1 none rm_X2_init [.ref a] g (gQv Y (fun  g9 => ∃ o9, g9 = hu g a (3, o9) ∧ post  o9)) 0 0 := by
  refine gm_of rfl (Nat.le_of_ble_eq_true rfl) ?_
  intro X hY hn C hnm hQ
  subst hY
  have hQ : gRet X (gQv (xY X) (fun  g9 => ∃ o9, g9 = hu g a (3, o9) ∧ post  o9)) 0 0 ∨ gRex X (gQv (xY X) (fun  g9 => ∃ o9, g9 = hu g a (3, o9) ∧ post  o9)) (fun _ _ => False) 0 0 := Or.inl hQ
  have C : gC X cX2_init RX2 none rm_X2_init := C
  refine gX_eq (hu_id hg).symm ?_
  show gX X 0 0 0 [(0, .ref a)] [] (hu g a (3, o))
  unfold wp_X2_init at w
  obtain ⟨o1, e2⟩ : ∃ z, z = sI o 0 0 := ⟨_, rfl⟩
  have w := w o1 e2
  obtain ⟨o3, e4⟩ : ∃ z, z = sI o1 1 ((-1)) := ⟨_, rfl⟩
  have w := w o3 e4
  obtain ⟨o5, e6⟩ : ∃ z, z = sI o3 3 ((-1)) := ⟨_, rfl⟩
  have w := w o5 e6
  exact r_aload_n C 0 dX2_init_0 rfl (r_objInit C dX2_init_1 tw834 tw91 tw92 ⟨Nat.le_of_ble_eq_true rfl, Nat.le_of_ble_eq_true rfl⟩ (r_aload_n C 0 dX2_init_4 rfl (r_iconst C (v := 0) dX2_init_5 (by decide) (rp_X2_X2_state C dX2_init_6 hu_s e2 hu_hu.symm (r_aload_n C 0 dX2_init_9 rfl (r_iconst C (v := (-1)) dX2_init_10 (by decide) (rp_X2_X2_owner C dX2_init_11 hu_s e4 hu_hu.symm (r_aload_n C 0 dX2_init_14 rfl (r_iconst C (v := (-1)) dX2_init_15 (by decide) (rp_X2_X2_answerer C dX2_init_16 hu_s e6 hu_hu.symm (r_vret C hQ dX2_init_19 rfl ⟨Nat.le_of_ble_eq_true rfl, Nat.le_of_ble_eq_true rfl⟩ ⟨_, rfl, w⟩)))))))))))
def rm_X6_init : Room := { frames := 1, cells := 0, slots := 0, locals := 20 }
theorem mt_X6_init : gMt yX6_init cX6_init 5 none 4 := ⟨tw730, tw80, by decide +kernel, by decide +kernel, by decide +kernel⟩
def wp_X6_init (p0 : Int32) (p1 : Int32) (p2 : Int32) (p3 : Int32) (o : FO) (post : FO → Prop) : Prop :=
∀ o1, o1 = sI o 0 p0 →
∀ o3, o3 = sI o1 1 p1 →
∀ o5, o5 = sI o3 2 p2 →
∀ o7, o7 = sI o5 3 p3 →
post o7
set_option maxHeartbeats 4000000 in
set_option maxRecDepth 100000 in
theorem m_X6_init {Y : gWx} {a : Nat}  {p0 : Int32} {p1 : Int32} {p2 : Int32} {p3 : Int32} {post : FO → Prop} {g : GH}  {o : FO} (hg : g a = some (7, o))    (w : wp_X6_init p0 p1 p2 p3 o post) : gMet Y yX6_init cX6_init 5 none rm_X6_init [.ref a, .int p0, .int p1, .int p2, .int p3] g (gQv Y (fun  g9 => ∃ o9, g9 = hu g a (7, o9) ∧ post  o9)) 0 0 := by
  refine gm_of rfl (Nat.le_of_ble_eq_true rfl) ?_
  intro X hY hn C hnm hQ
  subst hY
  have hQ : gRet X (gQv (xY X) (fun  g9 => ∃ o9, g9 = hu g a (7, o9) ∧ post  o9)) 0 0 ∨ gRex X (gQv (xY X) (fun  g9 => ∃ o9, g9 = hu g a (7, o9) ∧ post  o9)) (fun _ _ => False) 0 0 := Or.inl hQ
  have C : gC X cX6_init RX6 none rm_X6_init := C
  refine gX_eq (hu_id hg).symm ?_
  show gX X 0 0 0 [(0, .ref a), (1, .int p0), (2, .int p1), (3, .int p2), (4, .int p3)] [] (hu g a (7, o))
  unfold wp_X6_init at w
  obtain ⟨o1, e2⟩ : ∃ z, z = sI o 0 p0 := ⟨_, rfl⟩
  have w := w o1 e2
  obtain ⟨o3, e4⟩ : ∃ z, z = sI o1 1 p1 := ⟨_, rfl⟩
  have w := w o3 e4
  obtain ⟨o5, e6⟩ : ∃ z, z = sI o3 2 p2 := ⟨_, rfl⟩
  have w := w o5 e6
  obtain ⟨o7, e8⟩ : ∃ z, z = sI o5 3 p3 := ⟨_, rfl⟩
  have w := w o7 e8
  exact r_aload_n C 0 dX6_init_0 rfl (r_objInit C dX6_init_1 tw731 tw91 tw92 ⟨Nat.le_of_ble_eq_true rfl, Nat.le_of_ble_eq_true rfl⟩ (r_aload_n C 0 dX6_init_4 rfl (r_iload_n C 1 dX6_init_5 rfl (rp_X6_X6_column C dX6_init_6 hnm hu_s e2 hu_hu.symm (r_aload_n C 0 dX6_init_9 rfl (r_iload_n C 2 dX6_init_10 rfl (rp_X6_X6_row C dX6_init_11 hnm hu_s e4 hu_hu.symm (r_aload_n C 0 dX6_init_14 rfl (r_iload_n C 3 dX6_init_15 rfl (rp_X6_X6_width C dX6_init_16 hnm hu_s e6 hu_hu.symm (r_aload_n C 0 dX6_init_19 rfl (r_iload C 4 dX6_init_20 rfl (rp_X6_X6_height C dX6_init_22 hnm hu_s e8 hu_hu.symm (r_vret C hQ dX6_init_25 rfl ⟨Nat.le_of_ble_eq_true rfl, Nat.le_of_ble_eq_true rfl⟩ ⟨_, rfl, w⟩))))))))))))))
def rm_X6_isAnyShown : Room := { frames := 5, cells := 0, slots := 0, locals := 117 }
theorem mt_X6_isAnyShown : gMt yX6_isAnyShown cX6_isAnyShown 5 (some .boolean) 2 := ⟨tw752, tw80, by decide +kernel, by decide +kernel, by decide +kernel⟩
def wp_X6_isAnyShown_3 (a : Nat) (p0 : Nat) (p1 : Int64) (g : GH) (post : Int32 → Prop) : Nat → Int32 → Prop
  | 0, _ => False
  | n + 1, x4 =>
    ((40 ≤ x4 → post 0) ∧ (¬ 40 ≤ x4 → ∃ o3, g a = some (7, o3) ∧
    wp_X6_countShown a p0 x4 p1 g (fun r2 =>
    ((r2 ≤ 0 → wp_X6_isAnyShown_3 a p0 p1 g post n (x4 + 1)) ∧ (¬ r2 ≤ 0 → post 1)))))
def wp_X6_isAnyShown (a : Nat) (p0 : Nat) (p1 : Int64) (g : GH)  (post : Int32 → Prop) : Prop :=
wp_X6_isAnyShown_3 a p0 p1 g post 1000 0
set_option maxHeartbeats 4000000 in
set_option maxRecDepth 100000 in
theorem t_X6_isAnyShown_3 {X : gCx} {a : Nat}  {p0 : Nat} {p1 : Int64} {post : Int32 → Prop} {g : GH}   (C : gC X cX6_isAnyShown RX6 (some .boolean) rm_X6_isAnyShown) (hn : xn X = 5) (hQ : gRet X (gQi (xY X) (fun r9 g9 => g9 = g ∧ post r9)) 0 0 ∨ gRex X (gQi (xY X) (fun r9 g9 => g9 = g ∧ post r9)) (fun _ _ => False) 0 0)    : ∀ (n : Nat) (x4 : Int32), wp_X6_isAnyShown_3 a p0 p1 g post n x4 → gX X 0 0 3 [(0, .ref a), (1, .ref p0), (2, .long p1), (4, .int x4)] [] g := by
  intro n
  induction n with
  | zero => intro x4 w; exact w.elim
  | succ n ih =>
    intro x4 w
    unfold wp_X6_isAnyShown_3 at w
    refine r_iload C 3 dX6_isAnyShown_3 rfl (r_bipush C (v := 40) dX6_isAnyShown_5 (by decide) (r_icmp_ge C 29 dX6_isAnyShown_7 (by decide) (fun c1 => ?_) (fun c1 => ?_)))
    · have w := w.1 c1
      exact r_iconst C (v := 0) dX6_isAnyShown_29 (by decide) (r_iret C hQ dX6_isAnyShown_30 rfl rfl ⟨Nat.le_of_ble_eq_true rfl, Nat.le_of_ble_eq_true rfl⟩ ⟨rfl, w⟩)
    · have w := w.2 c1
      obtain ⟨o3, e4, w⟩ := w
      refine r_aload_n C 0 dX6_isAnyShown_10 rfl (r_aload_n C 1 dX6_isAnyShown_11 rfl (r_iload C 3 dX6_isAnyShown_12 rfl (r_lload_n C 2 dX6_isAnyShown_14 rfl (r_goi (r_runV C dX6_isAnyShown_15 (m_X6_countShown w) mt_X6_countShown tw753 tw754 tw755 gcl_7.1 e4 rfl (stk := []) rfl (Nat.le_of_ble_eq_true rfl) ⟨rfl, rfl, ⟨Nat.le_of_ble_eq_true rfl, Nat.le_of_ble_eq_true rfl⟩, ⟨Nat.le_of_ble_eq_true rfl, Nat.le_of_ble_eq_true rfl⟩⟩) ?_))))
      intro r2 h5 hp
      obtain ⟨e9, w⟩ := hp
      rw [e9]
      refine r_if_le C 23 dX6_isAnyShown_18 (by decide) (fun c6 => ?_) (fun c6 => ?_)
      · have w := w.1 c6
        exact r_iinc C (v := x4 + 1) 3 dX6_isAnyShown_23 rfl rfl (nlt hn (by decide)) rfl (r_goto C 3 dX6_isAnyShown_26 (by decide) (r_sub [1, 2, 3, 0] rfl (ih _ w)))
      · have w := w.2 c6
        exact r_iconst C (v := 1) dX6_isAnyShown_21 (by decide) (r_iret C hQ dX6_isAnyShown_22 rfl rfl ⟨Nat.le_of_ble_eq_true rfl, Nat.le_of_ble_eq_true rfl⟩ ⟨rfl, w⟩)
set_option maxHeartbeats 4000000 in
set_option maxRecDepth 100000 in
theorem m_X6_isAnyShown {Y : gWx} {a : Nat}  {p0 : Nat} {p1 : Int64} {post : Int32 → Prop} {g : GH}     (w : wp_X6_isAnyShown a p0 p1 g post) : gMet Y yX6_isAnyShown cX6_isAnyShown 5 (some .boolean) rm_X6_isAnyShown [.ref a, .ref p0, .long p1] g (gQi Y (fun r9 g9 => g9 = g ∧ post r9)) 0 0 := by
  refine gm_of rfl (Nat.le_of_ble_eq_true rfl) ?_
  intro X hY hn C hnm hQ
  subst hY
  have hQ : gRet X (gQi (xY X) (fun r9 g9 => g9 = g ∧ post r9)) 0 0 ∨ gRex X (gQi (xY X) (fun r9 g9 => g9 = g ∧ post r9)) (fun _ _ => False) 0 0 := Or.inl hQ
  have C : gC X cX6_isAnyShown RX6 (some .boolean) rm_X6_isAnyShown := C
  show gX X 0 0 0 [(0, .ref a), (1, .ref p0), (2, .long p1)] [] g
  unfold wp_X6_isAnyShown at w
  exact r_iconst C (v := 0) dX6_isAnyShown_0 (by decide) (r_istore C dX6_isAnyShown_1 (nlt hn (by decide)) rfl (r_sub [1, 2, 3, 0] rfl (t_X6_isAnyShown_3 C hn hQ 1000 _ w)))
