def rm_X8_sells : Room := { frames := 0, cells := 0, slots := 0, locals := 0 }
theorem mt_X8_sells : gMt yX8_sells cX8_sells 4 none 3 := ⟨tw1412, tw64, by decide +kernel, by decide +kernel, by decide +kernel⟩
def wp_X8_sells (p0 : Int32) (p1 : Int32) (p2 : Int32) (o : FO) (post : FO → Prop) : Prop :=
vp_in p0 160 ∧
∀ o2, o2 = sA o 42 p0.toNatClampNeg 1 →
vp_in p0 160 ∧
∀ o5, o5 = sA o2 43 p0.toNatClampNeg p1 →
vp_in p0 160 ∧
∀ o8, o8 = sA o5 44 p0.toNatClampNeg p2 →
vp_in p1 8 ∧
vp_in p1 8 ∧
∀ o12, o12 = sA o8 47 p1.toNatClampNeg ((fA o8 47 p1.toNatClampNeg) - p2) →
post o12
set_option maxHeartbeats 4000000 in
set_option maxRecDepth 100000 in
theorem m_X8_sells {Y : gWx} {a : Nat}  {p0 : Int32} {p1 : Int32} {p2 : Int32} {post : FO → Prop} {g : GH}  {o : FO} (hg : g a = some (9, o))    (w : wp_X8_sells p0 p1 p2 o post) : gMet Y yX8_sells cX8_sells 4 none rm_X8_sells [.ref a, .int p0, .int p1, .int p2] g (gQv Y (fun  g9 => ∃ o9, g9 = hu g a (9, o9) ∧ post  o9)) 0 0 := by
  refine gm_of rfl (Nat.le_of_ble_eq_true rfl) ?_
  intro X hY hn C hnm hQ
  subst hY
  have hQ : gRet X (gQv (xY X) (fun  g9 => ∃ o9, g9 = hu g a (9, o9) ∧ post  o9)) 0 0 ∨ gRex X (gQv (xY X) (fun  g9 => ∃ o9, g9 = hu g a (9, o9) ∧ post  o9)) (fun _ _ => False) 0 0 := Or.inl hQ
  have C : gC X cX8_sells RX8 none rm_X8_sells := C
  refine gX_eq (hu_id hg).symm ?_
  show gX X 0 0 0 [(0, .ref a), (1, .int p0), (2, .int p1), (3, .int p2)] [] (hu g a (9, o))
  unfold wp_X8_sells at w
  obtain ⟨i1, w⟩ := w
  obtain ⟨o2, e3⟩ : ∃ z, z = sA o 42 p0.toNatClampNeg 1 := ⟨_, rfl⟩
  have w := w o2 e3
  obtain ⟨i4, w⟩ := w
  obtain ⟨o5, e6⟩ : ∃ z, z = sA o2 43 p0.toNatClampNeg p1 := ⟨_, rfl⟩
  have w := w o5 e6
  obtain ⟨i7, w⟩ := w
  obtain ⟨o8, e9⟩ : ∃ z, z = sA o5 44 p0.toNatClampNeg p2 := ⟨_, rfl⟩
  have w := w o8 e9
  obtain ⟨i10, w⟩ := w
  obtain ⟨i11, w⟩ := w
  obtain ⟨o12, e13⟩ : ∃ z, z = sA o8 47 p1.toNatClampNeg ((fA o8 47 p1.toNatClampNeg) - p2) := ⟨_, rfl⟩
  have w := w o12 e13
  exact r_aload_n C 0 dX8_sells_0 rfl (rg_X8_X8_state C dX8_sells_1 hu_s (r_iload_n C 1 dX8_sells_4 rfl (r_iconst C (v := 1) dX8_sells_5 (by decide) (r_iast (ci := 9) (k := 42) C dX8_sells_6 rfl rfl hu_s i1 e3 hu_hu.symm (r_aload_n C 0 dX8_sells_7 rfl (rg_X8_X8_owner C dX8_sells_8 hu_s (r_iload_n C 1 dX8_sells_11 rfl (r_iload_n C 2 dX8_sells_12 rfl (r_iast (ci := 9) (k := 43) C dX8_sells_13 rfl rfl hu_s i4 e6 hu_hu.symm (r_aload_n C 0 dX8_sells_14 rfl (rg_X8_X8_cost C dX8_sells_15 hu_s (r_iload_n C 1 dX8_sells_18 rfl (r_iload_n C 3 dX8_sells_19 rfl (r_iast (ci := 9) (k := 44) C dX8_sells_20 rfl rfl hu_s i7 e9 hu_hu.symm (r_aload_n C 0 dX8_sells_21 rfl (rg_X8_X8_purse C dX8_sells_22 hu_s (r_iload_n C 2 dX8_sells_25 rfl (r_dup2 C dX8_sells_26 rfl rfl (r_iald (ci := 9) (k := 47) C dX8_sells_27 rfl rfl hu_s i10 (r_iload_n C 3 dX8_sells_28 rfl (r_isub C dX8_sells_29 (r_iast (ci := 9) (k := 47) C dX8_sells_30 rfl rfl hu_s i11 e13 hu_hu.symm (r_vret C hQ dX8_sells_31 rfl ⟨Nat.le_of_ble_eq_true rfl, Nat.le_of_ble_eq_true rfl⟩ ⟨_, rfl, w⟩)))))))))))))))))))))))
def rm_X8_sell : Room := { frames := 2, cells := 0, slots := 0, locals := 43 }
theorem mt_X8_sell : gMt yX8_sell cX8_sell 4 (some .int) 2 := ⟨tw1405, tw64, by decide +kernel, by decide +kernel, by decide +kernel⟩
def wp_X8_sell_90 (p0 : Int32) (p1 : Int32) (post : Int32 → FO → Prop) (x3 : Int32) (y1 : Int32) (o : FO) : Prop :=
∀ o18, o18 = sI o 0 y1 →
(((fI o18 0) ≤ 0 → vp_in p0 8 ∧
∀ o22, o22 = sA o18 34 p0.toNatClampNeg (vp_nar .boolean 1) →
vp_in p0 8 ∧
wp_X8_sells ((20 * p0) + x3) p1 (fA o22 32 p0.toNatClampNeg) o22 (fun o25 =>
vp_in p0 8 ∧
∀ o28, o28 = sI o25 48 ((fI o25 48) + ((fA o25 32 p0.toNatClampNeg) / 10)) →
vp_in p0 8 ∧
vp_in p0 8 ∧
wp_X8_shares p0 ((fA o28 32 p0.toNatClampNeg) - ((fA o28 32 p0.toNatClampNeg) / 10)) o28 (fun o32 =>
post x3 o32))) ∧ (¬ (fI o18 0) ≤ 0 → post 0 o18))
def wp_X8_sell_85 (p0 : Int32) (p1 : Int32) (post : Int32 → FO → Prop) (x3 : Int32) (o : FO) : Prop :=
wp_X8_sell_90 p0 p1 post x3 2 o
def wp_X8_sell_65 (p0 : Int32) (p1 : Int32) (post : Int32 → FO → Prop) (x3 : Int32) (o : FO) : Prop :=
vp_in p0 8 ∧
((¬ (fA o 33 p0.toNatClampNeg) = 0 → wp_X8_sell_85 p0 p1 post x3 o) ∧ ((fA o 33 p0.toNatClampNeg) = 0 → vp_in p0 8 ∧
((¬ x3 = (fA o 31 p0.toNatClampNeg) → wp_X8_sell_90 p0 p1 post x3 0 o) ∧ (x3 = (fA o 31 p0.toNatClampNeg) → wp_X8_sell_85 p0 p1 post x3 o))))
def wp_X8_sell_35 (p0 : Int32) (p1 : Int32) (post : Int32 → FO → Prop) : Nat → Int32 → FO → Prop
  | 0, _, _ => False
  | n + 1, x3, o =>
    vp_in p0 8 ∧
    (((fA o 31 p0.toNatClampNeg) ≤ x3 → wp_X8_sell_65 p0 p1 post x3 o) ∧ (¬ (fA o 31 p0.toNatClampNeg) ≤ x3 → vp_in ((20 * p0) + x3) 160 ∧
    (((fA o 42 ((20 * p0) + x3).toNatClampNeg) = 0 → wp_X8_sell_65 p0 p1 post x3 o) ∧ (¬ (fA o 42 ((20 * p0) + x3).toNatClampNeg) = 0 → wp_X8_sell_35 p0 p1 post n (x3 + 1) o))))
def wp_X8_sell_21 (p0 : Int32) (p1 : Int32) (post : Int32 → FO → Prop) (y1 : Int32) (o : FO) : Prop :=
∀ o7, o7 = sI o 0 y1 →
(((fI o7 0) ≤ 0 → wp_X8_sell_35 p0 p1 post 1000 0 o7) ∧ (¬ (fI o7 0) ≤ 0 → post 0 o7))
def wp_X8_sell_20 (p0 : Int32) (p1 : Int32) (post : Int32 → FO → Prop)  (o : FO) : Prop :=
wp_X8_sell_21 p0 p1 post 1 o
def wp_X8_sell (p0 : Int32) (p1 : Int32) (o : FO) (post : Int32 → FO → Prop) : Prop :=
wp_X8_isEdition p0 o (fun r1 =>
((r1 = 0 → wp_X8_sell_20 p0 p1 post o) ∧ (¬ r1 = 0 → wp_X8_isBuyer p1 (fun r4 =>
((r4 = 0 → wp_X8_sell_20 p0 p1 post o) ∧ (¬ r4 = 0 → wp_X8_sell_21 p0 p1 post 0 o))))))
set_option maxHeartbeats 4000000 in
set_option maxRecDepth 100000 in
theorem t_X8_sell_90 {X : gCx} {a : Nat}  {p0 : Int32} {p1 : Int32} {post : Int32 → FO → Prop} {g : GH}   (C : gC X cX8_sell RX8 (some .int) rm_X8_sell) (hn : xn X = 4) (hQ : gRet X (gQi (xY X) (fun r9 g9 => ∃ o9, g9 = hu g a (9, o9) ∧ post r9 o9)) 0 0 ∨ gRex X (gQi (xY X) (fun r9 g9 => ∃ o9, g9 = hu g a (9, o9) ∧ post r9 o9)) (fun _ _ => False) 0 0)    : ∀ (x3 : Int32) (y1 : Int32) (o : FO), wp_X8_sell_90 p0 p1 post x3 y1 o → gX X 0 0 90 [(0, .ref a), (1, .int p0), (2, .int p1), (3, .int x3)] [.int y1, .ref a] (hu g a (9, o)) := by
  intro x3 y1 o w
  unfold wp_X8_sell_90 at w
  obtain ⟨o18, e19⟩ : ∃ z, z = sI o 0 y1 := ⟨_, rfl⟩
  have w := w o18 e19
  refine rp_X8_X8_thrown C dX8_sell_90 hu_s e19 hu_hu.symm (r_aload_n C 0 dX8_sell_93 rfl (rg_X8_X8_thrown C dX8_sell_94 hu_s (r_if_le C 102 dX8_sell_97 (by decide) (fun c20 => ?_) (fun c20 => ?_))))
  · have w := w.1 c20
    obtain ⟨i21, w⟩ := w
    obtain ⟨o22, e23⟩ : ∃ z, z = sA o18 34 p0.toNatClampNeg (vp_nar .boolean 1) := ⟨_, rfl⟩
    have w := w o22 e23
    obtain ⟨i24, w⟩ := w
    refine r_aload_n C 0 dX8_sell_102 rfl (rg_X8_X8_wasSold C dX8_sell_103 hu_s (r_iload_n C 1 dX8_sell_106 rfl (r_iconst C (v := 1) dX8_sell_107 (by decide) (r_zast (ci := 9) (k := 34) C dX8_sell_108 rfl rfl hu_s i21 e23 hu_hu.symm (r_aload_n C 0 dX8_sell_109 rfl (r_bipush C (v := 20) dX8_sell_110 (by decide) (r_iload_n C 1 dX8_sell_112 rfl (r_imul C dX8_sell_113 (r_iload_n C 3 dX8_sell_114 rfl (r_iadd C dX8_sell_115 (r_iload_n C 2 dX8_sell_116 rfl (r_aload_n C 0 dX8_sell_117 rfl (rg_X8_X8_price C dX8_sell_118 hu_s (r_iload_n C 1 dX8_sell_121 rfl (r_iald (ci := 9) (k := 32) C dX8_sell_122 rfl rfl hu_s i24 (r_gov (r_runV C dX8_sell_123 (m_X8_sells hu_s w) mt_X8_sells tw1409 tw1411 tw54 gcl_9.1 hu_s rfl (stk := []) rfl (Nat.le_of_ble_eq_true rfl) ⟨rfl, rfl, ⟨Nat.le_of_ble_eq_true rfl, Nat.le_of_ble_eq_true rfl⟩, ⟨Nat.le_of_ble_eq_true rfl, Nat.le_of_ble_eq_true rfl⟩⟩) ?_))))))))))))))))
    intro  h26 hp
    obtain ⟨o25, rfl, w⟩ := hp
    refine gX_eq hu_hu ?_
    obtain ⟨i27, w⟩ := w
    obtain ⟨o28, e29⟩ : ∃ z, z = sI o25 48 ((fI o25 48) + ((fA o25 32 p0.toNatClampNeg) / 10)) := ⟨_, rfl⟩
    have w := w o28 e29
    obtain ⟨i30, w⟩ := w
    obtain ⟨i31, w⟩ := w
    refine r_aload_n C 0 dX8_sell_126 rfl (r_dup C dX8_sell_127 rfl (rg_X8_X8_house C dX8_sell_128 hu_s (r_aload_n C 0 dX8_sell_131 rfl (rg_X8_X8_price C dX8_sell_132 hu_s (r_iload_n C 1 dX8_sell_135 rfl (r_iald (ci := 9) (k := 32) C dX8_sell_136 rfl rfl hu_s i27 (r_bipush C (v := 10) dX8_sell_137 (by decide) (r_idiv C dX8_sell_139 (by decide) (r_iadd C dX8_sell_140 (rp_X8_X8_house C dX8_sell_141 hu_s e29 hu_hu.symm (r_aload_n C 0 dX8_sell_144 rfl (r_iload_n C 1 dX8_sell_145 rfl (r_aload_n C 0 dX8_sell_146 rfl (rg_X8_X8_price C dX8_sell_147 hu_s (r_iload_n C 1 dX8_sell_150 rfl (r_iald (ci := 9) (k := 32) C dX8_sell_151 rfl rfl hu_s i30 (r_aload_n C 0 dX8_sell_152 rfl (rg_X8_X8_price C dX8_sell_153 hu_s (r_iload_n C 1 dX8_sell_156 rfl (r_iald (ci := 9) (k := 32) C dX8_sell_157 rfl rfl hu_s i31 (r_bipush C (v := 10) dX8_sell_158 (by decide) (r_idiv C dX8_sell_160 (by decide) (r_isub C dX8_sell_161 (r_gov (r_runV C dX8_sell_162 (m_X8_shares hu_s w) mt_X8_shares tw1413 tw1415 tw55 gcl_9.1 hu_s rfl (stk := []) rfl (Nat.le_of_ble_eq_true rfl) ⟨rfl, rfl, ⟨Nat.le_of_ble_eq_true rfl, Nat.le_of_ble_eq_true rfl⟩, ⟨Nat.le_of_ble_eq_true rfl, Nat.le_of_ble_eq_true rfl⟩⟩) ?_))))))))))))))))))))))))
    intro  h33 hp
    obtain ⟨o32, rfl, w⟩ := hp
    refine gX_eq hu_hu ?_
    exact r_iload_n C 3 dX8_sell_165 rfl (r_iret C hQ dX8_sell_166 rfl (vp_nar_int _) ⟨Nat.le_of_ble_eq_true rfl, Nat.le_of_ble_eq_true rfl⟩ ⟨_, rfl, w⟩)
  · have w := w.2 c20
    exact r_iconst C (v := 0) dX8_sell_100 (by decide) (r_iret C hQ dX8_sell_101 rfl (vp_nar_int _) ⟨Nat.le_of_ble_eq_true rfl, Nat.le_of_ble_eq_true rfl⟩ ⟨_, rfl, w⟩)
set_option maxHeartbeats 4000000 in
set_option maxRecDepth 100000 in
theorem t_X8_sell_85 {X : gCx} {a : Nat}  {p0 : Int32} {p1 : Int32} {post : Int32 → FO → Prop} {g : GH}   (C : gC X cX8_sell RX8 (some .int) rm_X8_sell) (hn : xn X = 4) (hQ : gRet X (gQi (xY X) (fun r9 g9 => ∃ o9, g9 = hu g a (9, o9) ∧ post r9 o9)) 0 0 ∨ gRex X (gQi (xY X) (fun r9 g9 => ∃ o9, g9 = hu g a (9, o9) ∧ post r9 o9)) (fun _ _ => False) 0 0)    : ∀ (x3 : Int32) (o : FO), wp_X8_sell_85 p0 p1 post x3 o → gX X 0 0 85 [(0, .ref a), (1, .int p0), (2, .int p1), (3, .int x3)] [.ref a] (hu g a (9, o)) := by
  intro x3 o w
  unfold wp_X8_sell_85 at w
  exact r_iconst C (v := 2) dX8_sell_85 (by decide) (r_goto C 90 dX8_sell_86 (by decide) (r_sub [0, 1, 2, 3] rfl (t_X8_sell_90 C hn hQ _ _ _ w)))
set_option maxHeartbeats 4000000 in
set_option maxRecDepth 100000 in
theorem t_X8_sell_65 {X : gCx} {a : Nat}  {p0 : Int32} {p1 : Int32} {post : Int32 → FO → Prop} {g : GH}   (C : gC X cX8_sell RX8 (some .int) rm_X8_sell) (hn : xn X = 4) (hQ : gRet X (gQi (xY X) (fun r9 g9 => ∃ o9, g9 = hu g a (9, o9) ∧ post r9 o9)) 0 0 ∨ gRex X (gQi (xY X) (fun r9 g9 => ∃ o9, g9 = hu g a (9, o9) ∧ post r9 o9)) (fun _ _ => False) 0 0)    : ∀ (x3 : Int32) (o : FO), wp_X8_sell_65 p0 p1 post x3 o → gX X 0 0 65 [(0, .ref a), (1, .int p0), (2, .int p1), (3, .int x3)] [] (hu g a (9, o)) := by
  intro x3 o w
  unfold wp_X8_sell_65 at w
  obtain ⟨i14, w⟩ := w
  refine r_aload_n C 0 dX8_sell_65 rfl (r_aload_n C 0 dX8_sell_66 rfl (rg_X8_X8_isWithdrawn C dX8_sell_67 hu_s (r_iload_n C 1 dX8_sell_70 rfl (r_zald (ci := 9) (k := 33) C dX8_sell_71 rfl rfl hu_s i14 (r_if_ne C 85 dX8_sell_72 (by decide) (fun c15 => ?_) (fun c15 => ?_))))))
  · have w := w.1 c15
    exact r_sub [0, 1, 2, 3] rfl (t_X8_sell_85 C hn hQ _ _ w)
  · have w := w.2 c15
    obtain ⟨i16, w⟩ := w
    refine r_iload_n C 3 dX8_sell_75 rfl (r_aload_n C 0 dX8_sell_76 rfl (rg_X8_X8_copies C dX8_sell_77 hu_s (r_iload_n C 1 dX8_sell_80 rfl (r_iald (ci := 9) (k := 31) C dX8_sell_81 rfl rfl hu_s i16 (r_icmp_ne C 89 dX8_sell_82 (by decide) (fun c17 => ?_) (fun c17 => ?_))))))
    · have w := w.1 c17
      exact r_iconst C (v := 0) dX8_sell_89 (by decide) (r_sub [0, 1, 2, 3] rfl (t_X8_sell_90 C hn hQ _ _ _ w))
    · have w := w.2 c17
      exact r_sub [0, 1, 2, 3] rfl (t_X8_sell_85 C hn hQ _ _ w)
set_option maxHeartbeats 4000000 in
set_option maxRecDepth 100000 in
theorem t_X8_sell_35 {X : gCx} {a : Nat}  {p0 : Int32} {p1 : Int32} {post : Int32 → FO → Prop} {g : GH}   (C : gC X cX8_sell RX8 (some .int) rm_X8_sell) (hn : xn X = 4) (hQ : gRet X (gQi (xY X) (fun r9 g9 => ∃ o9, g9 = hu g a (9, o9) ∧ post r9 o9)) 0 0 ∨ gRex X (gQi (xY X) (fun r9 g9 => ∃ o9, g9 = hu g a (9, o9) ∧ post r9 o9)) (fun _ _ => False) 0 0)    : ∀ (n : Nat) (x3 : Int32) (o : FO), wp_X8_sell_35 p0 p1 post n x3 o → gX X 0 0 35 [(0, .ref a), (1, .int p0), (2, .int p1), (3, .int x3)] [] (hu g a (9, o)) := by
  intro n
  induction n with
  | zero => intro x3 o w; exact w.elim
  | succ n ih =>
    intro x3 o w
    unfold wp_X8_sell_35 at w
    obtain ⟨i10, w⟩ := w
    refine r_iload_n C 3 dX8_sell_35 rfl (r_aload_n C 0 dX8_sell_36 rfl (rg_X8_X8_copies C dX8_sell_37 hu_s (r_iload_n C 1 dX8_sell_40 rfl (r_iald (ci := 9) (k := 31) C dX8_sell_41 rfl rfl hu_s i10 (r_icmp_ge C 65 dX8_sell_42 (by decide) (fun c11 => ?_) (fun c11 => ?_))))))
    · have w := w.1 c11
      exact r_sub [0, 1, 2, 3] rfl (t_X8_sell_65 C hn hQ _ _ w)
    · have w := w.2 c11
      obtain ⟨i12, w⟩ := w
      refine r_aload_n C 0 dX8_sell_45 rfl (rg_X8_X8_state C dX8_sell_46 hu_s (r_bipush C (v := 20) dX8_sell_49 (by decide) (r_iload_n C 1 dX8_sell_51 rfl (r_imul C dX8_sell_52 (r_iload_n C 3 dX8_sell_53 rfl (r_iadd C dX8_sell_54 (r_iald (ci := 9) (k := 42) C dX8_sell_55 rfl rfl hu_s i12 (r_if_eq C 65 dX8_sell_56 (by decide) (fun c13 => ?_) (fun c13 => ?_)))))))))
      · have w := w.1 c13
        exact r_sub [0, 1, 2, 3] rfl (t_X8_sell_65 C hn hQ _ _ w)
      · have w := w.2 c13
        exact r_iinc C (v := x3 + 1) 3 dX8_sell_59 rfl rfl (nlt hn (by decide)) rfl (r_goto C 35 dX8_sell_62 (by decide) (r_sub [1, 2, 3, 0] rfl (ih _ _ w)))
set_option maxHeartbeats 4000000 in
set_option maxRecDepth 100000 in
theorem t_X8_sell_21 {X : gCx} {a : Nat}  {p0 : Int32} {p1 : Int32} {post : Int32 → FO → Prop} {g : GH}   (C : gC X cX8_sell RX8 (some .int) rm_X8_sell) (hn : xn X = 4) (hQ : gRet X (gQi (xY X) (fun r9 g9 => ∃ o9, g9 = hu g a (9, o9) ∧ post r9 o9)) 0 0 ∨ gRex X (gQi (xY X) (fun r9 g9 => ∃ o9, g9 = hu g a (9, o9) ∧ post r9 o9)) (fun _ _ => False) 0 0)    : ∀ (y1 : Int32) (o : FO), wp_X8_sell_21 p0 p1 post y1 o → gX X 0 0 21 [(0, .ref a), (1, .int p0), (2, .int p1)] [.int y1, .ref a] (hu g a (9, o)) := by
  intro y1 o w
  unfold wp_X8_sell_21 at w
  obtain ⟨o7, e8⟩ : ∃ z, z = sI o 0 y1 := ⟨_, rfl⟩
  have w := w o7 e8
  refine rp_X8_X8_thrown C dX8_sell_21 hu_s e8 hu_hu.symm (r_aload_n C 0 dX8_sell_24 rfl (rg_X8_X8_thrown C dX8_sell_25 hu_s (r_if_le C 33 dX8_sell_28 (by decide) (fun c9 => ?_) (fun c9 => ?_))))
  · have w := w.1 c9
    exact r_iconst C (v := 0) dX8_sell_33 (by decide) (r_istore_n C dX8_sell_34 (nlt hn (by decide)) rfl (r_sub [1, 2, 3, 0] rfl (t_X8_sell_35 C hn hQ 1000 _ _ w)))
  · have w := w.2 c9
    exact r_iconst C (v := 0) dX8_sell_31 (by decide) (r_iret C hQ dX8_sell_32 rfl (vp_nar_int _) ⟨Nat.le_of_ble_eq_true rfl, Nat.le_of_ble_eq_true rfl⟩ ⟨_, rfl, w⟩)
set_option maxHeartbeats 4000000 in
set_option maxRecDepth 100000 in
theorem t_X8_sell_20 {X : gCx} {a : Nat}  {p0 : Int32} {p1 : Int32} {post : Int32 → FO → Prop} {g : GH}   (C : gC X cX8_sell RX8 (some .int) rm_X8_sell) (hn : xn X = 4) (hQ : gRet X (gQi (xY X) (fun r9 g9 => ∃ o9, g9 = hu g a (9, o9) ∧ post r9 o9)) 0 0 ∨ gRex X (gQi (xY X) (fun r9 g9 => ∃ o9, g9 = hu g a (9, o9) ∧ post r9 o9)) (fun _ _ => False) 0 0)    : ∀ (o : FO), wp_X8_sell_20 p0 p1 post o → gX X 0 0 20 [(0, .ref a), (1, .int p0), (2, .int p1)] [.ref a] (hu g a (9, o)) := by
  intro o w
  unfold wp_X8_sell_20 at w
  exact r_iconst C (v := 1) dX8_sell_20 (by decide) (r_sub [0, 1, 2] rfl (t_X8_sell_21 C hn hQ _ _ w))
set_option maxHeartbeats 4000000 in
set_option maxRecDepth 100000 in
theorem m_X8_sell {Y : gWx} {a : Nat}  {p0 : Int32} {p1 : Int32} {post : Int32 → FO → Prop} {g : GH}  {o : FO} (hg : g a = some (9, o))    (w : wp_X8_sell p0 p1 o post) : gMet Y yX8_sell cX8_sell 4 (some .int) rm_X8_sell [.ref a, .int p0, .int p1] g (gQi Y (fun r9 g9 => ∃ o9, g9 = hu g a (9, o9) ∧ post r9 o9)) 0 0 := by
  refine gm_of rfl (Nat.le_of_ble_eq_true rfl) ?_
  intro X hY hn C hnm hQ
  subst hY
  have hQ : gRet X (gQi (xY X) (fun r9 g9 => ∃ o9, g9 = hu g a (9, o9) ∧ post r9 o9)) 0 0 ∨ gRex X (gQi (xY X) (fun r9 g9 => ∃ o9, g9 = hu g a (9, o9) ∧ post r9 o9)) (fun _ _ => False) 0 0 := Or.inl hQ
  have C : gC X cX8_sell RX8 (some .int) rm_X8_sell := C
  refine gX_eq (hu_id hg).symm ?_
  show gX X 0 0 0 [(0, .ref a), (1, .int p0), (2, .int p1)] [] (hu g a (9, o))
  unfold wp_X8_sell at w
  refine r_aload_n C 0 dX8_sell_0 rfl (r_aload_n C 0 dX8_sell_1 rfl (r_iload_n C 1 dX8_sell_2 rfl (r_goi (r_runV C dX8_sell_3 (m_X8_isEdition hu_s w) mt_X8_isEdition tw1390 tw1392 tw53 gcl_9.1 hu_s rfl (stk := [.ref a]) rfl (Nat.le_of_ble_eq_true rfl) ⟨rfl, rfl, ⟨Nat.le_of_ble_eq_true rfl, Nat.le_of_ble_eq_true rfl⟩, ⟨Nat.le_of_ble_eq_true rfl, Nat.le_of_ble_eq_true rfl⟩⟩) ?_)))
  intro r1 h2 hp
  obtain ⟨rfl, w⟩ := hp
  refine r_if_eq C 20 dX8_sell_6 (by decide) (fun c3 => ?_) (fun c3 => ?_)
  · have w := w.1 c3
    exact r_sub [0, 1, 2] rfl (t_X8_sell_20 C hn hQ _ w)
  · have w := w.2 c3
    refine r_iload_n C 2 dX8_sell_9 rfl (r_goi (r_runS C dX8_sell_10 (m_X8_isBuyer w) mt_X8_isBuyer tw1406 tw1407 rfl (stk := [.ref a]) rfl (Nat.le_of_ble_eq_true rfl) ⟨rfl, rfl, ⟨Nat.le_of_ble_eq_true rfl, Nat.le_of_ble_eq_true rfl⟩, ⟨Nat.le_of_ble_eq_true rfl, Nat.le_of_ble_eq_true rfl⟩⟩) ?_)
    intro r4 h5 hp
    obtain ⟨rfl, w⟩ := hp
    refine r_if_eq C 20 dX8_sell_13 (by decide) (fun c6 => ?_) (fun c6 => ?_)
    · have w := w.1 c6
      exact r_sub [0, 1, 2] rfl (t_X8_sell_20 C hn hQ _ w)
    · have w := w.2 c6
      exact r_iconst C (v := 0) dX8_sell_16 (by decide) (r_goto C 21 dX8_sell_17 (by decide) (r_sub [0, 1, 2] rfl (t_X8_sell_21 C hn hQ _ _ w)))
def rm_X8_resell : Room := { frames := 3, cells := 0, slots := 0, locals := 65 }
theorem mt_X8_resell : gMt yX8_resell cX8_resell 6 (some .int) 4 := ⟨tw1420, tw64, by decide +kernel, by decide +kernel, by decide +kernel⟩
def wp_X8_resell_85 (p0 : Int32) (p1 : Int32) (p2 : Int32) (p3 : Int32) (post : Int32 → FO → Prop) (x5 : Int32) (y1 : Int32) (o : FO) : Prop :=
∀ o17, o17 = sI o 0 y1 →
(((fI o17 0) ≤ 0 → vp_in x5 160 ∧
vp_in (fA o17 43 x5.toNatClampNeg) 8 ∧
vp_in (fA o17 43 x5.toNatClampNeg) 8 ∧
∀ o23, o23 = sA o17 47 (fA o17 43 x5.toNatClampNeg).toNatClampNeg ((fA o17 47 (fA o17 43 x5.toNatClampNeg).toNatClampNeg) + (p3 - (p3 / 5))) →
wp_X8_sells x5 p2 p3 o23 (fun o25 =>
wp_X8_shares p0 (p3 / 5) o25 (fun o27 =>
post (p3 / 5) o27))) ∧ (¬ (fI o17 0) ≤ 0 → post 0 o17))
def wp_X8_resell_80 (p0 : Int32) (p1 : Int32) (p2 : Int32) (p3 : Int32) (post : Int32 → FO → Prop) (x5 : Int32) (o : FO) : Prop :=
wp_X8_resell_85 p0 p1 p2 p3 post x5 3 o
def wp_X8_resell_37 (p0 : Int32) (p1 : Int32) (p2 : Int32) (p3 : Int32) (post : Int32 → FO → Prop) (y1 : Int32) (o : FO) : Prop :=
∀ o10, o10 = sI o 0 y1 →
(((fI o10 0) ≤ 0 → vp_in ((20 * p0) + p1) 160 ∧
((¬ (fA o10 42 ((20 * p0) + p1).toNatClampNeg) = 1 → wp_X8_resell_80 p0 p1 p2 p3 post ((20 * p0) + p1) o10) ∧ ((fA o10 42 ((20 * p0) + p1).toNatClampNeg) = 1 → vp_in ((20 * p0) + p1) 160 ∧
((¬ (fA o10 43 ((20 * p0) + p1).toNatClampNeg) = p2 → wp_X8_resell_85 p0 p1 p2 p3 post ((20 * p0) + p1) 0 o10) ∧ ((fA o10 43 ((20 * p0) + p1).toNatClampNeg) = p2 → wp_X8_resell_80 p0 p1 p2 p3 post ((20 * p0) + p1) o10))))) ∧ (¬ (fI o10 0) ≤ 0 → post 0 o10))
def wp_X8_resell_17 (p0 : Int32) (p1 : Int32) (p2 : Int32) (p3 : Int32) (post : Int32 → FO → Prop)  (o : FO) : Prop :=
wp_X8_resell_37 p0 p1 p2 p3 post 1 o
def wp_X8_resell (p0 : Int32) (p1 : Int32) (p2 : Int32) (p3 : Int32) (o : FO) (post : Int32 → FO → Prop) : Prop :=
wp_X8_isCopy p0 p1 o (fun r1 =>
((r1 = 0 → wp_X8_resell_17 p0 p1 p2 p3 post o) ∧ (¬ r1 = 0 → wp_X8_isBuyer p2 (fun r4 =>
((¬ r4 = 0 → wp_X8_isIn p3 0 100000 (fun r7 =>
((r7 = 0 → wp_X8_resell_37 p0 p1 p2 p3 post 2 o) ∧ (¬ r7 = 0 → wp_X8_resell_37 p0 p1 p2 p3 post 0 o)))) ∧ (r4 = 0 → wp_X8_resell_17 p0 p1 p2 p3 post o))))))
set_option maxHeartbeats 4000000 in
set_option maxRecDepth 100000 in
theorem t_X8_resell_85 {X : gCx} {a : Nat}  {p0 : Int32} {p1 : Int32} {p2 : Int32} {p3 : Int32} {post : Int32 → FO → Prop} {g : GH}   (C : gC X cX8_resell RX8 (some .int) rm_X8_resell) (hn : xn X = 6) (hQ : gRet X (gQi (xY X) (fun r9 g9 => ∃ o9, g9 = hu g a (9, o9) ∧ post r9 o9)) 0 0 ∨ gRex X (gQi (xY X) (fun r9 g9 => ∃ o9, g9 = hu g a (9, o9) ∧ post r9 o9)) (fun _ _ => False) 0 0)    : ∀ (x5 : Int32) (y1 : Int32) (o : FO), wp_X8_resell_85 p0 p1 p2 p3 post x5 y1 o → gX X 0 0 85 [(0, .ref a), (1, .int p0), (3, .int p2), (4, .int p3), (5, .int x5)] [.int y1, .ref a] (hu g a (9, o)) := by
  intro x5 y1 o w
  unfold wp_X8_resell_85 at w
  obtain ⟨o17, e18⟩ : ∃ z, z = sI o 0 y1 := ⟨_, rfl⟩
  have w := w o17 e18
  refine rp_X8_X8_thrown C dX8_resell_85 hu_s e18 hu_hu.symm (r_aload_n C 0 dX8_resell_88 rfl (rg_X8_X8_thrown C dX8_resell_89 hu_s (r_if_le C 97 dX8_resell_92 (by decide) (fun c19 => ?_) (fun c19 => ?_))))
  · have w := w.1 c19
    obtain ⟨i20, w⟩ := w
    obtain ⟨i21, w⟩ := w
    obtain ⟨i22, w⟩ := w
    obtain ⟨o23, e24⟩ : ∃ z, z = sA o17 47 (fA o17 43 x5.toNatClampNeg).toNatClampNeg ((fA o17 47 (fA o17 43 x5.toNatClampNeg).toNatClampNeg) + (p3 - (p3 / 5))) := ⟨_, rfl⟩
    have w := w o23 e24
    refine r_aload_n C 0 dX8_resell_97 rfl (rg_X8_X8_purse C dX8_resell_98 hu_s (r_aload_n C 0 dX8_resell_101 rfl (rg_X8_X8_owner C dX8_resell_102 hu_s (r_iload C 4 dX8_resell_105 rfl (r_iald (ci := 9) (k := 43) C dX8_resell_107 rfl rfl hu_s i20 (r_dup2 C dX8_resell_108 rfl rfl (r_iald (ci := 9) (k := 47) C dX8_resell_109 rfl rfl hu_s i21 (r_iload C 3 dX8_resell_110 rfl (r_iload C 3 dX8_resell_112 rfl (r_iconst C (v := 5) dX8_resell_114 (by decide) (r_idiv C dX8_resell_115 (by decide) (r_isub C dX8_resell_116 (r_iadd C dX8_resell_117 (r_iast (ci := 9) (k := 47) C dX8_resell_118 rfl rfl hu_s i22 e24 hu_hu.symm (r_aload_n C 0 dX8_resell_119 rfl (r_iload C 4 dX8_resell_120 rfl (r_iload_n C 2 dX8_resell_122 rfl (r_iload C 3 dX8_resell_123 rfl (r_gov (r_runV C dX8_resell_125 (m_X8_sells hu_s w) mt_X8_sells tw1409 tw1411 tw54 gcl_9.1 hu_s rfl (stk := []) rfl (Nat.le_of_ble_eq_true rfl) ⟨rfl, rfl, ⟨Nat.le_of_ble_eq_true rfl, Nat.le_of_ble_eq_true rfl⟩, ⟨Nat.le_of_ble_eq_true rfl, Nat.le_of_ble_eq_true rfl⟩⟩) ?_)))))))))))))))))))
    intro  h26 hp
    obtain ⟨o25, rfl, w⟩ := hp
    refine gX_eq hu_hu ?_
    refine r_aload_n C 0 dX8_resell_128 rfl (r_iload_n C 1 dX8_resell_129 rfl (r_iload C 3 dX8_resell_130 rfl (r_iconst C (v := 5) dX8_resell_132 (by decide) (r_idiv C dX8_resell_133 (by decide) (r_gov (r_runV C dX8_resell_134 (m_X8_shares hu_s w) mt_X8_shares tw1413 tw1415 tw55 gcl_9.1 hu_s rfl (stk := []) rfl (Nat.le_of_ble_eq_true rfl) ⟨rfl, rfl, ⟨Nat.le_of_ble_eq_true rfl, Nat.le_of_ble_eq_true rfl⟩, ⟨Nat.le_of_ble_eq_true rfl, Nat.le_of_ble_eq_true rfl⟩⟩) ?_)))))
    intro  h28 hp
    obtain ⟨o27, rfl, w⟩ := hp
    refine gX_eq hu_hu ?_
    exact r_iload C 3 dX8_resell_137 rfl (r_iconst C (v := 5) dX8_resell_139 (by decide) (r_idiv C dX8_resell_140 (by decide) (r_iret C hQ dX8_resell_141 rfl (vp_nar_int _) ⟨Nat.le_of_ble_eq_true rfl, Nat.le_of_ble_eq_true rfl⟩ ⟨_, rfl, w⟩)))
  · have w := w.2 c19
    exact r_iconst C (v := 0) dX8_resell_95 (by decide) (r_iret C hQ dX8_resell_96 rfl (vp_nar_int _) ⟨Nat.le_of_ble_eq_true rfl, Nat.le_of_ble_eq_true rfl⟩ ⟨_, rfl, w⟩)
set_option maxHeartbeats 4000000 in
set_option maxRecDepth 100000 in
theorem t_X8_resell_80 {X : gCx} {a : Nat}  {p0 : Int32} {p1 : Int32} {p2 : Int32} {p3 : Int32} {post : Int32 → FO → Prop} {g : GH}   (C : gC X cX8_resell RX8 (some .int) rm_X8_resell) (hn : xn X = 6) (hQ : gRet X (gQi (xY X) (fun r9 g9 => ∃ o9, g9 = hu g a (9, o9) ∧ post r9 o9)) 0 0 ∨ gRex X (gQi (xY X) (fun r9 g9 => ∃ o9, g9 = hu g a (9, o9) ∧ post r9 o9)) (fun _ _ => False) 0 0)    : ∀ (x5 : Int32) (o : FO), wp_X8_resell_80 p0 p1 p2 p3 post x5 o → gX X 0 0 80 [(0, .ref a), (1, .int p0), (3, .int p2), (4, .int p3), (5, .int x5)] [.ref a] (hu g a (9, o)) := by
  intro x5 o w
  unfold wp_X8_resell_80 at w
  exact r_iconst C (v := 3) dX8_resell_80 (by decide) (r_goto C 85 dX8_resell_81 (by decide) (r_sub [0, 1, 2, 3, 4] rfl (t_X8_resell_85 C hn hQ _ _ _ w)))
set_option maxHeartbeats 4000000 in
set_option maxRecDepth 100000 in
theorem t_X8_resell_37 {X : gCx} {a : Nat}  {p0 : Int32} {p1 : Int32} {p2 : Int32} {p3 : Int32} {post : Int32 → FO → Prop} {g : GH}   (C : gC X cX8_resell RX8 (some .int) rm_X8_resell) (hn : xn X = 6) (hQ : gRet X (gQi (xY X) (fun r9 g9 => ∃ o9, g9 = hu g a (9, o9) ∧ post r9 o9)) 0 0 ∨ gRex X (gQi (xY X) (fun r9 g9 => ∃ o9, g9 = hu g a (9, o9) ∧ post r9 o9)) (fun _ _ => False) 0 0)    : ∀ (y1 : Int32) (o : FO), wp_X8_resell_37 p0 p1 p2 p3 post y1 o → gX X 0 0 37 [(0, .ref a), (1, .int p0), (2, .int p1), (3, .int p2), (4, .int p3)] [.int y1, .ref a] (hu g a (9, o)) := by
  intro y1 o w
  unfold wp_X8_resell_37 at w
  obtain ⟨o10, e11⟩ : ∃ z, z = sI o 0 y1 := ⟨_, rfl⟩
  have w := w o10 e11
  refine rp_X8_X8_thrown C dX8_resell_37 hu_s e11 hu_hu.symm (r_aload_n C 0 dX8_resell_40 rfl (rg_X8_X8_thrown C dX8_resell_41 hu_s (r_if_le C 49 dX8_resell_44 (by decide) (fun c12 => ?_) (fun c12 => ?_))))
  · have w := w.1 c12
    obtain ⟨i13, w⟩ := w
    refine r_bipush C (v := 20) dX8_resell_49 (by decide) (r_iload_n C 1 dX8_resell_51 rfl (r_imul C dX8_resell_52 (r_iload_n C 2 dX8_resell_53 rfl (r_iadd C dX8_resell_54 (r_istore C dX8_resell_55 (nlt hn (by decide)) rfl (r_aload_n C 1 dX8_resell_57 rfl (r_aload_n C 1 dX8_resell_58 rfl (rg_X8_X8_state C dX8_resell_59 hu_s (r_iload C 0 dX8_resell_62 rfl (r_iald (ci := 9) (k := 42) C dX8_resell_64 rfl rfl hu_s i13 (r_iconst C (v := 1) dX8_resell_65 (by decide) (r_icmp_ne C 80 dX8_resell_66 (by decide) (fun c14 => ?_) (fun c14 => ?_)))))))))))))
    · have w := w.1 c14
      exact r_sub [1, 2, 4, 5, 0] rfl (t_X8_resell_80 C hn hQ _ _ w)
    · have w := w.2 c14
      obtain ⟨i15, w⟩ := w
      refine r_aload_n C 1 dX8_resell_69 rfl (rg_X8_X8_owner C dX8_resell_70 hu_s (r_iload C 0 dX8_resell_73 rfl (r_iald (ci := 9) (k := 43) C dX8_resell_75 rfl rfl hu_s i15 (r_iload_n C 4 dX8_resell_76 rfl (r_icmp_ne C 84 dX8_resell_77 (by decide) (fun c16 => ?_) (fun c16 => ?_))))))
      · have w := w.1 c16
        exact r_iconst C (v := 0) dX8_resell_84 (by decide) (r_sub [1, 2, 4, 5, 0] rfl (t_X8_resell_85 C hn hQ _ _ _ w))
      · have w := w.2 c16
        exact r_sub [1, 2, 4, 5, 0] rfl (t_X8_resell_80 C hn hQ _ _ w)
  · have w := w.2 c12
    exact r_iconst C (v := 0) dX8_resell_47 (by decide) (r_iret C hQ dX8_resell_48 rfl (vp_nar_int _) ⟨Nat.le_of_ble_eq_true rfl, Nat.le_of_ble_eq_true rfl⟩ ⟨_, rfl, w⟩)
set_option maxHeartbeats 4000000 in
set_option maxRecDepth 100000 in
theorem t_X8_resell_17 {X : gCx} {a : Nat}  {p0 : Int32} {p1 : Int32} {p2 : Int32} {p3 : Int32} {post : Int32 → FO → Prop} {g : GH}   (C : gC X cX8_resell RX8 (some .int) rm_X8_resell) (hn : xn X = 6) (hQ : gRet X (gQi (xY X) (fun r9 g9 => ∃ o9, g9 = hu g a (9, o9) ∧ post r9 o9)) 0 0 ∨ gRex X (gQi (xY X) (fun r9 g9 => ∃ o9, g9 = hu g a (9, o9) ∧ post r9 o9)) (fun _ _ => False) 0 0)    : ∀ (o : FO), wp_X8_resell_17 p0 p1 p2 p3 post o → gX X 0 0 17 [(0, .ref a), (1, .int p0), (2, .int p1), (3, .int p2), (4, .int p3)] [.ref a] (hu g a (9, o)) := by
  intro o w
  unfold wp_X8_resell_17 at w
  exact r_iconst C (v := 1) dX8_resell_17 (by decide) (r_goto C 37 dX8_resell_18 (by decide) (r_sub [0, 1, 2, 3, 4] rfl (t_X8_resell_37 C hn hQ _ _ w)))
set_option maxHeartbeats 4000000 in
set_option maxRecDepth 100000 in
theorem m_X8_resell {Y : gWx} {a : Nat}  {p0 : Int32} {p1 : Int32} {p2 : Int32} {p3 : Int32} {post : Int32 → FO → Prop} {g : GH}  {o : FO} (hg : g a = some (9, o))    (w : wp_X8_resell p0 p1 p2 p3 o post) : gMet Y yX8_resell cX8_resell 6 (some .int) rm_X8_resell [.ref a, .int p0, .int p1, .int p2, .int p3] g (gQi Y (fun r9 g9 => ∃ o9, g9 = hu g a (9, o9) ∧ post r9 o9)) 0 0 := by
  refine gm_of rfl (Nat.le_of_ble_eq_true rfl) ?_
  intro X hY hn C hnm hQ
  subst hY
  have hQ : gRet X (gQi (xY X) (fun r9 g9 => ∃ o9, g9 = hu g a (9, o9) ∧ post r9 o9)) 0 0 ∨ gRex X (gQi (xY X) (fun r9 g9 => ∃ o9, g9 = hu g a (9, o9) ∧ post r9 o9)) (fun _ _ => False) 0 0 := Or.inl hQ
  have C : gC X cX8_resell RX8 (some .int) rm_X8_resell := C
  refine gX_eq (hu_id hg).symm ?_
  show gX X 0 0 0 [(0, .ref a), (1, .int p0), (2, .int p1), (3, .int p2), (4, .int p3)] [] (hu g a (9, o))
  unfold wp_X8_resell at w
  refine r_aload_n C 0 dX8_resell_0 rfl (r_aload_n C 0 dX8_resell_1 rfl (r_iload_n C 1 dX8_resell_2 rfl (r_iload_n C 2 dX8_resell_3 rfl (r_goi (r_runV C dX8_resell_4 (m_X8_isCopy hu_s w) mt_X8_isCopy tw1421 tw1423 tw56 gcl_9.1 hu_s rfl (stk := [.ref a]) rfl (Nat.le_of_ble_eq_true rfl) ⟨rfl, rfl, ⟨Nat.le_of_ble_eq_true rfl, Nat.le_of_ble_eq_true rfl⟩, ⟨Nat.le_of_ble_eq_true rfl, Nat.le_of_ble_eq_true rfl⟩⟩) ?_))))
  intro r1 h2 hp
  obtain ⟨rfl, w⟩ := hp
  refine r_if_eq C 17 dX8_resell_7 (by decide) (fun c3 => ?_) (fun c3 => ?_)
  · have w := w.1 c3
    exact r_sub [0, 1, 2, 3, 4] rfl (t_X8_resell_17 C hn hQ _ w)
  · have w := w.2 c3
    refine r_iload_n C 3 dX8_resell_10 rfl (r_goi (r_runS C dX8_resell_11 (m_X8_isBuyer w) mt_X8_isBuyer tw1406 tw1407 rfl (stk := [.ref a]) rfl (Nat.le_of_ble_eq_true rfl) ⟨rfl, rfl, ⟨Nat.le_of_ble_eq_true rfl, Nat.le_of_ble_eq_true rfl⟩, ⟨Nat.le_of_ble_eq_true rfl, Nat.le_of_ble_eq_true rfl⟩⟩) ?_)
    intro r4 h5 hp
    obtain ⟨rfl, w⟩ := hp
    refine r_if_ne C 21 dX8_resell_14 (by decide) (fun c6 => ?_) (fun c6 => ?_)
    · have w := w.1 c6
      refine r_iload C 4 dX8_resell_21 rfl (r_iconst C (v := 0) dX8_resell_23 (by decide) (r_ldc C dX8_resell_24 tw1369 (r_goi (r_runS C dX8_resell_26 (m_X8_isIn w) mt_X8_isIn tw1215 tw1216 rfl (stk := [.ref a]) rfl (Nat.le_of_ble_eq_true rfl) ⟨rfl, rfl, ⟨Nat.le_of_ble_eq_true rfl, Nat.le_of_ble_eq_true rfl⟩, ⟨Nat.le_of_ble_eq_true rfl, Nat.le_of_ble_eq_true rfl⟩⟩) ?_)))
      intro r7 h8 hp
      obtain ⟨rfl, w⟩ := hp
      refine r_if_eq C 36 dX8_resell_29 (by decide) (fun c9 => ?_) (fun c9 => ?_)
      · have w := w.1 c9
        exact r_iconst C (v := 2) dX8_resell_36 (by decide) (r_sub [0, 1, 2, 3, 4] rfl (t_X8_resell_37 C hn hQ _ _ w))
      · have w := w.2 c9
        exact r_iconst C (v := 0) dX8_resell_32 (by decide) (r_goto C 37 dX8_resell_33 (by decide) (r_sub [0, 1, 2, 3, 4] rfl (t_X8_resell_37 C hn hQ _ _ w)))
    · have w := w.2 c6
      exact r_sub [0, 1, 2, 3, 4] rfl (t_X8_resell_17 C hn hQ _ w)
def rm_X8_takeDown : Room := { frames := 3, cells := 0, slots := 0, locals := 75 }
theorem mt_X8_takeDown : gMt yX8_takeDown cX8_takeDown 4 (some .int) 1 := ⟨tw1428, tw64, by decide +kernel, by decide +kernel, by decide +kernel⟩
def wp_X8_takeDown_119 (p0 : Int32) (post : Int32 → FO → Prop) (k57 : Int32 → Int32 → FO → Prop) (x2 : Int32) (x3 : Int32) (o : FO) : Prop :=
k57 x2 (x3 + 1) o
def wp_X8_takeDown_57 (p0 : Int32) (post : Int32 → FO → Prop) : Nat → Int32 → Int32 → FO → Prop
  | 0, _, _, _ => False
  | n + 1, x2, x3, o =>
    ((160 ≤ x3 → vp_in p0 40 ∧
    ∀ o14, o14 = sA o 17 p0.toNatClampNeg (vp_nar .boolean 1) →
    post x2 o14) ∧ (¬ 160 ≤ x3 → (((fI o 25) ≤ (x3 / 20) → wp_X8_takeDown_119 p0 post (fun x2 x3 o => wp_X8_takeDown_57 p0 post n x2 x3 o) x2 x3 o) ∧ (¬ (fI o 25) ≤ (x3 / 20) → vp_in x3 160 ∧
    ((¬ (fA o 42 x3.toNatClampNeg) = 1 → wp_X8_takeDown_119 p0 post (fun x2 x3 o => wp_X8_takeDown_57 p0 post n x2 x3 o) x2 x3 o) ∧ ((fA o 42 x3.toNatClampNeg) = 1 → wp_X8_isViewed (x3 / 20) p0 o (fun r19 =>
    ((r19 = 0 → wp_X8_takeDown_119 p0 post (fun x2 x3 o => wp_X8_takeDown_57 p0 post n x2 x3 o) x2 x3 o) ∧ (¬ r19 = 0 → vp_in x3 160 ∧
    ∀ o23, o23 = sA o 42 x3.toNatClampNeg 2 →
    vp_in p0 40 ∧
    vp_in x3 160 ∧
    ∀ o27, o27 = sA o23 45 x3.toNatClampNeg (fA o23 11 p0.toNatClampNeg) →
    wp_X8_takeDown_119 p0 post (fun x2 x3 o => wp_X8_takeDown_57 p0 post n x2 x3 o) (x2 + 1) x3 o27)))))))))
def wp_X8_takeDown_41 (p0 : Int32) (post : Int32 → FO → Prop) (y1 : Int32) (o : FO) : Prop :=
∀ o9, o9 = sI o 0 y1 →
(((fI o9 0) ≤ 0 → wp_X8_takeDown_57 p0 post 1000 0 0 o9) ∧ (¬ (fI o9 0) ≤ 0 → post 0 o9))
def wp_X8_takeDown_14 (p0 : Int32) (post : Int32 → FO → Prop) (y1 : Int32) (o : FO) : Prop :=
∀ o4, o4 = sI o 0 y1 →
(((fI o4 0) ≤ 0 → vp_in p0 40 ∧
(((fA o4 17 p0.toNatClampNeg) = 0 → wp_X8_takeDown_41 p0 post 0 o4) ∧ (¬ (fA o4 17 p0.toNatClampNeg) = 0 → wp_X8_takeDown_41 p0 post 2 o4))) ∧ (¬ (fI o4 0) ≤ 0 → post 0 o4))
def wp_X8_takeDown (p0 : Int32) (o : FO) (post : Int32 → FO → Prop) : Prop :=
wp_X8_isShape p0 o (fun r1 =>
((r1 = 0 → wp_X8_takeDown_14 p0 post 1 o) ∧ (¬ r1 = 0 → wp_X8_takeDown_14 p0 post 0 o)))
set_option maxHeartbeats 4000000 in
set_option maxRecDepth 100000 in
theorem t_X8_takeDown_119 {X : gCx} {a : Nat}  {p0 : Int32} {post : Int32 → FO → Prop} {g : GH}  {k57 : Int32 → Int32 → FO → Prop} (C : gC X cX8_takeDown RX8 (some .int) rm_X8_takeDown) (hn : xn X = 4) (hQ : gRet X (gQi (xY X) (fun r9 g9 => ∃ o9, g9 = hu g a (9, o9) ∧ post r9 o9)) 0 0 ∨ gRex X (gQi (xY X) (fun r9 g9 => ∃ o9, g9 = hu g a (9, o9) ∧ post r9 o9)) (fun _ _ => False) 0 0)   (hk57 : ∀ (x2 : Int32) (x3 : Int32) (o : FO), k57 x2 x3 o → gX X 0 0 57 [(0, .ref a), (1, .int p0), (2, .int x2), (3, .int x3)] [] (hu g a (9, o))) : ∀ (x2 : Int32) (x3 : Int32) (o : FO), wp_X8_takeDown_119 p0 post k57 x2 x3 o → gX X 0 0 119 [(0, .ref a), (1, .int p0), (2, .int x2), (3, .int x3)] [] (hu g a (9, o)) := by
  intro x2 x3 o w
  unfold wp_X8_takeDown_119 at w
  exact r_iinc C (v := x3 + 1) 3 dX8_takeDown_119 rfl rfl (nlt hn (by decide)) rfl (r_goto C 57 dX8_takeDown_122 (by decide) (r_sub [1, 2, 3, 0] rfl (hk57 _ _ _ w)))
set_option maxHeartbeats 4000000 in
set_option maxRecDepth 100000 in
theorem t_X8_takeDown_57 {X : gCx} {a : Nat}  {p0 : Int32} {post : Int32 → FO → Prop} {g : GH}   (C : gC X cX8_takeDown RX8 (some .int) rm_X8_takeDown) (hn : xn X = 4) (hQ : gRet X (gQi (xY X) (fun r9 g9 => ∃ o9, g9 = hu g a (9, o9) ∧ post r9 o9)) 0 0 ∨ gRex X (gQi (xY X) (fun r9 g9 => ∃ o9, g9 = hu g a (9, o9) ∧ post r9 o9)) (fun _ _ => False) 0 0)    : ∀ (n : Nat) (x2 : Int32) (x3 : Int32) (o : FO), wp_X8_takeDown_57 p0 post n x2 x3 o → gX X 0 0 57 [(0, .ref a), (1, .int p0), (2, .int x2), (3, .int x3)] [] (hu g a (9, o)) := by
  intro n
  induction n with
  | zero => intro x2 x3 o w; exact w.elim
  | succ n ih =>
    intro x2 x3 o w
    unfold wp_X8_takeDown_57 at w
    refine r_iload_n C 3 dX8_takeDown_57 rfl (r_sipush C (v := 160) dX8_takeDown_58 (by decide) (r_icmp_ge C 125 dX8_takeDown_61 (by decide) (fun c12 => ?_) (fun c12 => ?_)))
    · have w := w.1 c12
      obtain ⟨i13, w⟩ := w
      obtain ⟨o14, e15⟩ : ∃ z, z = sA o 17 p0.toNatClampNeg (vp_nar .boolean 1) := ⟨_, rfl⟩
      have w := w o14 e15
      exact r_aload_n C 0 dX8_takeDown_125 rfl (rg_X8_X8_isDown C dX8_takeDown_126 hu_s (r_iload_n C 1 dX8_takeDown_129 rfl (r_iconst C (v := 1) dX8_takeDown_130 (by decide) (r_zast (ci := 9) (k := 17) C dX8_takeDown_131 rfl rfl hu_s i13 e15 hu_hu.symm (r_iload_n C 2 dX8_takeDown_132 rfl (r_iret C hQ dX8_takeDown_133 rfl (vp_nar_int _) ⟨Nat.le_of_ble_eq_true rfl, Nat.le_of_ble_eq_true rfl⟩ ⟨_, rfl, w⟩))))))
    · have w := w.2 c12
      refine r_iload_n C 3 dX8_takeDown_64 rfl (r_bipush C (v := 20) dX8_takeDown_65 (by decide) (r_idiv C dX8_takeDown_67 (by decide) (r_aload_n C 0 dX8_takeDown_68 rfl (rg_X8_X8_editions C dX8_takeDown_69 hu_s (r_icmp_ge C 119 dX8_takeDown_72 (by decide) (fun c16 => ?_) (fun c16 => ?_))))))
      · have w := w.1 c16
        exact r_sub [0, 1, 2, 3] rfl (t_X8_takeDown_119 C hn hQ ih _ _ _ w)
      · have w := w.2 c16
        obtain ⟨i17, w⟩ := w
        refine r_aload_n C 0 dX8_takeDown_75 rfl (rg_X8_X8_state C dX8_takeDown_76 hu_s (r_iload_n C 3 dX8_takeDown_79 rfl (r_iald (ci := 9) (k := 42) C dX8_takeDown_80 rfl rfl hu_s i17 (r_iconst C (v := 1) dX8_takeDown_81 (by decide) (r_icmp_ne C 119 dX8_takeDown_82 (by decide) (fun c18 => ?_) (fun c18 => ?_))))))
        · have w := w.1 c18
          exact r_sub [0, 1, 2, 3] rfl (t_X8_takeDown_119 C hn hQ ih _ _ _ w)
        · have w := w.2 c18
          refine r_aload_n C 0 dX8_takeDown_85 rfl (r_iload_n C 3 dX8_takeDown_86 rfl (r_bipush C (v := 20) dX8_takeDown_87 (by decide) (r_idiv C dX8_takeDown_89 (by decide) (r_iload_n C 1 dX8_takeDown_90 rfl (r_goi (r_runV C dX8_takeDown_91 (m_X8_isViewed hu_s w) mt_X8_isViewed tw1378 tw1380 tw51 gcl_9.1 hu_s rfl (stk := []) rfl (Nat.le_of_ble_eq_true rfl) ⟨rfl, rfl, ⟨Nat.le_of_ble_eq_true rfl, Nat.le_of_ble_eq_true rfl⟩, ⟨Nat.le_of_ble_eq_true rfl, Nat.le_of_ble_eq_true rfl⟩⟩) ?_)))))
          intro r19 h20 hp
          obtain ⟨rfl, w⟩ := hp
          refine r_if_eq C 119 dX8_takeDown_94 (by decide) (fun c21 => ?_) (fun c21 => ?_)
          · have w := w.1 c21
            exact r_sub [0, 1, 2, 3] rfl (t_X8_takeDown_119 C hn hQ ih _ _ _ w)
          · have w := w.2 c21
            obtain ⟨i22, w⟩ := w
            obtain ⟨o23, e24⟩ : ∃ z, z = sA o 42 x3.toNatClampNeg 2 := ⟨_, rfl⟩
            have w := w o23 e24
            obtain ⟨i25, w⟩ := w
            obtain ⟨i26, w⟩ := w
            obtain ⟨o27, e28⟩ : ∃ z, z = sA o23 45 x3.toNatClampNeg (fA o23 11 p0.toNatClampNeg) := ⟨_, rfl⟩
            have w := w o27 e28
            exact r_aload_n C 0 dX8_takeDown_97 rfl (rg_X8_X8_state C dX8_takeDown_98 hu_s (r_iload_n C 3 dX8_takeDown_101 rfl (r_iconst C (v := 2) dX8_takeDown_102 (by decide) (r_iast (ci := 9) (k := 42) C dX8_takeDown_103 rfl rfl hu_s i22 e24 hu_hu.symm (r_aload_n C 0 dX8_takeDown_104 rfl (rg_X8_X8_answerer C dX8_takeDown_105 hu_s (r_iload_n C 3 dX8_takeDown_108 rfl (r_aload_n C 0 dX8_takeDown_109 rfl (rg_X8_X8_maker C dX8_takeDown_110 hu_s (r_iload_n C 1 dX8_takeDown_113 rfl (r_iald (ci := 9) (k := 11) C dX8_takeDown_114 rfl rfl hu_s i25 (r_iast (ci := 9) (k := 45) C dX8_takeDown_115 rfl rfl hu_s i26 e28 hu_hu.symm (r_iinc C (v := x2 + 1) 2 dX8_takeDown_116 rfl rfl (nlt hn (by decide)) rfl (r_sub [1, 2, 0, 3] rfl (t_X8_takeDown_119 C hn hQ ih _ _ _ w)))))))))))))))
set_option maxHeartbeats 4000000 in
set_option maxRecDepth 100000 in
theorem t_X8_takeDown_41 {X : gCx} {a : Nat}  {p0 : Int32} {post : Int32 → FO → Prop} {g : GH}   (C : gC X cX8_takeDown RX8 (some .int) rm_X8_takeDown) (hn : xn X = 4) (hQ : gRet X (gQi (xY X) (fun r9 g9 => ∃ o9, g9 = hu g a (9, o9) ∧ post r9 o9)) 0 0 ∨ gRex X (gQi (xY X) (fun r9 g9 => ∃ o9, g9 = hu g a (9, o9) ∧ post r9 o9)) (fun _ _ => False) 0 0)    : ∀ (y1 : Int32) (o : FO), wp_X8_takeDown_41 p0 post y1 o → gX X 0 0 41 [(0, .ref a), (1, .int p0)] [.int y1, .ref a] (hu g a (9, o)) := by
  intro y1 o w
  unfold wp_X8_takeDown_41 at w
  obtain ⟨o9, e10⟩ : ∃ z, z = sI o 0 y1 := ⟨_, rfl⟩
  have w := w o9 e10
  refine rp_X8_X8_thrown C dX8_takeDown_41 hu_s e10 hu_hu.symm (r_aload_n C 0 dX8_takeDown_44 rfl (rg_X8_X8_thrown C dX8_takeDown_45 hu_s (r_if_le C 53 dX8_takeDown_48 (by decide) (fun c11 => ?_) (fun c11 => ?_))))
  · have w := w.1 c11
    exact r_iconst C (v := 0) dX8_takeDown_53 (by decide) (r_istore_n C dX8_takeDown_54 (nlt hn (by decide)) rfl (r_iconst C (v := 0) dX8_takeDown_55 (by decide) (r_istore_n C dX8_takeDown_56 (nlt hn (by decide)) rfl (r_sub [2, 3, 1, 0] rfl (t_X8_takeDown_57 C hn hQ 1000 _ _ _ w)))))
  · have w := w.2 c11
    exact r_iconst C (v := 0) dX8_takeDown_51 (by decide) (r_iret C hQ dX8_takeDown_52 rfl (vp_nar_int _) ⟨Nat.le_of_ble_eq_true rfl, Nat.le_of_ble_eq_true rfl⟩ ⟨_, rfl, w⟩)
set_option maxHeartbeats 4000000 in
set_option maxRecDepth 100000 in
theorem t_X8_takeDown_14 {X : gCx} {a : Nat}  {p0 : Int32} {post : Int32 → FO → Prop} {g : GH}   (C : gC X cX8_takeDown RX8 (some .int) rm_X8_takeDown) (hn : xn X = 4) (hQ : gRet X (gQi (xY X) (fun r9 g9 => ∃ o9, g9 = hu g a (9, o9) ∧ post r9 o9)) 0 0 ∨ gRex X (gQi (xY X) (fun r9 g9 => ∃ o9, g9 = hu g a (9, o9) ∧ post r9 o9)) (fun _ _ => False) 0 0)    : ∀ (y1 : Int32) (o : FO), wp_X8_takeDown_14 p0 post y1 o → gX X 0 0 14 [(0, .ref a), (1, .int p0)] [.int y1, .ref a] (hu g a (9, o)) := by
  intro y1 o w
  unfold wp_X8_takeDown_14 at w
  obtain ⟨o4, e5⟩ : ∃ z, z = sI o 0 y1 := ⟨_, rfl⟩
  have w := w o4 e5
  refine rp_X8_X8_thrown C dX8_takeDown_14 hu_s e5 hu_hu.symm (r_aload_n C 0 dX8_takeDown_17 rfl (rg_X8_X8_thrown C dX8_takeDown_18 hu_s (r_if_le C 26 dX8_takeDown_21 (by decide) (fun c6 => ?_) (fun c6 => ?_))))
  · have w := w.1 c6
    obtain ⟨i7, w⟩ := w
    refine r_aload_n C 0 dX8_takeDown_26 rfl (r_aload_n C 0 dX8_takeDown_27 rfl (rg_X8_X8_isDown C dX8_takeDown_28 hu_s (r_iload_n C 1 dX8_takeDown_31 rfl (r_zald (ci := 9) (k := 17) C dX8_takeDown_32 rfl rfl hu_s i7 (r_if_eq C 40 dX8_takeDown_33 (by decide) (fun c8 => ?_) (fun c8 => ?_))))))
    · have w := w.1 c8
      exact r_iconst C (v := 0) dX8_takeDown_40 (by decide) (r_sub [0, 1] rfl (t_X8_takeDown_41 C hn hQ _ _ w))
    · have w := w.2 c8
      exact r_iconst C (v := 2) dX8_takeDown_36 (by decide) (r_goto C 41 dX8_takeDown_37 (by decide) (r_sub [0, 1] rfl (t_X8_takeDown_41 C hn hQ _ _ w)))
  · have w := w.2 c6
    exact r_iconst C (v := 0) dX8_takeDown_24 (by decide) (r_iret C hQ dX8_takeDown_25 rfl (vp_nar_int _) ⟨Nat.le_of_ble_eq_true rfl, Nat.le_of_ble_eq_true rfl⟩ ⟨_, rfl, w⟩)
set_option maxHeartbeats 4000000 in
set_option maxRecDepth 100000 in
theorem m_X8_takeDown {Y : gWx} {a : Nat}  {p0 : Int32} {post : Int32 → FO → Prop} {g : GH}  {o : FO} (hg : g a = some (9, o))    (w : wp_X8_takeDown p0 o post) : gMet Y yX8_takeDown cX8_takeDown 4 (some .int) rm_X8_takeDown [.ref a, .int p0] g (gQi Y (fun r9 g9 => ∃ o9, g9 = hu g a (9, o9) ∧ post r9 o9)) 0 0 := by
  refine gm_of rfl (Nat.le_of_ble_eq_true rfl) ?_
  intro X hY hn C hnm hQ
  subst hY
  have hQ : gRet X (gQi (xY X) (fun r9 g9 => ∃ o9, g9 = hu g a (9, o9) ∧ post r9 o9)) 0 0 ∨ gRex X (gQi (xY X) (fun r9 g9 => ∃ o9, g9 = hu g a (9, o9) ∧ post r9 o9)) (fun _ _ => False) 0 0 := Or.inl hQ
  have C : gC X cX8_takeDown RX8 (some .int) rm_X8_takeDown := C
  refine gX_eq (hu_id hg).symm ?_
  show gX X 0 0 0 [(0, .ref a), (1, .int p0)] [] (hu g a (9, o))
  unfold wp_X8_takeDown at w
  refine r_aload_n C 0 dX8_takeDown_0 rfl (r_aload_n C 0 dX8_takeDown_1 rfl (r_iload_n C 1 dX8_takeDown_2 rfl (r_goi (r_runV C dX8_takeDown_3 (m_X8_isShape hu_s w) mt_X8_isShape tw1261 tw1263 tw41 gcl_9.1 hu_s rfl (stk := [.ref a]) rfl (Nat.le_of_ble_eq_true rfl) ⟨rfl, rfl, ⟨Nat.le_of_ble_eq_true rfl, Nat.le_of_ble_eq_true rfl⟩, ⟨Nat.le_of_ble_eq_true rfl, Nat.le_of_ble_eq_true rfl⟩⟩) ?_)))
  intro r1 h2 hp
  obtain ⟨rfl, w⟩ := hp
  refine r_if_eq C 13 dX8_takeDown_6 (by decide) (fun c3 => ?_) (fun c3 => ?_)
  · have w := w.1 c3
    exact r_iconst C (v := 1) dX8_takeDown_13 (by decide) (r_sub [0, 1] rfl (t_X8_takeDown_14 C hn hQ _ _ w))
  · have w := w.2 c3
    exact r_iconst C (v := 0) dX8_takeDown_9 (by decide) (r_goto C 14 dX8_takeDown_10 (by decide) (r_sub [0, 1] rfl (t_X8_takeDown_14 C hn hQ _ _ w)))
def rm_X8_changed : Room := { frames := 3, cells := 0, slots := 0, locals := 65 }
theorem mt_X8_changed : gMt yX8_changed cX8_changed 3 (some .int) 2 := ⟨tw1436, tw64, by decide +kernel, by decide +kernel, by decide +kernel⟩
def wp_X8_changed (p0 : Int32) (p1 : Int32) (o : FO)  (post : Int32 → Prop) : Prop :=
wp_X8_isCopy p0 p1 o (fun r1 =>
((¬ r1 = 0 → vp_in ((20 * p0) + p1) 160 ∧
((¬ (fA o 42 ((20 * p0) + p1).toNatClampNeg) = 2 → post 2) ∧ ((fA o 42 ((20 * p0) + p1).toNatClampNeg) = 2 → post 0))) ∧ (r1 = 0 → post 1)))
set_option maxHeartbeats 4000000 in
set_option maxRecDepth 100000 in
theorem m_X8_changed {Y : gWx} {a : Nat}  {p0 : Int32} {p1 : Int32} {post : Int32 → Prop} {g : GH} {o : FO} (hg : g a = some (9, o))    (w : wp_X8_changed p0 p1 o post) : gMet Y yX8_changed cX8_changed 3 (some .int) rm_X8_changed [.ref a, .int p0, .int p1] g (gQi Y (fun r9 g9 => g9 = g ∧ post r9)) 0 0 := by
  refine gm_of rfl (Nat.le_of_ble_eq_true rfl) ?_
  intro X hY hn C hnm hQ
  subst hY
  have hQ : gRet X (gQi (xY X) (fun r9 g9 => g9 = g ∧ post r9)) 0 0 ∨ gRex X (gQi (xY X) (fun r9 g9 => g9 = g ∧ post r9)) (fun _ _ => False) 0 0 := Or.inl hQ
  have C : gC X cX8_changed RX8 (some .int) rm_X8_changed := C
  show gX X 0 0 0 [(0, .ref a), (1, .int p0), (2, .int p1)] [] g
  unfold wp_X8_changed at w
  refine r_aload_n C 0 dX8_changed_0 rfl (r_iload_n C 1 dX8_changed_1 rfl (r_iload_n C 2 dX8_changed_2 rfl (r_goi (r_runV C dX8_changed_3 (m_X8_isCopy hg w) mt_X8_isCopy tw1421 tw1423 tw56 gcl_9.1 hg rfl (stk := []) rfl (Nat.le_of_ble_eq_true rfl) ⟨rfl, rfl, ⟨Nat.le_of_ble_eq_true rfl, Nat.le_of_ble_eq_true rfl⟩, ⟨Nat.le_of_ble_eq_true rfl, Nat.le_of_ble_eq_true rfl⟩⟩) ?_)))
  intro r1 h2 hp
  obtain ⟨rfl, w⟩ := hp
  refine r_if_ne C 11 dX8_changed_6 (by decide) (fun c3 => ?_) (fun c3 => ?_)
  · have w := w.1 c3
    obtain ⟨i4, w⟩ := w
    refine r_aload_n C 0 dX8_changed_11 rfl (rg_X8_X8_state C dX8_changed_12 hg (r_bipush C (v := 20) dX8_changed_15 (by decide) (r_iload_n C 1 dX8_changed_17 rfl (r_imul C dX8_changed_18 (r_iload_n C 2 dX8_changed_19 rfl (r_iadd C dX8_changed_20 (r_iald (ci := 9) (k := 42) C dX8_changed_21 rfl rfl hg i4 (r_iconst C (v := 2) dX8_changed_22 (by decide) (r_icmp_ne C 30 dX8_changed_23 (by decide) (fun c5 => ?_) (fun c5 => ?_))))))))))
    · have w := w.1 c5
      exact r_iconst C (v := 2) dX8_changed_30 (by decide) (r_iret C hQ dX8_changed_31 rfl (vp_nar_int _) ⟨Nat.le_of_ble_eq_true rfl, Nat.le_of_ble_eq_true rfl⟩ ⟨rfl, w⟩)
    · have w := w.2 c5
      exact r_iconst C (v := 0) dX8_changed_26 (by decide) (r_goto C 31 dX8_changed_27 (by decide) (r_iret C hQ dX8_changed_31 rfl (vp_nar_int _) ⟨Nat.le_of_ble_eq_true rfl, Nat.le_of_ble_eq_true rfl⟩ ⟨rfl, w⟩))
  · have w := w.2 c3
    exact r_iconst C (v := 1) dX8_changed_9 (by decide) (r_iret C hQ dX8_changed_10 rfl (vp_nar_int _) ⟨Nat.le_of_ble_eq_true rfl, Nat.le_of_ble_eq_true rfl⟩ ⟨rfl, w⟩)
def rm_X8_accept : Room := { frames := 4, cells := 0, slots := 0, locals := 87 }
theorem mt_X8_accept : gMt yX8_accept cX8_accept 3 (some .int) 2 := ⟨tw1432, tw64, by decide +kernel, by decide +kernel, by decide +kernel⟩
def wp_X8_accept (p0 : Int32) (p1 : Int32) (o : FO) (post : Int32 → FO → Prop) : Prop :=
wp_X8_changed p0 p1 o (fun r1 =>
∀ o3, o3 = sI o 0 r1 →
(((fI o3 0) ≤ 0 → vp_in ((20 * p0) + p1) 160 ∧
∀ o7, o7 = sA o3 42 ((20 * p0) + p1).toNatClampNeg 1 →
vp_in ((20 * p0) + p1) 160 ∧
post (fA o7 43 ((20 * p0) + p1).toNatClampNeg) o7) ∧ (¬ (fI o3 0) ≤ 0 → post 0 o3)))
set_option maxHeartbeats 4000000 in
set_option maxRecDepth 100000 in
theorem m_X8_accept {Y : gWx} {a : Nat}  {p0 : Int32} {p1 : Int32} {post : Int32 → FO → Prop} {g : GH}  {o : FO} (hg : g a = some (9, o))    (w : wp_X8_accept p0 p1 o post) : gMet Y yX8_accept cX8_accept 3 (some .int) rm_X8_accept [.ref a, .int p0, .int p1] g (gQi Y (fun r9 g9 => ∃ o9, g9 = hu g a (9, o9) ∧ post r9 o9)) 0 0 := by
  refine gm_of rfl (Nat.le_of_ble_eq_true rfl) ?_
  intro X hY hn C hnm hQ
  subst hY
  have hQ : gRet X (gQi (xY X) (fun r9 g9 => ∃ o9, g9 = hu g a (9, o9) ∧ post r9 o9)) 0 0 ∨ gRex X (gQi (xY X) (fun r9 g9 => ∃ o9, g9 = hu g a (9, o9) ∧ post r9 o9)) (fun _ _ => False) 0 0 := Or.inl hQ
  have C : gC X cX8_accept RX8 (some .int) rm_X8_accept := C
  refine gX_eq (hu_id hg).symm ?_
  show gX X 0 0 0 [(0, .ref a), (1, .int p0), (2, .int p1)] [] (hu g a (9, o))
  unfold wp_X8_accept at w
  refine r_aload_n C 0 dX8_accept_0 rfl (r_aload_n C 0 dX8_accept_1 rfl (r_iload_n C 1 dX8_accept_2 rfl (r_iload_n C 2 dX8_accept_3 rfl (r_goi (r_runV C dX8_accept_4 (m_X8_changed hu_s w) mt_X8_changed tw1433 tw1435 tw57 gcl_9.1 hu_s rfl (stk := [.ref a]) rfl (Nat.le_of_ble_eq_true rfl) ⟨rfl, rfl, ⟨Nat.le_of_ble_eq_true rfl, Nat.le_of_ble_eq_true rfl⟩, ⟨Nat.le_of_ble_eq_true rfl, Nat.le_of_ble_eq_true rfl⟩⟩) ?_))))
  intro r1 h2 hp
  obtain ⟨rfl, w⟩ := hp
  obtain ⟨o3, e4⟩ : ∃ z, z = sI o 0 r1 := ⟨_, rfl⟩
  have w := w o3 e4
  refine rp_X8_X8_thrown C dX8_accept_7 hu_s e4 hu_hu.symm (r_aload_n C 0 dX8_accept_10 rfl (rg_X8_X8_thrown C dX8_accept_11 hu_s (r_if_le C 19 dX8_accept_14 (by decide) (fun c5 => ?_) (fun c5 => ?_))))
  · have w := w.1 c5
    obtain ⟨i6, w⟩ := w
    obtain ⟨o7, e8⟩ : ∃ z, z = sA o3 42 ((20 * p0) + p1).toNatClampNeg 1 := ⟨_, rfl⟩
    have w := w o7 e8
    obtain ⟨i9, w⟩ := w
    exact r_aload_n C 0 dX8_accept_19 rfl (rg_X8_X8_state C dX8_accept_20 hu_s (r_bipush C (v := 20) dX8_accept_23 (by decide) (r_iload_n C 1 dX8_accept_25 rfl (r_imul C dX8_accept_26 (r_iload_n C 2 dX8_accept_27 rfl (r_iadd C dX8_accept_28 (r_iconst C (v := 1) dX8_accept_29 (by decide) (r_iast (ci := 9) (k := 42) C dX8_accept_30 rfl rfl hu_s i6 e8 hu_hu.symm (r_aload_n C 0 dX8_accept_31 rfl (rg_X8_X8_owner C dX8_accept_32 hu_s (r_bipush C (v := 20) dX8_accept_35 (by decide) (r_iload_n C 1 dX8_accept_37 rfl (r_imul C dX8_accept_38 (r_iload_n C 2 dX8_accept_39 rfl (r_iadd C dX8_accept_40 (r_iald (ci := 9) (k := 43) C dX8_accept_41 rfl rfl hu_s i9 (r_iret C hQ dX8_accept_42 rfl (vp_nar_int _) ⟨Nat.le_of_ble_eq_true rfl, Nat.le_of_ble_eq_true rfl⟩ ⟨_, rfl, w⟩)))))))))))))))))
  · have w := w.2 c5
    exact r_iconst C (v := 0) dX8_accept_17 (by decide) (r_iret C hQ dX8_accept_18 rfl (vp_nar_int _) ⟨Nat.le_of_ble_eq_true rfl, Nat.le_of_ble_eq_true rfl⟩ ⟨_, rfl, w⟩)
def rm_X8_giveBack : Room := { frames := 4, cells := 0, slots := 0, locals := 87 }
theorem mt_X8_giveBack : gMt yX8_giveBack cX8_giveBack 4 (some .int) 2 := ⟨tw1440, tw64, by decide +kernel, by decide +kernel, by decide +kernel⟩
def wp_X8_giveBack (p0 : Int32) (p1 : Int32) (o : FO) (post : Int32 → FO → Prop) : Prop :=
wp_X8_changed p0 p1 o (fun r1 =>
∀ o3, o3 = sI o 0 r1 →
(((fI o3 0) ≤ 0 → vp_in ((20 * p0) + p1) 160 ∧
∀ o7, o7 = sA o3 42 ((20 * p0) + p1).toNatClampNeg 3 →
vp_in ((20 * p0) + p1) 160 ∧
vp_in (fA o7 43 ((20 * p0) + p1).toNatClampNeg) 8 ∧
vp_in ((20 * p0) + p1) 160 ∧
vp_in (fA o7 43 ((20 * p0) + p1).toNatClampNeg) 8 ∧
∀ o13, o13 = sA o7 47 (fA o7 43 ((20 * p0) + p1).toNatClampNeg).toNatClampNeg ((fA o7 47 (fA o7 43 ((20 * p0) + p1).toNatClampNeg).toNatClampNeg) + (fA o7 44 ((20 * p0) + p1).toNatClampNeg)) →
vp_in ((20 * p0) + p1) 160 ∧
vp_in (fA o13 45 ((20 * p0) + p1).toNatClampNeg) 6 ∧
vp_in ((20 * p0) + p1) 160 ∧
vp_in (fA o13 45 ((20 * p0) + p1).toNatClampNeg) 6 ∧
∀ o19, o19 = sA o13 46 (fA o13 45 ((20 * p0) + p1).toNatClampNeg).toNatClampNeg ((fA o13 46 (fA o13 45 ((20 * p0) + p1).toNatClampNeg).toNatClampNeg) - (fA o13 44 ((20 * p0) + p1).toNatClampNeg)) →
vp_in ((20 * p0) + p1) 160 ∧
post (fA o19 44 ((20 * p0) + p1).toNatClampNeg) o19) ∧ (¬ (fI o3 0) ≤ 0 → post 0 o3)))
set_option maxHeartbeats 4000000 in
set_option maxRecDepth 100000 in
theorem m_X8_giveBack {Y : gWx} {a : Nat}  {p0 : Int32} {p1 : Int32} {post : Int32 → FO → Prop} {g : GH}  {o : FO} (hg : g a = some (9, o))    (w : wp_X8_giveBack p0 p1 o post) : gMet Y yX8_giveBack cX8_giveBack 4 (some .int) rm_X8_giveBack [.ref a, .int p0, .int p1] g (gQi Y (fun r9 g9 => ∃ o9, g9 = hu g a (9, o9) ∧ post r9 o9)) 0 0 := by
  refine gm_of rfl (Nat.le_of_ble_eq_true rfl) ?_
  intro X hY hn C hnm hQ
  subst hY
  have hQ : gRet X (gQi (xY X) (fun r9 g9 => ∃ o9, g9 = hu g a (9, o9) ∧ post r9 o9)) 0 0 ∨ gRex X (gQi (xY X) (fun r9 g9 => ∃ o9, g9 = hu g a (9, o9) ∧ post r9 o9)) (fun _ _ => False) 0 0 := Or.inl hQ
  have C : gC X cX8_giveBack RX8 (some .int) rm_X8_giveBack := C
  refine gX_eq (hu_id hg).symm ?_
  show gX X 0 0 0 [(0, .ref a), (1, .int p0), (2, .int p1)] [] (hu g a (9, o))
  unfold wp_X8_giveBack at w
  refine r_aload_n C 0 dX8_giveBack_0 rfl (r_aload_n C 0 dX8_giveBack_1 rfl (r_iload_n C 1 dX8_giveBack_2 rfl (r_iload_n C 2 dX8_giveBack_3 rfl (r_goi (r_runV C dX8_giveBack_4 (m_X8_changed hu_s w) mt_X8_changed tw1433 tw1435 tw57 gcl_9.1 hu_s rfl (stk := [.ref a]) rfl (Nat.le_of_ble_eq_true rfl) ⟨rfl, rfl, ⟨Nat.le_of_ble_eq_true rfl, Nat.le_of_ble_eq_true rfl⟩, ⟨Nat.le_of_ble_eq_true rfl, Nat.le_of_ble_eq_true rfl⟩⟩) ?_))))
  intro r1 h2 hp
  obtain ⟨rfl, w⟩ := hp
  obtain ⟨o3, e4⟩ : ∃ z, z = sI o 0 r1 := ⟨_, rfl⟩
  have w := w o3 e4
  refine rp_X8_X8_thrown C dX8_giveBack_7 hu_s e4 hu_hu.symm (r_aload_n C 0 dX8_giveBack_10 rfl (rg_X8_X8_thrown C dX8_giveBack_11 hu_s (r_if_le C 19 dX8_giveBack_14 (by decide) (fun c5 => ?_) (fun c5 => ?_))))
  · have w := w.1 c5
    obtain ⟨i6, w⟩ := w
    obtain ⟨o7, e8⟩ : ∃ z, z = sA o3 42 ((20 * p0) + p1).toNatClampNeg 3 := ⟨_, rfl⟩
    have w := w o7 e8
    obtain ⟨i9, w⟩ := w
    obtain ⟨i10, w⟩ := w
    obtain ⟨i11, w⟩ := w
    obtain ⟨i12, w⟩ := w
    obtain ⟨o13, e14⟩ : ∃ z, z = sA o7 47 (fA o7 43 ((20 * p0) + p1).toNatClampNeg).toNatClampNeg ((fA o7 47 (fA o7 43 ((20 * p0) + p1).toNatClampNeg).toNatClampNeg) + (fA o7 44 ((20 * p0) + p1).toNatClampNeg)) := ⟨_, rfl⟩
    have w := w o13 e14
    obtain ⟨i15, w⟩ := w
    obtain ⟨i16, w⟩ := w
    obtain ⟨i17, w⟩ := w
    obtain ⟨i18, w⟩ := w
    obtain ⟨o19, e20⟩ : ∃ z, z = sA o13 46 (fA o13 45 ((20 * p0) + p1).toNatClampNeg).toNatClampNeg ((fA o13 46 (fA o13 45 ((20 * p0) + p1).toNatClampNeg).toNatClampNeg) - (fA o13 44 ((20 * p0) + p1).toNatClampNeg)) := ⟨_, rfl⟩
    have w := w o19 e20
    obtain ⟨i21, w⟩ := w
    exact r_bipush C (v := 20) dX8_giveBack_19 (by decide) (r_iload_n C 1 dX8_giveBack_21 rfl (r_imul C dX8_giveBack_22 (r_iload_n C 2 dX8_giveBack_23 rfl (r_iadd C dX8_giveBack_24 (r_istore_n C dX8_giveBack_25 (nlt hn (by decide)) rfl (r_aload_n C 1 dX8_giveBack_26 rfl (rg_X8_X8_state C dX8_giveBack_27 hu_s (r_iload_n C 0 dX8_giveBack_30 rfl (r_iconst C (v := 3) dX8_giveBack_31 (by decide) (r_iast (ci := 9) (k := 42) C dX8_giveBack_32 rfl rfl hu_s i6 e8 hu_hu.symm (r_aload_n C 1 dX8_giveBack_33 rfl (rg_X8_X8_purse C dX8_giveBack_34 hu_s (r_aload_n C 1 dX8_giveBack_37 rfl (rg_X8_X8_owner C dX8_giveBack_38 hu_s (r_iload_n C 0 dX8_giveBack_41 rfl (r_iald (ci := 9) (k := 43) C dX8_giveBack_42 rfl rfl hu_s i9 (r_dup2 C dX8_giveBack_43 rfl rfl (r_iald (ci := 9) (k := 47) C dX8_giveBack_44 rfl rfl hu_s i10 (r_aload_n C 1 dX8_giveBack_45 rfl (rg_X8_X8_cost C dX8_giveBack_46 hu_s (r_iload_n C 0 dX8_giveBack_49 rfl (r_iald (ci := 9) (k := 44) C dX8_giveBack_50 rfl rfl hu_s i11 (r_iadd C dX8_giveBack_51 (r_iast (ci := 9) (k := 47) C dX8_giveBack_52 rfl rfl hu_s i12 e14 hu_hu.symm (r_aload_n C 1 dX8_giveBack_53 rfl (rg_X8_X8_money C dX8_giveBack_54 hu_s (r_aload_n C 1 dX8_giveBack_57 rfl (rg_X8_X8_answerer C dX8_giveBack_58 hu_s (r_iload_n C 0 dX8_giveBack_61 rfl (r_iald (ci := 9) (k := 45) C dX8_giveBack_62 rfl rfl hu_s i15 (r_dup2 C dX8_giveBack_63 rfl rfl (r_iald (ci := 9) (k := 46) C dX8_giveBack_64 rfl rfl hu_s i16 (r_aload_n C 1 dX8_giveBack_65 rfl (rg_X8_X8_cost C dX8_giveBack_66 hu_s (r_iload_n C 0 dX8_giveBack_69 rfl (r_iald (ci := 9) (k := 44) C dX8_giveBack_70 rfl rfl hu_s i17 (r_isub C dX8_giveBack_71 (r_iast (ci := 9) (k := 46) C dX8_giveBack_72 rfl rfl hu_s i18 e20 hu_hu.symm (r_aload_n C 1 dX8_giveBack_73 rfl (rg_X8_X8_cost C dX8_giveBack_74 hu_s (r_iload_n C 0 dX8_giveBack_77 rfl (r_iald (ci := 9) (k := 44) C dX8_giveBack_78 rfl rfl hu_s i21 (r_iret C hQ dX8_giveBack_79 rfl (vp_nar_int _) ⟨Nat.le_of_ble_eq_true rfl, Nat.le_of_ble_eq_true rfl⟩ ⟨_, rfl, w⟩)))))))))))))))))))))))))))))))))))))))))))
  · have w := w.2 c5
    exact r_iconst C (v := 0) dX8_giveBack_17 (by decide) (r_iret C hQ dX8_giveBack_18 rfl (vp_nar_int _) ⟨Nat.le_of_ble_eq_true rfl, Nat.le_of_ble_eq_true rfl⟩ ⟨_, rfl, w⟩)
def rm_X8_copyState : Room := { frames := 3, cells := 0, slots := 0, locals := 65 }
theorem mt_X8_copyState : gMt yX8_copyState cX8_copyState 3 (some .int) 2 := ⟨tw1444, tw64, by decide +kernel, by decide +kernel, by decide +kernel⟩
def wp_X8_copyState_15 (p0 : Int32) (p1 : Int32) (post : Int32 → FO → Prop) (y1 : Int32) (o : FO) : Prop :=
∀ o4, o4 = sI o 0 y1 →
(((fI o4 0) ≤ 0 → vp_in ((20 * p0) + p1) 160 ∧
post (fA o4 42 ((20 * p0) + p1).toNatClampNeg) o4) ∧ (¬ (fI o4 0) ≤ 0 → post 0 o4))
def wp_X8_copyState (p0 : Int32) (p1 : Int32) (o : FO) (post : Int32 → FO → Prop) : Prop :=
wp_X8_isCopy p0 p1 o (fun r1 =>
((r1 = 0 → wp_X8_copyState_15 p0 p1 post 1 o) ∧ (¬ r1 = 0 → wp_X8_copyState_15 p0 p1 post 0 o)))
set_option maxHeartbeats 4000000 in
set_option maxRecDepth 100000 in
theorem t_X8_copyState_15 {X : gCx} {a : Nat}  {p0 : Int32} {p1 : Int32} {post : Int32 → FO → Prop} {g : GH}   (C : gC X cX8_copyState RX8 (some .int) rm_X8_copyState) (hn : xn X = 3) (hQ : gRet X (gQi (xY X) (fun r9 g9 => ∃ o9, g9 = hu g a (9, o9) ∧ post r9 o9)) 0 0 ∨ gRex X (gQi (xY X) (fun r9 g9 => ∃ o9, g9 = hu g a (9, o9) ∧ post r9 o9)) (fun _ _ => False) 0 0)    : ∀ (y1 : Int32) (o : FO), wp_X8_copyState_15 p0 p1 post y1 o → gX X 0 0 15 [(0, .ref a), (1, .int p0), (2, .int p1)] [.int y1, .ref a] (hu g a (9, o)) := by
  intro y1 o w
  unfold wp_X8_copyState_15 at w
  obtain ⟨o4, e5⟩ : ∃ z, z = sI o 0 y1 := ⟨_, rfl⟩
  have w := w o4 e5
  refine rp_X8_X8_thrown C dX8_copyState_15 hu_s e5 hu_hu.symm (r_aload_n C 0 dX8_copyState_18 rfl (rg_X8_X8_thrown C dX8_copyState_19 hu_s (r_if_le C 29 dX8_copyState_22 (by decide) (fun c6 => ?_) (fun c6 => ?_))))
  · have w := w.1 c6
    obtain ⟨i7, w⟩ := w
    exact r_aload_n C 0 dX8_copyState_29 rfl (rg_X8_X8_state C dX8_copyState_30 hu_s (r_bipush C (v := 20) dX8_copyState_33 (by decide) (r_iload_n C 1 dX8_copyState_35 rfl (r_imul C dX8_copyState_36 (r_iload_n C 2 dX8_copyState_37 rfl (r_iadd C dX8_copyState_38 (r_iald (ci := 9) (k := 42) C dX8_copyState_39 rfl rfl hu_s i7 (r_iret C hQ dX8_copyState_40 rfl (vp_nar_int _) ⟨Nat.le_of_ble_eq_true rfl, Nat.le_of_ble_eq_true rfl⟩ ⟨_, rfl, w⟩))))))))
  · have w := w.2 c6
    exact r_iconst C (v := 0) dX8_copyState_25 (by decide) (r_goto C 40 dX8_copyState_26 (by decide) (r_iret C hQ dX8_copyState_40 rfl (vp_nar_int _) ⟨Nat.le_of_ble_eq_true rfl, Nat.le_of_ble_eq_true rfl⟩ ⟨_, rfl, w⟩))
set_option maxHeartbeats 4000000 in
set_option maxRecDepth 100000 in
theorem m_X8_copyState {Y : gWx} {a : Nat}  {p0 : Int32} {p1 : Int32} {post : Int32 → FO → Prop} {g : GH}  {o : FO} (hg : g a = some (9, o))    (w : wp_X8_copyState p0 p1 o post) : gMet Y yX8_copyState cX8_copyState 3 (some .int) rm_X8_copyState [.ref a, .int p0, .int p1] g (gQi Y (fun r9 g9 => ∃ o9, g9 = hu g a (9, o9) ∧ post r9 o9)) 0 0 := by
  refine gm_of rfl (Nat.le_of_ble_eq_true rfl) ?_
  intro X hY hn C hnm hQ
  subst hY
  have hQ : gRet X (gQi (xY X) (fun r9 g9 => ∃ o9, g9 = hu g a (9, o9) ∧ post r9 o9)) 0 0 ∨ gRex X (gQi (xY X) (fun r9 g9 => ∃ o9, g9 = hu g a (9, o9) ∧ post r9 o9)) (fun _ _ => False) 0 0 := Or.inl hQ
  have C : gC X cX8_copyState RX8 (some .int) rm_X8_copyState := C
  refine gX_eq (hu_id hg).symm ?_
  show gX X 0 0 0 [(0, .ref a), (1, .int p0), (2, .int p1)] [] (hu g a (9, o))
  unfold wp_X8_copyState at w
  refine r_aload_n C 0 dX8_copyState_0 rfl (r_aload_n C 0 dX8_copyState_1 rfl (r_iload_n C 1 dX8_copyState_2 rfl (r_iload_n C 2 dX8_copyState_3 rfl (r_goi (r_runV C dX8_copyState_4 (m_X8_isCopy hu_s w) mt_X8_isCopy tw1421 tw1423 tw56 gcl_9.1 hu_s rfl (stk := [.ref a]) rfl (Nat.le_of_ble_eq_true rfl) ⟨rfl, rfl, ⟨Nat.le_of_ble_eq_true rfl, Nat.le_of_ble_eq_true rfl⟩, ⟨Nat.le_of_ble_eq_true rfl, Nat.le_of_ble_eq_true rfl⟩⟩) ?_))))
  intro r1 h2 hp
  obtain ⟨rfl, w⟩ := hp
  refine r_if_eq C 14 dX8_copyState_7 (by decide) (fun c3 => ?_) (fun c3 => ?_)
  · have w := w.1 c3
    exact r_iconst C (v := 1) dX8_copyState_14 (by decide) (r_sub [0, 1, 2] rfl (t_X8_copyState_15 C hn hQ _ _ w))
  · have w := w.2 c3
    exact r_iconst C (v := 0) dX8_copyState_10 (by decide) (r_goto C 15 dX8_copyState_11 (by decide) (r_sub [0, 1, 2] rfl (t_X8_copyState_15 C hn hQ _ _ w)))
def rm_X8_owner : Room := { frames := 3, cells := 0, slots := 0, locals := 65 }
theorem mt_X8_owner : gMt yX8_owner cX8_owner 4 (some .int) 2 := ⟨tw1448, tw64, by decide +kernel, by decide +kernel, by decide +kernel⟩
def wp_X8_owner_54 (p0 : Int32) (p1 : Int32) (post : Int32 → FO → Prop) (x3 : Int32) (o : FO) : Prop :=
vp_in x3 160 ∧
post (fA o 43 x3.toNatClampNeg) o
def wp_X8_owner_15 (p0 : Int32) (p1 : Int32) (post : Int32 → FO → Prop) (y1 : Int32) (o : FO) : Prop :=
∀ o4, o4 = sI o 0 y1 →
(((fI o4 0) ≤ 0 → vp_in ((20 * p0) + p1) 160 ∧
(((fA o4 42 ((20 * p0) + p1).toNatClampNeg) = 1 → wp_X8_owner_54 p0 p1 post ((20 * p0) + p1) o4) ∧ (¬ (fA o4 42 ((20 * p0) + p1).toNatClampNeg) = 1 → vp_in ((20 * p0) + p1) 160 ∧
((¬ (fA o4 42 ((20 * p0) + p1).toNatClampNeg) = 2 → post ((-1)) o4) ∧ ((fA o4 42 ((20 * p0) + p1).toNatClampNeg) = 2 → wp_X8_owner_54 p0 p1 post ((20 * p0) + p1) o4))))) ∧ (¬ (fI o4 0) ≤ 0 → post 0 o4))
def wp_X8_owner (p0 : Int32) (p1 : Int32) (o : FO) (post : Int32 → FO → Prop) : Prop :=
wp_X8_isCopy p0 p1 o (fun r1 =>
((r1 = 0 → wp_X8_owner_15 p0 p1 post 1 o) ∧ (¬ r1 = 0 → wp_X8_owner_15 p0 p1 post 0 o)))
set_option maxHeartbeats 4000000 in
set_option maxRecDepth 100000 in
theorem t_X8_owner_54 {X : gCx} {a : Nat}  {p0 : Int32} {p1 : Int32} {post : Int32 → FO → Prop} {g : GH}   (C : gC X cX8_owner RX8 (some .int) rm_X8_owner) (hn : xn X = 4) (hQ : gRet X (gQi (xY X) (fun r9 g9 => ∃ o9, g9 = hu g a (9, o9) ∧ post r9 o9)) 0 0 ∨ gRex X (gQi (xY X) (fun r9 g9 => ∃ o9, g9 = hu g a (9, o9) ∧ post r9 o9)) (fun _ _ => False) 0 0)    : ∀ (x3 : Int32) (o : FO), wp_X8_owner_54 p0 p1 post x3 o → gX X 0 0 54 [(0, .ref a), (3, .int x3)] [] (hu g a (9, o)) := by
  intro x3 o w
  unfold wp_X8_owner_54 at w
  obtain ⟨i11, w⟩ := w
  exact r_aload_n C 0 dX8_owner_54 rfl (rg_X8_X8_owner C dX8_owner_55 hu_s (r_iload_n C 1 dX8_owner_58 rfl (r_iald (ci := 9) (k := 43) C dX8_owner_59 rfl rfl hu_s i11 (r_goto C 64 dX8_owner_60 (by decide) (r_iret C hQ dX8_owner_64 rfl (vp_nar_int _) ⟨Nat.le_of_ble_eq_true rfl, Nat.le_of_ble_eq_true rfl⟩ ⟨_, rfl, w⟩)))))
set_option maxHeartbeats 4000000 in
set_option maxRecDepth 100000 in
theorem t_X8_owner_15 {X : gCx} {a : Nat}  {p0 : Int32} {p1 : Int32} {post : Int32 → FO → Prop} {g : GH}   (C : gC X cX8_owner RX8 (some .int) rm_X8_owner) (hn : xn X = 4) (hQ : gRet X (gQi (xY X) (fun r9 g9 => ∃ o9, g9 = hu g a (9, o9) ∧ post r9 o9)) 0 0 ∨ gRex X (gQi (xY X) (fun r9 g9 => ∃ o9, g9 = hu g a (9, o9) ∧ post r9 o9)) (fun _ _ => False) 0 0)    : ∀ (y1 : Int32) (o : FO), wp_X8_owner_15 p0 p1 post y1 o → gX X 0 0 15 [(0, .ref a), (1, .int p0), (2, .int p1)] [.int y1, .ref a] (hu g a (9, o)) := by
  intro y1 o w
  unfold wp_X8_owner_15 at w
  obtain ⟨o4, e5⟩ : ∃ z, z = sI o 0 y1 := ⟨_, rfl⟩
  have w := w o4 e5
  refine rp_X8_X8_thrown C dX8_owner_15 hu_s e5 hu_hu.symm (r_aload_n C 0 dX8_owner_18 rfl (rg_X8_X8_thrown C dX8_owner_19 hu_s (r_if_le C 27 dX8_owner_22 (by decide) (fun c6 => ?_) (fun c6 => ?_))))
  · have w := w.1 c6
    obtain ⟨i7, w⟩ := w
    refine r_bipush C (v := 20) dX8_owner_27 (by decide) (r_iload_n C 1 dX8_owner_29 rfl (r_imul C dX8_owner_30 (r_iload_n C 2 dX8_owner_31 rfl (r_iadd C dX8_owner_32 (r_istore_n C dX8_owner_33 (nlt hn (by decide)) rfl (r_aload_n C 1 dX8_owner_34 rfl (rg_X8_X8_state C dX8_owner_35 hu_s (r_iload_n C 0 dX8_owner_38 rfl (r_iald (ci := 9) (k := 42) C dX8_owner_39 rfl rfl hu_s i7 (r_iconst C (v := 1) dX8_owner_40 (by decide) (r_icmp_eq C 54 dX8_owner_41 (by decide) (fun c8 => ?_) (fun c8 => ?_))))))))))))
    · have w := w.1 c8
      exact r_sub [1, 0] rfl (t_X8_owner_54 C hn hQ _ _ w)
    · have w := w.2 c8
      obtain ⟨i9, w⟩ := w
      refine r_aload_n C 1 dX8_owner_44 rfl (rg_X8_X8_state C dX8_owner_45 hu_s (r_iload_n C 0 dX8_owner_48 rfl (r_iald (ci := 9) (k := 42) C dX8_owner_49 rfl rfl hu_s i9 (r_iconst C (v := 2) dX8_owner_50 (by decide) (r_icmp_ne C 63 dX8_owner_51 (by decide) (fun c10 => ?_) (fun c10 => ?_))))))
      · have w := w.1 c10
        exact r_iconst C (v := (-1)) dX8_owner_63 (by decide) (r_iret C hQ dX8_owner_64 rfl (vp_nar_int _) ⟨Nat.le_of_ble_eq_true rfl, Nat.le_of_ble_eq_true rfl⟩ ⟨_, rfl, w⟩)
      · have w := w.2 c10
        exact r_sub [1, 0] rfl (t_X8_owner_54 C hn hQ _ _ w)
  · have w := w.2 c6
    exact r_iconst C (v := 0) dX8_owner_25 (by decide) (r_iret C hQ dX8_owner_26 rfl (vp_nar_int _) ⟨Nat.le_of_ble_eq_true rfl, Nat.le_of_ble_eq_true rfl⟩ ⟨_, rfl, w⟩)
set_option maxHeartbeats 4000000 in
set_option maxRecDepth 100000 in
theorem m_X8_owner {Y : gWx} {a : Nat}  {p0 : Int32} {p1 : Int32} {post : Int32 → FO → Prop} {g : GH}  {o : FO} (hg : g a = some (9, o))    (w : wp_X8_owner p0 p1 o post) : gMet Y yX8_owner cX8_owner 4 (some .int) rm_X8_owner [.ref a, .int p0, .int p1] g (gQi Y (fun r9 g9 => ∃ o9, g9 = hu g a (9, o9) ∧ post r9 o9)) 0 0 := by
  refine gm_of rfl (Nat.le_of_ble_eq_true rfl) ?_
  intro X hY hn C hnm hQ
  subst hY
  have hQ : gRet X (gQi (xY X) (fun r9 g9 => ∃ o9, g9 = hu g a (9, o9) ∧ post r9 o9)) 0 0 ∨ gRex X (gQi (xY X) (fun r9 g9 => ∃ o9, g9 = hu g a (9, o9) ∧ post r9 o9)) (fun _ _ => False) 0 0 := Or.inl hQ
  have C : gC X cX8_owner RX8 (some .int) rm_X8_owner := C
  refine gX_eq (hu_id hg).symm ?_
  show gX X 0 0 0 [(0, .ref a), (1, .int p0), (2, .int p1)] [] (hu g a (9, o))
  unfold wp_X8_owner at w
  refine r_aload_n C 0 dX8_owner_0 rfl (r_aload_n C 0 dX8_owner_1 rfl (r_iload_n C 1 dX8_owner_2 rfl (r_iload_n C 2 dX8_owner_3 rfl (r_goi (r_runV C dX8_owner_4 (m_X8_isCopy hu_s w) mt_X8_isCopy tw1421 tw1423 tw56 gcl_9.1 hu_s rfl (stk := [.ref a]) rfl (Nat.le_of_ble_eq_true rfl) ⟨rfl, rfl, ⟨Nat.le_of_ble_eq_true rfl, Nat.le_of_ble_eq_true rfl⟩, ⟨Nat.le_of_ble_eq_true rfl, Nat.le_of_ble_eq_true rfl⟩⟩) ?_))))
  intro r1 h2 hp
  obtain ⟨rfl, w⟩ := hp
  refine r_if_eq C 14 dX8_owner_7 (by decide) (fun c3 => ?_) (fun c3 => ?_)
  · have w := w.1 c3
    exact r_iconst C (v := 1) dX8_owner_14 (by decide) (r_sub [0, 1, 2] rfl (t_X8_owner_15 C hn hQ _ _ w))
  · have w := w.2 c3
    exact r_iconst C (v := 0) dX8_owner_10 (by decide) (r_goto C 15 dX8_owner_11 (by decide) (r_sub [0, 1, 2] rfl (t_X8_owner_15 C hn hQ _ _ w)))
def rm_X8_money : Room := { frames := 2, cells := 0, slots := 0, locals := 42 }
theorem mt_X8_money : gMt yX8_money cX8_money 2 (some .int) 1 := ⟨tw1452, tw64, by decide +kernel, by decide +kernel, by decide +kernel⟩
def wp_X8_money_13 (p0 : Int32) (post : Int32 → FO → Prop) (y1 : Int32) (o : FO) : Prop :=
∀ o4, o4 = sI o 0 y1 →
(((fI o4 0) ≤ 0 → vp_in p0 6 ∧
post (fA o4 46 p0.toNatClampNeg) o4) ∧ (¬ (fI o4 0) ≤ 0 → post 0 o4))
def wp_X8_money (p0 : Int32) (o : FO) (post : Int32 → FO → Prop) : Prop :=
wp_X8_isHand p0 (fun r1 =>
((r1 = 0 → wp_X8_money_13 p0 post 1 o) ∧ (¬ r1 = 0 → wp_X8_money_13 p0 post 0 o)))
set_option maxHeartbeats 4000000 in
set_option maxRecDepth 100000 in
theorem t_X8_money_13 {X : gCx} {a : Nat}  {p0 : Int32} {post : Int32 → FO → Prop} {g : GH}   (C : gC X cX8_money RX8 (some .int) rm_X8_money) (hn : xn X = 2) (hQ : gRet X (gQi (xY X) (fun r9 g9 => ∃ o9, g9 = hu g a (9, o9) ∧ post r9 o9)) 0 0 ∨ gRex X (gQi (xY X) (fun r9 g9 => ∃ o9, g9 = hu g a (9, o9) ∧ post r9 o9)) (fun _ _ => False) 0 0)    : ∀ (y1 : Int32) (o : FO), wp_X8_money_13 p0 post y1 o → gX X 0 0 13 [(0, .ref a), (1, .int p0)] [.int y1, .ref a] (hu g a (9, o)) := by
  intro y1 o w
  unfold wp_X8_money_13 at w
  obtain ⟨o4, e5⟩ : ∃ z, z = sI o 0 y1 := ⟨_, rfl⟩
  have w := w o4 e5
  refine rp_X8_X8_thrown C dX8_money_13 hu_s e5 hu_hu.symm (r_aload_n C 0 dX8_money_16 rfl (rg_X8_X8_thrown C dX8_money_17 hu_s (r_if_le C 27 dX8_money_20 (by decide) (fun c6 => ?_) (fun c6 => ?_))))
  · have w := w.1 c6
    obtain ⟨i7, w⟩ := w
    exact r_aload_n C 0 dX8_money_27 rfl (rg_X8_X8_money C dX8_money_28 hu_s (r_iload_n C 1 dX8_money_31 rfl (r_iald (ci := 9) (k := 46) C dX8_money_32 rfl rfl hu_s i7 (r_iret C hQ dX8_money_33 rfl (vp_nar_int _) ⟨Nat.le_of_ble_eq_true rfl, Nat.le_of_ble_eq_true rfl⟩ ⟨_, rfl, w⟩))))
  · have w := w.2 c6
    exact r_iconst C (v := 0) dX8_money_23 (by decide) (r_goto C 33 dX8_money_24 (by decide) (r_iret C hQ dX8_money_33 rfl (vp_nar_int _) ⟨Nat.le_of_ble_eq_true rfl, Nat.le_of_ble_eq_true rfl⟩ ⟨_, rfl, w⟩))
set_option maxHeartbeats 4000000 in
set_option maxRecDepth 100000 in
theorem m_X8_money {Y : gWx} {a : Nat}  {p0 : Int32} {post : Int32 → FO → Prop} {g : GH}  {o : FO} (hg : g a = some (9, o))    (w : wp_X8_money p0 o post) : gMet Y yX8_money cX8_money 2 (some .int) rm_X8_money [.ref a, .int p0] g (gQi Y (fun r9 g9 => ∃ o9, g9 = hu g a (9, o9) ∧ post r9 o9)) 0 0 := by
  refine gm_of rfl (Nat.le_of_ble_eq_true rfl) ?_
  intro X hY hn C hnm hQ
  subst hY
  have hQ : gRet X (gQi (xY X) (fun r9 g9 => ∃ o9, g9 = hu g a (9, o9) ∧ post r9 o9)) 0 0 ∨ gRex X (gQi (xY X) (fun r9 g9 => ∃ o9, g9 = hu g a (9, o9) ∧ post r9 o9)) (fun _ _ => False) 0 0 := Or.inl hQ
  have C : gC X cX8_money RX8 (some .int) rm_X8_money := C
  refine gX_eq (hu_id hg).symm ?_
  show gX X 0 0 0 [(0, .ref a), (1, .int p0)] [] (hu g a (9, o))
  unfold wp_X8_money at w
  refine r_aload_n C 0 dX8_money_0 rfl (r_iload_n C 1 dX8_money_1 rfl (r_goi (r_runS C dX8_money_2 (m_X8_isHand w) mt_X8_isHand tw1218 tw1219 rfl (stk := [.ref a]) rfl (Nat.le_of_ble_eq_true rfl) ⟨rfl, rfl, ⟨Nat.le_of_ble_eq_true rfl, Nat.le_of_ble_eq_true rfl⟩, ⟨Nat.le_of_ble_eq_true rfl, Nat.le_of_ble_eq_true rfl⟩⟩) ?_))
  intro r1 h2 hp
  obtain ⟨rfl, w⟩ := hp
  refine r_if_eq C 12 dX8_money_5 (by decide) (fun c3 => ?_) (fun c3 => ?_)
  · have w := w.1 c3
    exact r_iconst C (v := 1) dX8_money_12 (by decide) (r_sub [0, 1] rfl (t_X8_money_13 C hn hQ _ _ w))
  · have w := w.2 c3
    exact r_iconst C (v := 0) dX8_money_8 (by decide) (r_goto C 13 dX8_money_9 (by decide) (r_sub [0, 1] rfl (t_X8_money_13 C hn hQ _ _ w)))
def rm_X8_moneyAnew : Room := { frames := 2, cells := 0, slots := 0, locals := 42 }
theorem mt_X8_moneyAnew : gMt yX8_moneyAnew cX8_moneyAnew 2 (some .int) 1 := ⟨tw1456, tw64, by decide +kernel, by decide +kernel, by decide +kernel⟩
def wp_X8_moneyAnew_13 (p0 : Int32) (post : Int32 → FO → Prop) (y1 : Int32) (o : FO) : Prop :=
∀ o4, o4 = sI o 0 y1 →
(((fI o4 0) ≤ 0 → vp_in p0 6 ∧
post (fA o4 46 p0.toNatClampNeg) o4) ∧ (¬ (fI o4 0) ≤ 0 → post 0 o4))
def wp_X8_moneyAnew (p0 : Int32) (o : FO) (post : Int32 → FO → Prop) : Prop :=
wp_X8_isHand p0 (fun r1 =>
((r1 = 0 → wp_X8_moneyAnew_13 p0 post 1 o) ∧ (¬ r1 = 0 → wp_X8_moneyAnew_13 p0 post 0 o)))
set_option maxHeartbeats 4000000 in
set_option maxRecDepth 100000 in
theorem t_X8_moneyAnew_13 {X : gCx} {a : Nat}  {p0 : Int32} {post : Int32 → FO → Prop} {g : GH}   (C : gC X cX8_moneyAnew RX8 (some .int) rm_X8_moneyAnew) (hn : xn X = 2) (hQ : gRet X (gQi (xY X) (fun r9 g9 => ∃ o9, g9 = hu g a (9, o9) ∧ post r9 o9)) 0 0 ∨ gRex X (gQi (xY X) (fun r9 g9 => ∃ o9, g9 = hu g a (9, o9) ∧ post r9 o9)) (fun _ _ => False) 0 0)    : ∀ (y1 : Int32) (o : FO), wp_X8_moneyAnew_13 p0 post y1 o → gX X 0 0 13 [(0, .ref a), (1, .int p0)] [.int y1, .ref a] (hu g a (9, o)) := by
  intro y1 o w
  unfold wp_X8_moneyAnew_13 at w
  obtain ⟨o4, e5⟩ : ∃ z, z = sI o 0 y1 := ⟨_, rfl⟩
  have w := w o4 e5
  refine rp_X8_X8_thrown C dX8_moneyAnew_13 hu_s e5 hu_hu.symm (r_aload_n C 0 dX8_moneyAnew_16 rfl (rg_X8_X8_thrown C dX8_moneyAnew_17 hu_s (r_if_le C 27 dX8_moneyAnew_20 (by decide) (fun c6 => ?_) (fun c6 => ?_))))
  · have w := w.1 c6
    obtain ⟨i7, w⟩ := w
    exact r_aload_n C 0 dX8_moneyAnew_27 rfl (rg_X8_X8_money C dX8_moneyAnew_28 hu_s (r_iload_n C 1 dX8_moneyAnew_31 rfl (r_iald (ci := 9) (k := 46) C dX8_moneyAnew_32 rfl rfl hu_s i7 (r_iret C hQ dX8_moneyAnew_33 rfl (vp_nar_int _) ⟨Nat.le_of_ble_eq_true rfl, Nat.le_of_ble_eq_true rfl⟩ ⟨_, rfl, w⟩))))
  · have w := w.2 c6
    exact r_iconst C (v := 0) dX8_moneyAnew_23 (by decide) (r_goto C 33 dX8_moneyAnew_24 (by decide) (r_iret C hQ dX8_moneyAnew_33 rfl (vp_nar_int _) ⟨Nat.le_of_ble_eq_true rfl, Nat.le_of_ble_eq_true rfl⟩ ⟨_, rfl, w⟩))
set_option maxHeartbeats 4000000 in
set_option maxRecDepth 100000 in
theorem m_X8_moneyAnew {Y : gWx} {a : Nat}  {p0 : Int32} {post : Int32 → FO → Prop} {g : GH}  {o : FO} (hg : g a = some (9, o))    (w : wp_X8_moneyAnew p0 o post) : gMet Y yX8_moneyAnew cX8_moneyAnew 2 (some .int) rm_X8_moneyAnew [.ref a, .int p0] g (gQi Y (fun r9 g9 => ∃ o9, g9 = hu g a (9, o9) ∧ post r9 o9)) 0 0 := by
  refine gm_of rfl (Nat.le_of_ble_eq_true rfl) ?_
  intro X hY hn C hnm hQ
  subst hY
  have hQ : gRet X (gQi (xY X) (fun r9 g9 => ∃ o9, g9 = hu g a (9, o9) ∧ post r9 o9)) 0 0 ∨ gRex X (gQi (xY X) (fun r9 g9 => ∃ o9, g9 = hu g a (9, o9) ∧ post r9 o9)) (fun _ _ => False) 0 0 := Or.inl hQ
  have C : gC X cX8_moneyAnew RX8 (some .int) rm_X8_moneyAnew := C
  refine gX_eq (hu_id hg).symm ?_
  show gX X 0 0 0 [(0, .ref a), (1, .int p0)] [] (hu g a (9, o))
  unfold wp_X8_moneyAnew at w
  refine r_aload_n C 0 dX8_moneyAnew_0 rfl (r_iload_n C 1 dX8_moneyAnew_1 rfl (r_goi (r_runS C dX8_moneyAnew_2 (m_X8_isHand w) mt_X8_isHand tw1218 tw1219 rfl (stk := [.ref a]) rfl (Nat.le_of_ble_eq_true rfl) ⟨rfl, rfl, ⟨Nat.le_of_ble_eq_true rfl, Nat.le_of_ble_eq_true rfl⟩, ⟨Nat.le_of_ble_eq_true rfl, Nat.le_of_ble_eq_true rfl⟩⟩) ?_))
  intro r1 h2 hp
  obtain ⟨rfl, w⟩ := hp
  refine r_if_eq C 12 dX8_moneyAnew_5 (by decide) (fun c3 => ?_) (fun c3 => ?_)
  · have w := w.1 c3
    exact r_iconst C (v := 1) dX8_moneyAnew_12 (by decide) (r_sub [0, 1] rfl (t_X8_moneyAnew_13 C hn hQ _ _ w))
  · have w := w.2 c3
    exact r_iconst C (v := 0) dX8_moneyAnew_8 (by decide) (r_goto C 13 dX8_moneyAnew_9 (by decide) (r_sub [0, 1] rfl (t_X8_moneyAnew_13 C hn hQ _ _ w)))
def rm_X8_purse : Room := { frames := 2, cells := 0, slots := 0, locals := 42 }
theorem mt_X8_purse : gMt yX8_purse cX8_purse 2 (some .int) 1 := ⟨tw1460, tw64, by decide +kernel, by decide +kernel, by decide +kernel⟩
def wp_X8_purse_13 (p0 : Int32) (post : Int32 → FO → Prop) (y1 : Int32) (o : FO) : Prop :=
∀ o4, o4 = sI o 0 y1 →
(((fI o4 0) ≤ 0 → vp_in p0 8 ∧
post (fA o4 47 p0.toNatClampNeg) o4) ∧ (¬ (fI o4 0) ≤ 0 → post 0 o4))
def wp_X8_purse (p0 : Int32) (o : FO) (post : Int32 → FO → Prop) : Prop :=
wp_X8_isBuyer p0 (fun r1 =>
((r1 = 0 → wp_X8_purse_13 p0 post 1 o) ∧ (¬ r1 = 0 → wp_X8_purse_13 p0 post 0 o)))
set_option maxHeartbeats 4000000 in
set_option maxRecDepth 100000 in
theorem t_X8_purse_13 {X : gCx} {a : Nat}  {p0 : Int32} {post : Int32 → FO → Prop} {g : GH}   (C : gC X cX8_purse RX8 (some .int) rm_X8_purse) (hn : xn X = 2) (hQ : gRet X (gQi (xY X) (fun r9 g9 => ∃ o9, g9 = hu g a (9, o9) ∧ post r9 o9)) 0 0 ∨ gRex X (gQi (xY X) (fun r9 g9 => ∃ o9, g9 = hu g a (9, o9) ∧ post r9 o9)) (fun _ _ => False) 0 0)    : ∀ (y1 : Int32) (o : FO), wp_X8_purse_13 p0 post y1 o → gX X 0 0 13 [(0, .ref a), (1, .int p0)] [.int y1, .ref a] (hu g a (9, o)) := by
  intro y1 o w
  unfold wp_X8_purse_13 at w
  obtain ⟨o4, e5⟩ : ∃ z, z = sI o 0 y1 := ⟨_, rfl⟩
  have w := w o4 e5
  refine rp_X8_X8_thrown C dX8_purse_13 hu_s e5 hu_hu.symm (r_aload_n C 0 dX8_purse_16 rfl (rg_X8_X8_thrown C dX8_purse_17 hu_s (r_if_le C 27 dX8_purse_20 (by decide) (fun c6 => ?_) (fun c6 => ?_))))
  · have w := w.1 c6
    obtain ⟨i7, w⟩ := w
    exact r_aload_n C 0 dX8_purse_27 rfl (rg_X8_X8_purse C dX8_purse_28 hu_s (r_iload_n C 1 dX8_purse_31 rfl (r_iald (ci := 9) (k := 47) C dX8_purse_32 rfl rfl hu_s i7 (r_iret C hQ dX8_purse_33 rfl (vp_nar_int _) ⟨Nat.le_of_ble_eq_true rfl, Nat.le_of_ble_eq_true rfl⟩ ⟨_, rfl, w⟩))))
  · have w := w.2 c6
    exact r_iconst C (v := 0) dX8_purse_23 (by decide) (r_goto C 33 dX8_purse_24 (by decide) (r_iret C hQ dX8_purse_33 rfl (vp_nar_int _) ⟨Nat.le_of_ble_eq_true rfl, Nat.le_of_ble_eq_true rfl⟩ ⟨_, rfl, w⟩))
set_option maxHeartbeats 4000000 in
set_option maxRecDepth 100000 in
theorem m_X8_purse {Y : gWx} {a : Nat}  {p0 : Int32} {post : Int32 → FO → Prop} {g : GH}  {o : FO} (hg : g a = some (9, o))    (w : wp_X8_purse p0 o post) : gMet Y yX8_purse cX8_purse 2 (some .int) rm_X8_purse [.ref a, .int p0] g (gQi Y (fun r9 g9 => ∃ o9, g9 = hu g a (9, o9) ∧ post r9 o9)) 0 0 := by
  refine gm_of rfl (Nat.le_of_ble_eq_true rfl) ?_
  intro X hY hn C hnm hQ
  subst hY
  have hQ : gRet X (gQi (xY X) (fun r9 g9 => ∃ o9, g9 = hu g a (9, o9) ∧ post r9 o9)) 0 0 ∨ gRex X (gQi (xY X) (fun r9 g9 => ∃ o9, g9 = hu g a (9, o9) ∧ post r9 o9)) (fun _ _ => False) 0 0 := Or.inl hQ
  have C : gC X cX8_purse RX8 (some .int) rm_X8_purse := C
  refine gX_eq (hu_id hg).symm ?_
  show gX X 0 0 0 [(0, .ref a), (1, .int p0)] [] (hu g a (9, o))
  unfold wp_X8_purse at w
  refine r_aload_n C 0 dX8_purse_0 rfl (r_iload_n C 1 dX8_purse_1 rfl (r_goi (r_runS C dX8_purse_2 (m_X8_isBuyer w) mt_X8_isBuyer tw1406 tw1407 rfl (stk := [.ref a]) rfl (Nat.le_of_ble_eq_true rfl) ⟨rfl, rfl, ⟨Nat.le_of_ble_eq_true rfl, Nat.le_of_ble_eq_true rfl⟩, ⟨Nat.le_of_ble_eq_true rfl, Nat.le_of_ble_eq_true rfl⟩⟩) ?_))
  intro r1 h2 hp
  obtain ⟨rfl, w⟩ := hp
  refine r_if_eq C 12 dX8_purse_5 (by decide) (fun c3 => ?_) (fun c3 => ?_)
  · have w := w.1 c3
    exact r_iconst C (v := 1) dX8_purse_12 (by decide) (r_sub [0, 1] rfl (t_X8_purse_13 C hn hQ _ _ w))
  · have w := w.2 c3
    exact r_iconst C (v := 0) dX8_purse_8 (by decide) (r_goto C 13 dX8_purse_9 (by decide) (r_sub [0, 1] rfl (t_X8_purse_13 C hn hQ _ _ w)))
def rm_X8_house : Room := { frames := 0, cells := 0, slots := 0, locals := 0 }
theorem mt_X8_house : gMt yX8_house cX8_house 1 (some .int) 0 := ⟨tw1464, tw64, by decide +kernel, by decide +kernel, by decide +kernel⟩
def wp_X8_house (o : FO) (post : Int32 → FO → Prop) : Prop :=
∀ o1, o1 = sI o 0 0 →
post (fI o1 48) o1
set_option maxHeartbeats 4000000 in
set_option maxRecDepth 100000 in
theorem m_X8_house {Y : gWx} {a : Nat}   {post : Int32 → FO → Prop} {g : GH}  {o : FO} (hg : g a = some (9, o))    (w : wp_X8_house o post) : gMet Y yX8_house cX8_house 1 (some .int) rm_X8_house [.ref a] g (gQi Y (fun r9 g9 => ∃ o9, g9 = hu g a (9, o9) ∧ post r9 o9)) 0 0 := by
  refine gm_of rfl (Nat.le_of_ble_eq_true rfl) ?_
  intro X hY hn C hnm hQ
  subst hY
  have hQ : gRet X (gQi (xY X) (fun r9 g9 => ∃ o9, g9 = hu g a (9, o9) ∧ post r9 o9)) 0 0 ∨ gRex X (gQi (xY X) (fun r9 g9 => ∃ o9, g9 = hu g a (9, o9) ∧ post r9 o9)) (fun _ _ => False) 0 0 := Or.inl hQ
  have C : gC X cX8_house RX8 (some .int) rm_X8_house := C
  refine gX_eq (hu_id hg).symm ?_
  show gX X 0 0 0 [(0, .ref a)] [] (hu g a (9, o))
  unfold wp_X8_house at w
  obtain ⟨o1, e2⟩ : ∃ z, z = sI o 0 0 := ⟨_, rfl⟩
  have w := w o1 e2
  exact r_aload_n C 0 dX8_house_0 rfl (r_iconst C (v := 0) dX8_house_1 (by decide) (rp_X8_X8_thrown C dX8_house_2 hu_s e2 hu_hu.symm (r_aload_n C 0 dX8_house_5 rfl (rg_X8_X8_house C dX8_house_6 hu_s (r_iret C hQ dX8_house_9 rfl (vp_nar_int _) ⟨Nat.le_of_ble_eq_true rfl, Nat.le_of_ble_eq_true rfl⟩ ⟨_, rfl, w⟩)))))
