def rm_X8_thrown : Room := { frames := 0, cells := 0, slots := 0, locals := 0 }
theorem mt_X8_thrown : gMt yX8_thrown cX8_thrown 1 (some .int) 0 := ⟨tw1210, tw64, by decide +kernel, by decide +kernel, by decide +kernel⟩
def wp_X8_thrown (o : FO)  (post : Int32 → Prop) : Prop :=
post (fI o 0)
set_option maxHeartbeats 4000000 in
set_option maxRecDepth 100000 in
theorem m_X8_thrown {Y : gWx} {a : Nat}   {post : Int32 → Prop} {g : GH} {o : FO} (hg : g a = some (9, o))    (w : wp_X8_thrown o post) : gMet Y yX8_thrown cX8_thrown 1 (some .int) rm_X8_thrown [.ref a] g (gQi Y (fun r9 g9 => g9 = g ∧ post r9)) 0 0 := by
  refine gm_of rfl (Nat.le_of_ble_eq_true rfl) ?_
  intro X hY hn C hnm hQ
  subst hY
  have hQ : gRet X (gQi (xY X) (fun r9 g9 => g9 = g ∧ post r9)) 0 0 ∨ gRex X (gQi (xY X) (fun r9 g9 => g9 = g ∧ post r9)) (fun _ _ => False) 0 0 := Or.inl hQ
  have C : gC X cX8_thrown RX8 (some .int) rm_X8_thrown := C
  show gX X 0 0 0 [(0, .ref a)] [] g
  unfold wp_X8_thrown at w
  exact r_aload_n C 0 dX8_thrown_0 rfl (rg_X8_X8_thrown C dX8_thrown_1 hg (r_iret C hQ dX8_thrown_4 rfl (vp_nar_int _) ⟨Nat.le_of_ble_eq_true rfl, Nat.le_of_ble_eq_true rfl⟩ ⟨rfl, w⟩))
def rm_X8_isIn : Room := { frames := 0, cells := 0, slots := 0, locals := 0 }
theorem mt_X8_isIn : gMt yX8_isIn cX8_isIn 3 (some .boolean) 3 := ⟨tw1217, tw64, by decide +kernel, by decide +kernel, by decide +kernel⟩
def wp_X8_isIn (p0 : Int32) (p1 : Int32) (p2 : Int32)  (post : Int32 → Prop) : Prop :=
((p0 < p1 → post 0) ∧ (¬ p0 < p1 → ((p2 < p0 → post 0) ∧ (¬ p2 < p0 → post 1))))
set_option maxHeartbeats 4000000 in
set_option maxRecDepth 100000 in
theorem m_X8_isIn {Y : gWx}  {p0 : Int32} {p1 : Int32} {p2 : Int32} {post : Int32 → Prop} {g : GH}     (w : wp_X8_isIn p0 p1 p2 post) : gMet Y yX8_isIn cX8_isIn 3 (some .boolean) rm_X8_isIn [.int p0, .int p1, .int p2] g (gQi Y (fun r9 g9 => g9 = g ∧ post r9)) 0 0 := by
  refine gm_of rfl (Nat.le_of_ble_eq_true rfl) ?_
  intro X hY hn C hnm hQ
  subst hY
  have hQ : gRet X (gQi (xY X) (fun r9 g9 => g9 = g ∧ post r9)) 0 0 ∨ gRex X (gQi (xY X) (fun r9 g9 => g9 = g ∧ post r9)) (fun _ _ => False) 0 0 := Or.inl hQ
  have C : gC X cX8_isIn RX8 (some .boolean) rm_X8_isIn := C
  show gX X 0 0 0 [(0, .int p0), (1, .int p1), (2, .int p2)] [] g
  unfold wp_X8_isIn at w
  refine r_iload_n C 0 dX8_isIn_0 rfl (r_iload_n C 1 dX8_isIn_1 rfl (r_icmp_lt C 14 dX8_isIn_2 (by decide) (fun c1 => ?_) (fun c1 => ?_)))
  · have w := w.1 c1
    exact r_iconst C (v := 0) dX8_isIn_14 (by decide) (r_iret C hQ dX8_isIn_15 rfl rfl ⟨Nat.le_of_ble_eq_true rfl, Nat.le_of_ble_eq_true rfl⟩ ⟨rfl, w⟩)
  · have w := w.2 c1
    refine r_iload_n C 0 dX8_isIn_5 rfl (r_iload_n C 2 dX8_isIn_6 rfl (r_icmp_gt C 14 dX8_isIn_7 (by decide) (fun c2 => ?_) (fun c2 => ?_)))
    · have w := w.1 c2
      exact r_iconst C (v := 0) dX8_isIn_14 (by decide) (r_iret C hQ dX8_isIn_15 rfl rfl ⟨Nat.le_of_ble_eq_true rfl, Nat.le_of_ble_eq_true rfl⟩ ⟨rfl, w⟩)
    · have w := w.2 c2
      exact r_iconst C (v := 1) dX8_isIn_10 (by decide) (r_goto C 15 dX8_isIn_11 (by decide) (r_iret C hQ dX8_isIn_15 rfl rfl ⟨Nat.le_of_ble_eq_true rfl, Nat.le_of_ble_eq_true rfl⟩ ⟨rfl, w⟩))
def rm_X8_isHand : Room := { frames := 1, cells := 0, slots := 0, locals := 22 }
theorem mt_X8_isHand : gMt yX8_isHand cX8_isHand 1 (some .boolean) 1 := ⟨tw1220, tw64, by decide +kernel, by decide +kernel, by decide +kernel⟩
def wp_X8_isHand (p0 : Int32)  (post : Int32 → Prop) : Prop :=
wp_X8_isIn p0 0 5 (fun r1 =>
narrow .boolean (.int r1) = .int r1 ∧
post r1)
set_option maxHeartbeats 4000000 in
set_option maxRecDepth 100000 in
theorem m_X8_isHand {Y : gWx}  {p0 : Int32} {post : Int32 → Prop} {g : GH}     (w : wp_X8_isHand p0 post) : gMet Y yX8_isHand cX8_isHand 1 (some .boolean) rm_X8_isHand [.int p0] g (gQi Y (fun r9 g9 => g9 = g ∧ post r9)) 0 0 := by
  refine gm_of rfl (Nat.le_of_ble_eq_true rfl) ?_
  intro X hY hn C hnm hQ
  subst hY
  have hQ : gRet X (gQi (xY X) (fun r9 g9 => g9 = g ∧ post r9)) 0 0 ∨ gRex X (gQi (xY X) (fun r9 g9 => g9 = g ∧ post r9)) (fun _ _ => False) 0 0 := Or.inl hQ
  have C : gC X cX8_isHand RX8 (some .boolean) rm_X8_isHand := C
  show gX X 0 0 0 [(0, .int p0)] [] g
  unfold wp_X8_isHand at w
  refine r_iload_n C 0 dX8_isHand_0 rfl (r_iconst C (v := 0) dX8_isHand_1 (by decide) (r_iconst C (v := 5) dX8_isHand_2 (by decide) (r_goi (r_runS C dX8_isHand_3 (m_X8_isIn w) mt_X8_isIn tw1215 tw1216 rfl (stk := []) rfl (Nat.le_of_ble_eq_true rfl) ⟨rfl, rfl, ⟨Nat.le_of_ble_eq_true rfl, Nat.le_of_ble_eq_true rfl⟩, ⟨Nat.le_of_ble_eq_true rfl, Nat.le_of_ble_eq_true rfl⟩⟩) ?_)))
  intro r1 h2 hp
  obtain ⟨rfl, w⟩ := hp
  obtain ⟨i3, w⟩ := w
  exact r_iret C hQ dX8_isHand_6 rfl i3 ⟨Nat.le_of_ble_eq_true rfl, Nat.le_of_ble_eq_true rfl⟩ ⟨rfl, w⟩
def rm_X8_isBuyer : Room := { frames := 1, cells := 0, slots := 0, locals := 22 }
theorem mt_X8_isBuyer : gMt yX8_isBuyer cX8_isBuyer 1 (some .boolean) 1 := ⟨tw1408, tw64, by decide +kernel, by decide +kernel, by decide +kernel⟩
def wp_X8_isBuyer (p0 : Int32)  (post : Int32 → Prop) : Prop :=
wp_X8_isIn p0 0 7 (fun r1 =>
narrow .boolean (.int r1) = .int r1 ∧
post r1)
set_option maxHeartbeats 4000000 in
set_option maxRecDepth 100000 in
theorem m_X8_isBuyer {Y : gWx}  {p0 : Int32} {post : Int32 → Prop} {g : GH}     (w : wp_X8_isBuyer p0 post) : gMet Y yX8_isBuyer cX8_isBuyer 1 (some .boolean) rm_X8_isBuyer [.int p0] g (gQi Y (fun r9 g9 => g9 = g ∧ post r9)) 0 0 := by
  refine gm_of rfl (Nat.le_of_ble_eq_true rfl) ?_
  intro X hY hn C hnm hQ
  subst hY
  have hQ : gRet X (gQi (xY X) (fun r9 g9 => g9 = g ∧ post r9)) 0 0 ∨ gRex X (gQi (xY X) (fun r9 g9 => g9 = g ∧ post r9)) (fun _ _ => False) 0 0 := Or.inl hQ
  have C : gC X cX8_isBuyer RX8 (some .boolean) rm_X8_isBuyer := C
  show gX X 0 0 0 [(0, .int p0)] [] g
  unfold wp_X8_isBuyer at w
  refine r_iload_n C 0 dX8_isBuyer_0 rfl (r_iconst C (v := 0) dX8_isBuyer_1 (by decide) (r_bipush C (v := 7) dX8_isBuyer_2 (by decide) (r_goi (r_runS C dX8_isBuyer_4 (m_X8_isIn w) mt_X8_isIn tw1215 tw1216 rfl (stk := []) rfl (Nat.le_of_ble_eq_true rfl) ⟨rfl, rfl, ⟨Nat.le_of_ble_eq_true rfl, Nat.le_of_ble_eq_true rfl⟩, ⟨Nat.le_of_ble_eq_true rfl, Nat.le_of_ble_eq_true rfl⟩⟩) ?_)))
  intro r1 h2 hp
  obtain ⟨rfl, w⟩ := hp
  obtain ⟨i3, w⟩ := w
  exact r_iret C hQ dX8_isBuyer_7 rfl i3 ⟨Nat.le_of_ble_eq_true rfl, Nat.le_of_ble_eq_true rfl⟩ ⟨rfl, w⟩
def rm_X8_isShape : Room := { frames := 1, cells := 0, slots := 0, locals := 22 }
theorem mt_X8_isShape : gMt yX8_isShape cX8_isShape 2 (some .boolean) 1 := ⟨tw1264, tw64, by decide +kernel, by decide +kernel, by decide +kernel⟩
def wp_X8_isShape (p0 : Int32) (o : FO)  (post : Int32 → Prop) : Prop :=
wp_X8_isIn p0 0 ((fI o 10) - 1) (fun r1 =>
narrow .boolean (.int r1) = .int r1 ∧
post r1)
set_option maxHeartbeats 4000000 in
set_option maxRecDepth 100000 in
theorem m_X8_isShape {Y : gWx} {a : Nat}  {p0 : Int32} {post : Int32 → Prop} {g : GH} {o : FO} (hg : g a = some (9, o))    (w : wp_X8_isShape p0 o post) : gMet Y yX8_isShape cX8_isShape 2 (some .boolean) rm_X8_isShape [.ref a, .int p0] g (gQi Y (fun r9 g9 => g9 = g ∧ post r9)) 0 0 := by
  refine gm_of rfl (Nat.le_of_ble_eq_true rfl) ?_
  intro X hY hn C hnm hQ
  subst hY
  have hQ : gRet X (gQi (xY X) (fun r9 g9 => g9 = g ∧ post r9)) 0 0 ∨ gRex X (gQi (xY X) (fun r9 g9 => g9 = g ∧ post r9)) (fun _ _ => False) 0 0 := Or.inl hQ
  have C : gC X cX8_isShape RX8 (some .boolean) rm_X8_isShape := C
  show gX X 0 0 0 [(0, .ref a), (1, .int p0)] [] g
  unfold wp_X8_isShape at w
  refine r_iload_n C 1 dX8_isShape_0 rfl (r_iconst C (v := 0) dX8_isShape_1 (by decide) (r_aload_n C 0 dX8_isShape_2 rfl (rg_X8_X8_shapes C dX8_isShape_3 hg (r_iconst C (v := 1) dX8_isShape_6 (by decide) (r_isub C dX8_isShape_7 (r_goi (r_runS C dX8_isShape_8 (m_X8_isIn w) mt_X8_isIn tw1215 tw1216 rfl (stk := []) rfl (Nat.le_of_ble_eq_true rfl) ⟨rfl, rfl, ⟨Nat.le_of_ble_eq_true rfl, Nat.le_of_ble_eq_true rfl⟩, ⟨Nat.le_of_ble_eq_true rfl, Nat.le_of_ble_eq_true rfl⟩⟩) ?_))))))
  intro r1 h2 hp
  obtain ⟨rfl, w⟩ := hp
  obtain ⟨i3, w⟩ := w
  exact r_iret C hQ dX8_isShape_11 rfl i3 ⟨Nat.le_of_ble_eq_true rfl, Nat.le_of_ble_eq_true rfl⟩ ⟨rfl, w⟩
def rm_X8_isAct : Room := { frames := 1, cells := 0, slots := 0, locals := 22 }
theorem mt_X8_isAct : gMt yX8_isAct cX8_isAct 2 (some .boolean) 1 := ⟨tw1320, tw64, by decide +kernel, by decide +kernel, by decide +kernel⟩
def wp_X8_isAct (p0 : Int32) (o : FO)  (post : Int32 → Prop) : Prop :=
wp_X8_isIn p0 0 ((fI o 1) - 1) (fun r1 =>
narrow .boolean (.int r1) = .int r1 ∧
post r1)
set_option maxHeartbeats 4000000 in
set_option maxRecDepth 100000 in
theorem m_X8_isAct {Y : gWx} {a : Nat}  {p0 : Int32} {post : Int32 → Prop} {g : GH} {o : FO} (hg : g a = some (9, o))    (w : wp_X8_isAct p0 o post) : gMet Y yX8_isAct cX8_isAct 2 (some .boolean) rm_X8_isAct [.ref a, .int p0] g (gQi Y (fun r9 g9 => g9 = g ∧ post r9)) 0 0 := by
  refine gm_of rfl (Nat.le_of_ble_eq_true rfl) ?_
  intro X hY hn C hnm hQ
  subst hY
  have hQ : gRet X (gQi (xY X) (fun r9 g9 => g9 = g ∧ post r9)) 0 0 ∨ gRex X (gQi (xY X) (fun r9 g9 => g9 = g ∧ post r9)) (fun _ _ => False) 0 0 := Or.inl hQ
  have C : gC X cX8_isAct RX8 (some .boolean) rm_X8_isAct := C
  show gX X 0 0 0 [(0, .ref a), (1, .int p0)] [] g
  unfold wp_X8_isAct at w
  refine r_iload_n C 1 dX8_isAct_0 rfl (r_iconst C (v := 0) dX8_isAct_1 (by decide) (r_aload_n C 0 dX8_isAct_2 rfl (rg_X8_X8_acts C dX8_isAct_3 hg (r_iconst C (v := 1) dX8_isAct_6 (by decide) (r_isub C dX8_isAct_7 (r_goi (r_runS C dX8_isAct_8 (m_X8_isIn w) mt_X8_isIn tw1215 tw1216 rfl (stk := []) rfl (Nat.le_of_ble_eq_true rfl) ⟨rfl, rfl, ⟨Nat.le_of_ble_eq_true rfl, Nat.le_of_ble_eq_true rfl⟩, ⟨Nat.le_of_ble_eq_true rfl, Nat.le_of_ble_eq_true rfl⟩⟩) ?_))))))
  intro r1 h2 hp
  obtain ⟨rfl, w⟩ := hp
  obtain ⟨i3, w⟩ := w
  exact r_iret C hQ dX8_isAct_11 rfl i3 ⟨Nat.le_of_ble_eq_true rfl, Nat.le_of_ble_eq_true rfl⟩ ⟨rfl, w⟩
def rm_X8_isEdition : Room := { frames := 1, cells := 0, slots := 0, locals := 22 }
theorem mt_X8_isEdition : gMt yX8_isEdition cX8_isEdition 2 (some .boolean) 1 := ⟨tw1393, tw64, by decide +kernel, by decide +kernel, by decide +kernel⟩
def wp_X8_isEdition (p0 : Int32) (o : FO)  (post : Int32 → Prop) : Prop :=
wp_X8_isIn p0 0 ((fI o 25) - 1) (fun r1 =>
narrow .boolean (.int r1) = .int r1 ∧
post r1)
set_option maxHeartbeats 4000000 in
set_option maxRecDepth 100000 in
theorem m_X8_isEdition {Y : gWx} {a : Nat}  {p0 : Int32} {post : Int32 → Prop} {g : GH} {o : FO} (hg : g a = some (9, o))    (w : wp_X8_isEdition p0 o post) : gMet Y yX8_isEdition cX8_isEdition 2 (some .boolean) rm_X8_isEdition [.ref a, .int p0] g (gQi Y (fun r9 g9 => g9 = g ∧ post r9)) 0 0 := by
  refine gm_of rfl (Nat.le_of_ble_eq_true rfl) ?_
  intro X hY hn C hnm hQ
  subst hY
  have hQ : gRet X (gQi (xY X) (fun r9 g9 => g9 = g ∧ post r9)) 0 0 ∨ gRex X (gQi (xY X) (fun r9 g9 => g9 = g ∧ post r9)) (fun _ _ => False) 0 0 := Or.inl hQ
  have C : gC X cX8_isEdition RX8 (some .boolean) rm_X8_isEdition := C
  show gX X 0 0 0 [(0, .ref a), (1, .int p0)] [] g
  unfold wp_X8_isEdition at w
  refine r_iload_n C 1 dX8_isEdition_0 rfl (r_iconst C (v := 0) dX8_isEdition_1 (by decide) (r_aload_n C 0 dX8_isEdition_2 rfl (rg_X8_X8_editions C dX8_isEdition_3 hg (r_iconst C (v := 1) dX8_isEdition_6 (by decide) (r_isub C dX8_isEdition_7 (r_goi (r_runS C dX8_isEdition_8 (m_X8_isIn w) mt_X8_isIn tw1215 tw1216 rfl (stk := []) rfl (Nat.le_of_ble_eq_true rfl) ⟨rfl, rfl, ⟨Nat.le_of_ble_eq_true rfl, Nat.le_of_ble_eq_true rfl⟩, ⟨Nat.le_of_ble_eq_true rfl, Nat.le_of_ble_eq_true rfl⟩⟩) ?_))))))
  intro r1 h2 hp
  obtain ⟨rfl, w⟩ := hp
  obtain ⟨i3, w⟩ := w
  exact r_iret C hQ dX8_isEdition_11 rfl i3 ⟨Nat.le_of_ble_eq_true rfl, Nat.le_of_ble_eq_true rfl⟩ ⟨rfl, w⟩
def rm_X8_isCopy : Room := { frames := 2, cells := 0, slots := 0, locals := 43 }
theorem mt_X8_isCopy : gMt yX8_isCopy cX8_isCopy 3 (some .boolean) 2 := ⟨tw1424, tw64, by decide +kernel, by decide +kernel, by decide +kernel⟩
def wp_X8_isCopy_27 (p0 : Int32) (p1 : Int32) (o : FO) (post : Int32 → Prop) (y0 : Int32) (y1 : Int32) (y3 : Int32)  : Prop :=
vp_in y3 8 ∧
wp_X8_isIn y0 y1 ((fA o 31 y3.toNatClampNeg) - 1) (fun r8 =>
((r8 = 0 → post 0) ∧ (¬ r8 = 0 → post 1)))
def wp_X8_isCopy (p0 : Int32) (p1 : Int32) (o : FO)  (post : Int32 → Prop) : Prop :=
wp_X8_isEdition p0 o (fun r1 =>
((r1 = 0 → post 0) ∧ (¬ r1 = 0 → wp_X8_isEdition p0 o (fun r4 =>
((r4 = 0 → wp_X8_isCopy_27 p0 p1 o post p1 0 0) ∧ (¬ r4 = 0 → wp_X8_isCopy_27 p0 p1 o post p1 0 p0))))))
set_option maxHeartbeats 4000000 in
set_option maxRecDepth 100000 in
theorem t_X8_isCopy_27 {X : gCx} {a : Nat}  {p0 : Int32} {p1 : Int32} {post : Int32 → Prop} {g : GH} {o : FO}  (C : gC X cX8_isCopy RX8 (some .boolean) rm_X8_isCopy) (hn : xn X = 3) (hQ : gRet X (gQi (xY X) (fun r9 g9 => g9 = g ∧ post r9)) 0 0 ∨ gRex X (gQi (xY X) (fun r9 g9 => g9 = g ∧ post r9)) (fun _ _ => False) 0 0) (hg : g a = some (9, o))    : ∀ (y0 : Int32) (y1 : Int32) (y3 : Int32), wp_X8_isCopy_27 p0 p1 o post y0 y1 y3 → gX X 0 0 27 [] [.int y3, .ref (a + 27), .int y1, .int y0] g := by
  intro y0 y1 y3 w
  unfold wp_X8_isCopy_27 at w
  obtain ⟨i7, w⟩ := w
  refine r_iald (ci := 9) (k := 31) C dX8_isCopy_27 rfl rfl hg i7 (r_iconst C (v := 1) dX8_isCopy_28 (by decide) (r_isub C dX8_isCopy_29 (r_goi (r_runS C dX8_isCopy_30 (m_X8_isIn w) mt_X8_isIn tw1215 tw1216 rfl (stk := []) rfl (Nat.le_of_ble_eq_true rfl) ⟨rfl, rfl, ⟨Nat.le_of_ble_eq_true rfl, Nat.le_of_ble_eq_true rfl⟩, ⟨Nat.le_of_ble_eq_true rfl, Nat.le_of_ble_eq_true rfl⟩⟩) ?_)))
  intro r8 h9 hp
  obtain ⟨rfl, w⟩ := hp
  refine r_if_eq C 40 dX8_isCopy_33 (by decide) (fun c10 => ?_) (fun c10 => ?_)
  · have w := w.1 c10
    exact r_iconst C (v := 0) dX8_isCopy_40 (by decide) (r_iret C hQ dX8_isCopy_41 rfl rfl ⟨Nat.le_of_ble_eq_true rfl, Nat.le_of_ble_eq_true rfl⟩ ⟨rfl, w⟩)
  · have w := w.2 c10
    exact r_iconst C (v := 1) dX8_isCopy_36 (by decide) (r_goto C 41 dX8_isCopy_37 (by decide) (r_iret C hQ dX8_isCopy_41 rfl rfl ⟨Nat.le_of_ble_eq_true rfl, Nat.le_of_ble_eq_true rfl⟩ ⟨rfl, w⟩))
set_option maxHeartbeats 4000000 in
set_option maxRecDepth 100000 in
theorem m_X8_isCopy {Y : gWx} {a : Nat}  {p0 : Int32} {p1 : Int32} {post : Int32 → Prop} {g : GH} {o : FO} (hg : g a = some (9, o))    (w : wp_X8_isCopy p0 p1 o post) : gMet Y yX8_isCopy cX8_isCopy 3 (some .boolean) rm_X8_isCopy [.ref a, .int p0, .int p1] g (gQi Y (fun r9 g9 => g9 = g ∧ post r9)) 0 0 := by
  refine gm_of rfl (Nat.le_of_ble_eq_true rfl) ?_
  intro X hY hn C hnm hQ
  subst hY
  have hQ : gRet X (gQi (xY X) (fun r9 g9 => g9 = g ∧ post r9)) 0 0 ∨ gRex X (gQi (xY X) (fun r9 g9 => g9 = g ∧ post r9)) (fun _ _ => False) 0 0 := Or.inl hQ
  have C : gC X cX8_isCopy RX8 (some .boolean) rm_X8_isCopy := C
  show gX X 0 0 0 [(0, .ref a), (1, .int p0), (2, .int p1)] [] g
  unfold wp_X8_isCopy at w
  refine r_aload_n C 0 dX8_isCopy_0 rfl (r_iload_n C 1 dX8_isCopy_1 rfl (r_goi (r_runV C dX8_isCopy_2 (m_X8_isEdition hg w) mt_X8_isEdition tw1390 tw1392 tw53 gcl_9.1 hg rfl (stk := []) rfl (Nat.le_of_ble_eq_true rfl) ⟨rfl, rfl, ⟨Nat.le_of_ble_eq_true rfl, Nat.le_of_ble_eq_true rfl⟩, ⟨Nat.le_of_ble_eq_true rfl, Nat.le_of_ble_eq_true rfl⟩⟩) ?_))
  intro r1 h2 hp
  obtain ⟨rfl, w⟩ := hp
  refine r_if_eq C 40 dX8_isCopy_5 (by decide) (fun c3 => ?_) (fun c3 => ?_)
  · have w := w.1 c3
    exact r_iconst C (v := 0) dX8_isCopy_40 (by decide) (r_iret C hQ dX8_isCopy_41 rfl rfl ⟨Nat.le_of_ble_eq_true rfl, Nat.le_of_ble_eq_true rfl⟩ ⟨rfl, w⟩)
  · have w := w.2 c3
    refine r_iload_n C 2 dX8_isCopy_8 rfl (r_iconst C (v := 0) dX8_isCopy_9 (by decide) (r_aload_n C 0 dX8_isCopy_10 rfl (rg_X8_X8_copies C dX8_isCopy_11 hg (r_aload_n C 0 dX8_isCopy_14 rfl (r_iload_n C 1 dX8_isCopy_15 rfl (r_goi (r_runV C dX8_isCopy_16 (m_X8_isEdition hg w) mt_X8_isEdition tw1390 tw1392 tw53 gcl_9.1 hg rfl (stk := [.ref (a + 27), .int 0, .int p1]) rfl (Nat.le_of_ble_eq_true rfl) ⟨rfl, rfl, ⟨Nat.le_of_ble_eq_true rfl, Nat.le_of_ble_eq_true rfl⟩, ⟨Nat.le_of_ble_eq_true rfl, Nat.le_of_ble_eq_true rfl⟩⟩) ?_))))))
    intro r4 h5 hp
    obtain ⟨rfl, w⟩ := hp
    refine r_if_eq C 26 dX8_isCopy_19 (by decide) (fun c6 => ?_) (fun c6 => ?_)
    · have w := w.1 c6
      exact r_iconst C (v := 0) dX8_isCopy_26 (by decide) (r_sub [] rfl (t_X8_isCopy_27 C hn hQ hg _ _ _ w))
    · have w := w.2 c6
      exact r_iload_n C 1 dX8_isCopy_22 rfl (r_goto C 27 dX8_isCopy_23 (by decide) (r_sub [] rfl (t_X8_isCopy_27 C hn hQ hg _ _ _ w)))
def rm_X8_takeOut : Room := { frames := 0, cells := 0, slots := 0, locals := 0 }
theorem mt_X8_takeOut : gMt yX8_takeOut cX8_takeOut 4 none 1 := ⟨tw1256, tw64, by decide +kernel, by decide +kernel, by decide +kernel⟩
def wp_X8_takeOut_40 (p0 : Int32) (post : FO → Prop) (k4 : Int32 → Int32 → FO → Prop) (x3 : Int32) (y0 : Int32) (y1 : Int32) (o : FO) : Prop :=
k4 (y0 + y1) (x3 + 1) o
def wp_X8_takeOut_4 (p0 : Int32) (post : FO → Prop) : Nat → Int32 → Int32 → FO → Prop
  | 0, _, _, _ => False
  | n + 1, x2, x3, o =>
    (((fI o 18) ≤ x3 → ∀ o2, o2 = sI o 18 x2 →
    post o2) ∧ (¬ (fI o 18) ≤ x3 → vp_in x3 40 ∧
    vp_in x2 40 ∧
    ∀ o6, o6 = sA o 19 x2.toNatClampNeg (fA o 19 x3.toNatClampNeg) →
    vp_in x3 40 ∧
    ((¬ (fA o6 19 x3.toNatClampNeg) = p0 → wp_X8_takeOut_40 p0 post (fun x2 x3 o => wp_X8_takeOut_4 p0 post n x2 x3 o) x3 x2 1 o6) ∧ ((fA o6 19 x3.toNatClampNeg) = p0 → wp_X8_takeOut_40 p0 post (fun x2 x3 o => wp_X8_takeOut_4 p0 post n x2 x3 o) x3 x2 0 o6))))
def wp_X8_takeOut (p0 : Int32) (o : FO) (post : FO → Prop) : Prop :=
wp_X8_takeOut_4 p0 post 1000 0 0 o
set_option maxHeartbeats 4000000 in
set_option maxRecDepth 100000 in
theorem t_X8_takeOut_40 {X : gCx} {a : Nat}  {p0 : Int32} {post : FO → Prop} {g : GH}  {k4 : Int32 → Int32 → FO → Prop} (C : gC X cX8_takeOut RX8 none rm_X8_takeOut) (hn : xn X = 4) (hQ : gRet X (gQv (xY X) (fun  g9 => ∃ o9, g9 = hu g a (9, o9) ∧ post  o9)) 0 0 ∨ gRex X (gQv (xY X) (fun  g9 => ∃ o9, g9 = hu g a (9, o9) ∧ post  o9)) (fun _ _ => False) 0 0)   (hk4 : ∀ (x2 : Int32) (x3 : Int32) (o : FO), k4 x2 x3 o → gX X 0 0 4 [(0, .ref a), (1, .int p0), (2, .int x2), (3, .int x3)] [] (hu g a (9, o))) : ∀ (x3 : Int32) (y0 : Int32) (y1 : Int32) (o : FO), wp_X8_takeOut_40 p0 post k4 x3 y0 y1 o → gX X 0 0 40 [(0, .ref a), (1, .int p0), (3, .int x3)] [.int y1, .int y0] (hu g a (9, o)) := by
  intro x3 y0 y1 o w
  unfold wp_X8_takeOut_40 at w
  exact r_iadd C dX8_takeOut_40 (r_istore_n C dX8_takeOut_41 (nlt hn (by decide)) rfl (r_iinc C (v := x3 + 1) 3 dX8_takeOut_42 rfl rfl (nlt hn (by decide)) rfl (r_goto C 4 dX8_takeOut_45 (by decide) (r_sub [2, 3, 1, 0] rfl (hk4 _ _ _ w)))))
set_option maxHeartbeats 4000000 in
set_option maxRecDepth 100000 in
theorem t_X8_takeOut_4 {X : gCx} {a : Nat}  {p0 : Int32} {post : FO → Prop} {g : GH}   (C : gC X cX8_takeOut RX8 none rm_X8_takeOut) (hn : xn X = 4) (hQ : gRet X (gQv (xY X) (fun  g9 => ∃ o9, g9 = hu g a (9, o9) ∧ post  o9)) 0 0 ∨ gRex X (gQv (xY X) (fun  g9 => ∃ o9, g9 = hu g a (9, o9) ∧ post  o9)) (fun _ _ => False) 0 0)    : ∀ (n : Nat) (x2 : Int32) (x3 : Int32) (o : FO), wp_X8_takeOut_4 p0 post n x2 x3 o → gX X 0 0 4 [(0, .ref a), (1, .int p0), (2, .int x2), (3, .int x3)] [] (hu g a (9, o)) := by
  intro n
  induction n with
  | zero => intro x2 x3 o w; exact w.elim
  | succ n ih =>
    intro x2 x3 o w
    unfold wp_X8_takeOut_4 at w
    refine r_iload_n C 3 dX8_takeOut_4 rfl (r_aload_n C 0 dX8_takeOut_5 rfl (rg_X8_X8_many C dX8_takeOut_6 hu_s (r_icmp_ge C 48 dX8_takeOut_9 (by decide) (fun c1 => ?_) (fun c1 => ?_))))
    · have w := w.1 c1
      obtain ⟨o2, e3⟩ : ∃ z, z = sI o 18 x2 := ⟨_, rfl⟩
      have w := w o2 e3
      exact r_aload_n C 0 dX8_takeOut_48 rfl (r_iload_n C 2 dX8_takeOut_49 rfl (rp_X8_X8_many C dX8_takeOut_50 hu_s e3 hu_hu.symm (r_vret C hQ dX8_takeOut_53 rfl ⟨Nat.le_of_ble_eq_true rfl, Nat.le_of_ble_eq_true rfl⟩ ⟨_, rfl, w⟩)))
    · have w := w.2 c1
      obtain ⟨i4, w⟩ := w
      obtain ⟨i5, w⟩ := w
      obtain ⟨o6, e7⟩ : ∃ z, z = sA o 19 x2.toNatClampNeg (fA o 19 x3.toNatClampNeg) := ⟨_, rfl⟩
      have w := w o6 e7
      obtain ⟨i8, w⟩ := w
      refine r_aload_n C 0 dX8_takeOut_12 rfl (rg_X8_X8_order C dX8_takeOut_13 hu_s (r_iload_n C 2 dX8_takeOut_16 rfl (r_aload_n C 0 dX8_takeOut_17 rfl (rg_X8_X8_order C dX8_takeOut_18 hu_s (r_iload_n C 3 dX8_takeOut_21 rfl (r_iald (ci := 9) (k := 19) C dX8_takeOut_22 rfl rfl hu_s i4 (r_iast (ci := 9) (k := 19) C dX8_takeOut_23 rfl rfl hu_s i5 e7 hu_hu.symm (r_iload_n C 2 dX8_takeOut_24 rfl (r_aload_n C 0 dX8_takeOut_25 rfl (rg_X8_X8_order C dX8_takeOut_26 hu_s (r_iload_n C 3 dX8_takeOut_29 rfl (r_iald (ci := 9) (k := 19) C dX8_takeOut_30 rfl rfl hu_s i8 (r_iload_n C 1 dX8_takeOut_31 rfl (r_icmp_ne C 39 dX8_takeOut_32 (by decide) (fun c9 => ?_) (fun c9 => ?_)))))))))))))))
      · have w := w.1 c9
        exact r_iconst C (v := 1) dX8_takeOut_39 (by decide) (r_sub [0, 1, 3] rfl (t_X8_takeOut_40 C hn hQ ih _ _ _ _ w))
      · have w := w.2 c9
        exact r_iconst C (v := 0) dX8_takeOut_35 (by decide) (r_goto C 40 dX8_takeOut_36 (by decide) (r_sub [0, 1, 3] rfl (t_X8_takeOut_40 C hn hQ ih _ _ _ _ w)))
set_option maxHeartbeats 4000000 in
set_option maxRecDepth 100000 in
theorem m_X8_takeOut {Y : gWx} {a : Nat}  {p0 : Int32} {post : FO → Prop} {g : GH}  {o : FO} (hg : g a = some (9, o))    (w : wp_X8_takeOut p0 o post) : gMet Y yX8_takeOut cX8_takeOut 4 none rm_X8_takeOut [.ref a, .int p0] g (gQv Y (fun  g9 => ∃ o9, g9 = hu g a (9, o9) ∧ post  o9)) 0 0 := by
  refine gm_of rfl (Nat.le_of_ble_eq_true rfl) ?_
  intro X hY hn C hnm hQ
  subst hY
  have hQ : gRet X (gQv (xY X) (fun  g9 => ∃ o9, g9 = hu g a (9, o9) ∧ post  o9)) 0 0 ∨ gRex X (gQv (xY X) (fun  g9 => ∃ o9, g9 = hu g a (9, o9) ∧ post  o9)) (fun _ _ => False) 0 0 := Or.inl hQ
  have C : gC X cX8_takeOut RX8 none rm_X8_takeOut := C
  refine gX_eq (hu_id hg).symm ?_
  show gX X 0 0 0 [(0, .ref a), (1, .int p0)] [] (hu g a (9, o))
  unfold wp_X8_takeOut at w
  exact r_iconst C (v := 0) dX8_takeOut_0 (by decide) (r_istore_n C dX8_takeOut_1 (nlt hn (by decide)) rfl (r_iconst C (v := 0) dX8_takeOut_2 (by decide) (r_istore_n C dX8_takeOut_3 (nlt hn (by decide)) rfl (r_sub [2, 3, 1, 0] rfl (t_X8_takeOut_4 C hn hQ 1000 _ _ _ w)))))
def rm_X8_putIn : Room := { frames := 0, cells := 0, slots := 0, locals := 0 }
theorem mt_X8_putIn : gMt yX8_putIn cX8_putIn 4 none 2 := ⟨tw1244, tw64, by decide +kernel, by decide +kernel, by decide +kernel⟩
def wp_X8_putIn_49 (p0 : Int32) (p1 : Int32) (post : FO → Prop) (y1 : Int32) (o : FO) : Prop :=
vp_in y1 40 ∧
∀ o9, o9 = sA o 19 y1.toNatClampNeg p0 →
∀ o11, o11 = sI o9 18 ((fI o9 18) + 1) →
post o11
def wp_X8_putIn_33 (p0 : Int32) (p1 : Int32) (post : FO → Prop)  (o : FO) : Prop :=
((p1 = 0 → wp_X8_putIn_49 p0 p1 post 0 o) ∧ (¬ p1 = 0 → wp_X8_putIn_49 p0 p1 post (fI o 18) o))
def wp_X8_putIn_5 (p0 : Int32) (p1 : Int32) (post : FO → Prop) : Nat → Int32 → FO → Prop
  | 0, _, _ => False
  | n + 1, x3, o =>
    ((x3 ≤ 0 → wp_X8_putIn_33 p0 p1 post o) ∧ (¬ x3 ≤ 0 → ((¬ p1 = 0 → wp_X8_putIn_33 p0 p1 post o) ∧ (p1 = 0 → vp_in (x3 - 1) 40 ∧
    vp_in x3 40 ∧
    ∀ o5, o5 = sA o 19 x3.toNatClampNeg (fA o 19 (x3 - 1).toNatClampNeg) →
    wp_X8_putIn_5 p0 p1 post n (x3 + (-1)) o5))))
def wp_X8_putIn (p0 : Int32) (p1 : Int32) (o : FO) (post : FO → Prop) : Prop :=
wp_X8_putIn_5 p0 p1 post 1000 (fI o 18) o
set_option maxHeartbeats 4000000 in
set_option maxRecDepth 100000 in
theorem t_X8_putIn_49 {X : gCx} {a : Nat}  {p0 : Int32} {p1 : Int32} {post : FO → Prop} {g : GH}   (C : gC X cX8_putIn RX8 none rm_X8_putIn) (hn : xn X = 4) (hQ : gRet X (gQv (xY X) (fun  g9 => ∃ o9, g9 = hu g a (9, o9) ∧ post  o9)) 0 0 ∨ gRex X (gQv (xY X) (fun  g9 => ∃ o9, g9 = hu g a (9, o9) ∧ post  o9)) (fun _ _ => False) 0 0)    : ∀ (y1 : Int32) (o : FO), wp_X8_putIn_49 p0 p1 post y1 o → gX X 0 0 49 [(0, .ref a), (1, .int p0)] [.int y1, .ref (a + 16)] (hu g a (9, o)) := by
  intro y1 o w
  unfold wp_X8_putIn_49 at w
  obtain ⟨i8, w⟩ := w
  obtain ⟨o9, e10⟩ : ∃ z, z = sA o 19 y1.toNatClampNeg p0 := ⟨_, rfl⟩
  have w := w o9 e10
  obtain ⟨o11, e12⟩ : ∃ z, z = sI o9 18 ((fI o9 18) + 1) := ⟨_, rfl⟩
  have w := w o11 e12
  exact r_iload_n C 1 dX8_putIn_49 rfl (r_iast (ci := 9) (k := 19) C dX8_putIn_50 rfl rfl hu_s i8 e10 hu_hu.symm (r_aload_n C 0 dX8_putIn_51 rfl (r_dup C dX8_putIn_52 rfl (rg_X8_X8_many C dX8_putIn_53 hu_s (r_iconst C (v := 1) dX8_putIn_56 (by decide) (r_iadd C dX8_putIn_57 (rp_X8_X8_many C dX8_putIn_58 hu_s e12 hu_hu.symm (r_vret C hQ dX8_putIn_61 rfl ⟨Nat.le_of_ble_eq_true rfl, Nat.le_of_ble_eq_true rfl⟩ ⟨_, rfl, w⟩))))))))
set_option maxHeartbeats 4000000 in
set_option maxRecDepth 100000 in
theorem t_X8_putIn_33 {X : gCx} {a : Nat}  {p0 : Int32} {p1 : Int32} {post : FO → Prop} {g : GH}   (C : gC X cX8_putIn RX8 none rm_X8_putIn) (hn : xn X = 4) (hQ : gRet X (gQv (xY X) (fun  g9 => ∃ o9, g9 = hu g a (9, o9) ∧ post  o9)) 0 0 ∨ gRex X (gQv (xY X) (fun  g9 => ∃ o9, g9 = hu g a (9, o9) ∧ post  o9)) (fun _ _ => False) 0 0)    : ∀ (o : FO), wp_X8_putIn_33 p0 p1 post o → gX X 0 0 33 [(0, .ref a), (1, .int p0), (2, .int p1)] [] (hu g a (9, o)) := by
  intro o w
  unfold wp_X8_putIn_33 at w
  refine r_aload_n C 0 dX8_putIn_33 rfl (rg_X8_X8_order C dX8_putIn_34 hu_s (r_iload_n C 2 dX8_putIn_37 rfl (r_if_eq C 48 dX8_putIn_38 (by decide) (fun c7 => ?_) (fun c7 => ?_))))
  · have w := w.1 c7
    exact r_iconst C (v := 0) dX8_putIn_48 (by decide) (r_sub [0, 1] rfl (t_X8_putIn_49 C hn hQ _ _ w))
  · have w := w.2 c7
    exact r_aload_n C 0 dX8_putIn_41 rfl (rg_X8_X8_many C dX8_putIn_42 hu_s (r_goto C 49 dX8_putIn_45 (by decide) (r_sub [0, 1] rfl (t_X8_putIn_49 C hn hQ _ _ w))))
set_option maxHeartbeats 4000000 in
set_option maxRecDepth 100000 in
theorem t_X8_putIn_5 {X : gCx} {a : Nat}  {p0 : Int32} {p1 : Int32} {post : FO → Prop} {g : GH}   (C : gC X cX8_putIn RX8 none rm_X8_putIn) (hn : xn X = 4) (hQ : gRet X (gQv (xY X) (fun  g9 => ∃ o9, g9 = hu g a (9, o9) ∧ post  o9)) 0 0 ∨ gRex X (gQv (xY X) (fun  g9 => ∃ o9, g9 = hu g a (9, o9) ∧ post  o9)) (fun _ _ => False) 0 0)    : ∀ (n : Nat) (x3 : Int32) (o : FO), wp_X8_putIn_5 p0 p1 post n x3 o → gX X 0 0 5 [(0, .ref a), (1, .int p0), (2, .int p1), (3, .int x3)] [] (hu g a (9, o)) := by
  intro n
  induction n with
  | zero => intro x3 o w; exact w.elim
  | succ n ih =>
    intro x3 o w
    unfold wp_X8_putIn_5 at w
    refine r_iload_n C 3 dX8_putIn_5 rfl (r_if_le C 33 dX8_putIn_6 (by decide) (fun c1 => ?_) (fun c1 => ?_))
    · have w := w.1 c1
      exact r_sub [0, 1, 2] rfl (t_X8_putIn_33 C hn hQ _ w)
    · have w := w.2 c1
      refine r_iload_n C 2 dX8_putIn_9 rfl (r_if_ne C 33 dX8_putIn_10 (by decide) (fun c2 => ?_) (fun c2 => ?_))
      · have w := w.1 c2
        exact r_sub [0, 1, 2] rfl (t_X8_putIn_33 C hn hQ _ w)
      · have w := w.2 c2
        obtain ⟨i3, w⟩ := w
        obtain ⟨i4, w⟩ := w
        obtain ⟨o5, e6⟩ : ∃ z, z = sA o 19 x3.toNatClampNeg (fA o 19 (x3 - 1).toNatClampNeg) := ⟨_, rfl⟩
        have w := w o5 e6
        exact r_aload_n C 0 dX8_putIn_13 rfl (rg_X8_X8_order C dX8_putIn_14 hu_s (r_iload_n C 3 dX8_putIn_17 rfl (r_aload_n C 0 dX8_putIn_18 rfl (rg_X8_X8_order C dX8_putIn_19 hu_s (r_iload_n C 3 dX8_putIn_22 rfl (r_iconst C (v := 1) dX8_putIn_23 (by decide) (r_isub C dX8_putIn_24 (r_iald (ci := 9) (k := 19) C dX8_putIn_25 rfl rfl hu_s i3 (r_iast (ci := 9) (k := 19) C dX8_putIn_26 rfl rfl hu_s i4 e6 hu_hu.symm (r_iinc C (v := x3 + (-1)) 3 dX8_putIn_27 rfl rfl (nlt hn (by decide)) rfl (r_goto C 5 dX8_putIn_30 (by decide) (r_sub [1, 2, 3, 0] rfl (ih _ _ w)))))))))))))
set_option maxHeartbeats 4000000 in
set_option maxRecDepth 100000 in
theorem m_X8_putIn {Y : gWx} {a : Nat}  {p0 : Int32} {p1 : Int32} {post : FO → Prop} {g : GH}  {o : FO} (hg : g a = some (9, o))    (w : wp_X8_putIn p0 p1 o post) : gMet Y yX8_putIn cX8_putIn 4 none rm_X8_putIn [.ref a, .int p0, .int p1] g (gQv Y (fun  g9 => ∃ o9, g9 = hu g a (9, o9) ∧ post  o9)) 0 0 := by
  refine gm_of rfl (Nat.le_of_ble_eq_true rfl) ?_
  intro X hY hn C hnm hQ
  subst hY
  have hQ : gRet X (gQv (xY X) (fun  g9 => ∃ o9, g9 = hu g a (9, o9) ∧ post  o9)) 0 0 ∨ gRex X (gQv (xY X) (fun  g9 => ∃ o9, g9 = hu g a (9, o9) ∧ post  o9)) (fun _ _ => False) 0 0 := Or.inl hQ
  have C : gC X cX8_putIn RX8 none rm_X8_putIn := C
  refine gX_eq (hu_id hg).symm ?_
  show gX X 0 0 0 [(0, .ref a), (1, .int p0), (2, .int p1)] [] (hu g a (9, o))
  unfold wp_X8_putIn at w
  exact r_aload_n C 0 dX8_putIn_0 rfl (rg_X8_X8_many C dX8_putIn_1 hu_s (r_istore_n C dX8_putIn_4 (nlt hn (by decide)) rfl (r_sub [1, 2, 3, 0] rfl (t_X8_putIn_5 C hn hQ 1000 _ _ w))))
def rm_X8_freeGroup : Room := { frames := 0, cells := 0, slots := 0, locals := 0 }
theorem mt_X8_freeGroup : gMt yX8_freeGroup cX8_freeGroup 4 (some .int) 0 := ⟨tw1240, tw64, by decide +kernel, by decide +kernel, by decide +kernel⟩
def wp_X8_freeGroup_48 (o : FO) (post : Int32 → Prop) (k4 : Int32 → Int32 → Prop) (k12 : Int32 → Int32 → Int32 → Prop) (x1 : Int32) (x3 : Int32) (y0 : Int32)  : Prop :=
k12 x1 y0 (x3 + 1)
def wp_X8_freeGroup_43 (o : FO) (post : Int32 → Prop) (k4 : Int32 → Int32 → Prop) (k12 : Int32 → Int32 → Int32 → Prop) (x1 : Int32) (x3 : Int32)  : Prop :=
wp_X8_freeGroup_48 o post k4 k12 x1 x3 1
def wp_X8_freeGroup_47 (o : FO) (post : Int32 → Prop) (k4 : Int32 → Int32 → Prop) (k12 : Int32 → Int32 → Int32 → Prop) (x1 : Int32) (x3 : Int32)  : Prop :=
wp_X8_freeGroup_48 o post k4 k12 x1 x3 0
def wp_X8_freeGroup_65 (o : FO) (post : Int32 → Prop) (k4 : Int32 → Int32 → Prop) (k12 : Int32 → Int32 → Int32 → Prop) (x2 : Int32) (y0 : Int32) (y1 : Int32)  : Prop :=
k4 (y0 + y1) x2
def wp_X8_freeGroup_12 (o : FO) (post : Int32 → Prop) (k4 : Int32 → Int32 → Prop) : Nat → Int32 → Int32 → Int32 → Prop
  | 0, _, _, _ => False
  | n + 1, x1, x2, x3 =>
    (((fI o 10) ≤ x3 → ((x2 = 0 → wp_X8_freeGroup_65 o post k4 (fun x1 x2 x3 => wp_X8_freeGroup_12 o post k4 n x1 x2 x3) x2 x1 1) ∧ (¬ x2 = 0 → wp_X8_freeGroup_65 o post k4 (fun x1 x2 x3 => wp_X8_freeGroup_12 o post k4 n x1 x2 x3) x2 x1 0))) ∧ (¬ (fI o 10) ≤ x3 → ((x2 = 0 → wp_X8_freeGroup_47 o post k4 (fun x1 x2 x3 => wp_X8_freeGroup_12 o post k4 n x1 x2 x3) x1 x3) ∧ (¬ x2 = 0 → vp_in x3 40 ∧
    (((fA o 20 x3.toNatClampNeg) = 0 → wp_X8_freeGroup_43 o post k4 (fun x1 x2 x3 => wp_X8_freeGroup_12 o post k4 n x1 x2 x3) x1 x3) ∧ (¬ (fA o 20 x3.toNatClampNeg) = 0 → vp_in x3 40 ∧
    (((fA o 24 x3.toNatClampNeg) = x1 → wp_X8_freeGroup_47 o post k4 (fun x1 x2 x3 => wp_X8_freeGroup_12 o post k4 n x1 x2 x3) x1 x3) ∧ (¬ (fA o 24 x3.toNatClampNeg) = x1 → wp_X8_freeGroup_43 o post k4 (fun x1 x2 x3 => wp_X8_freeGroup_12 o post k4 n x1 x2 x3) x1 x3))))))))
def wp_X8_freeGroup_4 (o : FO) (post : Int32 → Prop) : Nat → Int32 → Int32 → Prop
  | 0, _, _ => False
  | n + 1, x1, x2 =>
    ((¬ x2 = 0 → post x1) ∧ (x2 = 0 → wp_X8_freeGroup_12 o post (fun x1 x2 => wp_X8_freeGroup_4 o post n x1 x2) 1000 x1 1 0))
def wp_X8_freeGroup (o : FO)  (post : Int32 → Prop) : Prop :=
wp_X8_freeGroup_4 o post 1000 0 0
set_option maxHeartbeats 4000000 in
set_option maxRecDepth 100000 in
theorem t_X8_freeGroup_48 {X : gCx} {a : Nat}   {post : Int32 → Prop} {g : GH} {o : FO} {k4 : Int32 → Int32 → Prop} {k12 : Int32 → Int32 → Int32 → Prop} (C : gC X cX8_freeGroup RX8 (some .int) rm_X8_freeGroup) (hn : xn X = 4) (hQ : gRet X (gQi (xY X) (fun r9 g9 => g9 = g ∧ post r9)) 0 0 ∨ gRex X (gQi (xY X) (fun r9 g9 => g9 = g ∧ post r9)) (fun _ _ => False) 0 0) (hg : g a = some (9, o))   (hk4 : ∀ (x1 : Int32) (x2 : Int32), k4 x1 x2 → gX X 0 0 4 [(0, .ref a), (1, .int x1), (2, .int x2)] [] g) (hk12 : ∀ (x1 : Int32) (x2 : Int32) (x3 : Int32), k12 x1 x2 x3 → gX X 0 0 12 [(0, .ref a), (1, .int x1), (2, .int x2), (3, .int x3)] [] g) : ∀ (x1 : Int32) (x3 : Int32) (y0 : Int32), wp_X8_freeGroup_48 o post k4 k12 x1 x3 y0 → gX X 0 0 48 [(0, .ref a), (1, .int x1), (3, .int x3)] [.int y0] g := by
  intro x1 x3 y0 w
  unfold wp_X8_freeGroup_48 at w
  exact r_istore_n C dX8_freeGroup_48 (nlt hn (by decide)) rfl (r_iinc C (v := x3 + 1) 3 dX8_freeGroup_49 rfl rfl (nlt hn (by decide)) rfl (r_goto C 12 dX8_freeGroup_52 (by decide) (r_sub [2, 3, 1, 0] rfl (hk12 _ _ _ w))))
set_option maxHeartbeats 4000000 in
set_option maxRecDepth 100000 in
theorem t_X8_freeGroup_43 {X : gCx} {a : Nat}   {post : Int32 → Prop} {g : GH} {o : FO} {k4 : Int32 → Int32 → Prop} {k12 : Int32 → Int32 → Int32 → Prop} (C : gC X cX8_freeGroup RX8 (some .int) rm_X8_freeGroup) (hn : xn X = 4) (hQ : gRet X (gQi (xY X) (fun r9 g9 => g9 = g ∧ post r9)) 0 0 ∨ gRex X (gQi (xY X) (fun r9 g9 => g9 = g ∧ post r9)) (fun _ _ => False) 0 0) (hg : g a = some (9, o))   (hk4 : ∀ (x1 : Int32) (x2 : Int32), k4 x1 x2 → gX X 0 0 4 [(0, .ref a), (1, .int x1), (2, .int x2)] [] g) (hk12 : ∀ (x1 : Int32) (x2 : Int32) (x3 : Int32), k12 x1 x2 x3 → gX X 0 0 12 [(0, .ref a), (1, .int x1), (2, .int x2), (3, .int x3)] [] g) : ∀ (x1 : Int32) (x3 : Int32), wp_X8_freeGroup_43 o post k4 k12 x1 x3 → gX X 0 0 43 [(0, .ref a), (1, .int x1), (3, .int x3)] [] g := by
  intro x1 x3 w
  unfold wp_X8_freeGroup_43 at w
  exact r_iconst C (v := 1) dX8_freeGroup_43 (by decide) (r_goto C 48 dX8_freeGroup_44 (by decide) (r_sub [0, 1, 2] rfl (t_X8_freeGroup_48 C hn hQ hg hk4 hk12 _ _ _ w)))
set_option maxHeartbeats 4000000 in
set_option maxRecDepth 100000 in
theorem t_X8_freeGroup_47 {X : gCx} {a : Nat}   {post : Int32 → Prop} {g : GH} {o : FO} {k4 : Int32 → Int32 → Prop} {k12 : Int32 → Int32 → Int32 → Prop} (C : gC X cX8_freeGroup RX8 (some .int) rm_X8_freeGroup) (hn : xn X = 4) (hQ : gRet X (gQi (xY X) (fun r9 g9 => g9 = g ∧ post r9)) 0 0 ∨ gRex X (gQi (xY X) (fun r9 g9 => g9 = g ∧ post r9)) (fun _ _ => False) 0 0) (hg : g a = some (9, o))   (hk4 : ∀ (x1 : Int32) (x2 : Int32), k4 x1 x2 → gX X 0 0 4 [(0, .ref a), (1, .int x1), (2, .int x2)] [] g) (hk12 : ∀ (x1 : Int32) (x2 : Int32) (x3 : Int32), k12 x1 x2 x3 → gX X 0 0 12 [(0, .ref a), (1, .int x1), (2, .int x2), (3, .int x3)] [] g) : ∀ (x1 : Int32) (x3 : Int32), wp_X8_freeGroup_47 o post k4 k12 x1 x3 → gX X 0 0 47 [(0, .ref a), (1, .int x1), (3, .int x3)] [] g := by
  intro x1 x3 w
  unfold wp_X8_freeGroup_47 at w
  exact r_iconst C (v := 0) dX8_freeGroup_47 (by decide) (r_sub [0, 1, 2] rfl (t_X8_freeGroup_48 C hn hQ hg hk4 hk12 _ _ _ w))
set_option maxHeartbeats 4000000 in
set_option maxRecDepth 100000 in
theorem t_X8_freeGroup_65 {X : gCx} {a : Nat}   {post : Int32 → Prop} {g : GH} {o : FO} {k4 : Int32 → Int32 → Prop} {k12 : Int32 → Int32 → Int32 → Prop} (C : gC X cX8_freeGroup RX8 (some .int) rm_X8_freeGroup) (hn : xn X = 4) (hQ : gRet X (gQi (xY X) (fun r9 g9 => g9 = g ∧ post r9)) 0 0 ∨ gRex X (gQi (xY X) (fun r9 g9 => g9 = g ∧ post r9)) (fun _ _ => False) 0 0) (hg : g a = some (9, o))   (hk4 : ∀ (x1 : Int32) (x2 : Int32), k4 x1 x2 → gX X 0 0 4 [(0, .ref a), (1, .int x1), (2, .int x2)] [] g) (hk12 : ∀ (x1 : Int32) (x2 : Int32) (x3 : Int32), k12 x1 x2 x3 → gX X 0 0 12 [(0, .ref a), (1, .int x1), (2, .int x2), (3, .int x3)] [] g) : ∀ (x2 : Int32) (y0 : Int32) (y1 : Int32), wp_X8_freeGroup_65 o post k4 k12 x2 y0 y1 → gX X 0 0 65 [(0, .ref a), (2, .int x2)] [.int y1, .int y0] g := by
  intro x2 y0 y1 w
  unfold wp_X8_freeGroup_65 at w
  exact r_iadd C dX8_freeGroup_65 (r_istore_n C dX8_freeGroup_66 (nlt hn (by decide)) rfl (r_goto C 4 dX8_freeGroup_67 (by decide) (r_sub [1, 0, 2] rfl (hk4 _ _ w))))
set_option maxHeartbeats 4000000 in
set_option maxRecDepth 100000 in
theorem t_X8_freeGroup_12 {X : gCx} {a : Nat}   {post : Int32 → Prop} {g : GH} {o : FO} {k4 : Int32 → Int32 → Prop} (C : gC X cX8_freeGroup RX8 (some .int) rm_X8_freeGroup) (hn : xn X = 4) (hQ : gRet X (gQi (xY X) (fun r9 g9 => g9 = g ∧ post r9)) 0 0 ∨ gRex X (gQi (xY X) (fun r9 g9 => g9 = g ∧ post r9)) (fun _ _ => False) 0 0) (hg : g a = some (9, o))   (hk4 : ∀ (x1 : Int32) (x2 : Int32), k4 x1 x2 → gX X 0 0 4 [(0, .ref a), (1, .int x1), (2, .int x2)] [] g) : ∀ (n : Nat) (x1 : Int32) (x2 : Int32) (x3 : Int32), wp_X8_freeGroup_12 o post k4 n x1 x2 x3 → gX X 0 0 12 [(0, .ref a), (1, .int x1), (2, .int x2), (3, .int x3)] [] g := by
  intro n
  induction n with
  | zero => intro x1 x2 x3 w; exact w.elim
  | succ n ih =>
    intro x1 x2 x3 w
    unfold wp_X8_freeGroup_12 at w
    refine r_iload_n C 3 dX8_freeGroup_12 rfl (r_aload_n C 0 dX8_freeGroup_13 rfl (rg_X8_X8_shapes C dX8_freeGroup_14 hg (r_icmp_ge C 55 dX8_freeGroup_17 (by decide) (fun c2 => ?_) (fun c2 => ?_))))
    · have w := w.1 c2
      refine r_iload_n C 1 dX8_freeGroup_55 rfl (r_iload_n C 2 dX8_freeGroup_56 rfl (r_if_eq C 64 dX8_freeGroup_57 (by decide) (fun c3 => ?_) (fun c3 => ?_)))
      · have w := w.1 c3
        exact r_iconst C (v := 1) dX8_freeGroup_64 (by decide) (r_sub [0, 2] rfl (t_X8_freeGroup_65 C hn hQ hg hk4 ih _ _ _ w))
      · have w := w.2 c3
        exact r_iconst C (v := 0) dX8_freeGroup_60 (by decide) (r_goto C 65 dX8_freeGroup_61 (by decide) (r_sub [0, 2] rfl (t_X8_freeGroup_65 C hn hQ hg hk4 ih _ _ _ w)))
    · have w := w.2 c2
      refine r_iload_n C 2 dX8_freeGroup_20 rfl (r_if_eq C 47 dX8_freeGroup_21 (by decide) (fun c4 => ?_) (fun c4 => ?_))
      · have w := w.1 c4
        exact r_sub [0, 1, 3] rfl (t_X8_freeGroup_47 C hn hQ hg hk4 ih _ _ w)
      · have w := w.2 c4
        obtain ⟨i5, w⟩ := w
        refine r_aload_n C 0 dX8_freeGroup_24 rfl (rg_X8_X8_isThere C dX8_freeGroup_25 hg (r_iload_n C 3 dX8_freeGroup_28 rfl (r_zald (ci := 9) (k := 20) C dX8_freeGroup_29 rfl rfl hg i5 (r_if_eq C 43 dX8_freeGroup_30 (by decide) (fun c6 => ?_) (fun c6 => ?_)))))
        · have w := w.1 c6
          exact r_sub [0, 1, 3] rfl (t_X8_freeGroup_43 C hn hQ hg hk4 ih _ _ w)
        · have w := w.2 c6
          obtain ⟨i7, w⟩ := w
          refine r_aload_n C 0 dX8_freeGroup_33 rfl (rg_X8_X8_group C dX8_freeGroup_34 hg (r_iload_n C 3 dX8_freeGroup_37 rfl (r_iald (ci := 9) (k := 24) C dX8_freeGroup_38 rfl rfl hg i7 (r_iload_n C 1 dX8_freeGroup_39 rfl (r_icmp_eq C 47 dX8_freeGroup_40 (by decide) (fun c8 => ?_) (fun c8 => ?_))))))
          · have w := w.1 c8
            exact r_sub [0, 1, 3] rfl (t_X8_freeGroup_47 C hn hQ hg hk4 ih _ _ w)
          · have w := w.2 c8
            exact r_sub [0, 1, 3] rfl (t_X8_freeGroup_43 C hn hQ hg hk4 ih _ _ w)
set_option maxHeartbeats 4000000 in
set_option maxRecDepth 100000 in
theorem t_X8_freeGroup_4 {X : gCx} {a : Nat}   {post : Int32 → Prop} {g : GH} {o : FO}  (C : gC X cX8_freeGroup RX8 (some .int) rm_X8_freeGroup) (hn : xn X = 4) (hQ : gRet X (gQi (xY X) (fun r9 g9 => g9 = g ∧ post r9)) 0 0 ∨ gRex X (gQi (xY X) (fun r9 g9 => g9 = g ∧ post r9)) (fun _ _ => False) 0 0) (hg : g a = some (9, o))    : ∀ (n : Nat) (x1 : Int32) (x2 : Int32), wp_X8_freeGroup_4 o post n x1 x2 → gX X 0 0 4 [(0, .ref a), (1, .int x1), (2, .int x2)] [] g := by
  intro n
  induction n with
  | zero => intro x1 x2 w; exact w.elim
  | succ n ih =>
    intro x1 x2 w
    unfold wp_X8_freeGroup_4 at w
    refine r_iload_n C 2 dX8_freeGroup_4 rfl (r_if_ne C 70 dX8_freeGroup_5 (by decide) (fun c1 => ?_) (fun c1 => ?_))
    · have w := w.1 c1
      exact r_iload_n C 1 dX8_freeGroup_70 rfl (r_iret C hQ dX8_freeGroup_71 rfl (vp_nar_int _) ⟨Nat.le_of_ble_eq_true rfl, Nat.le_of_ble_eq_true rfl⟩ ⟨rfl, w⟩)
    · have w := w.2 c1
      exact r_iconst C (v := 1) dX8_freeGroup_8 (by decide) (r_istore_n C dX8_freeGroup_9 (nlt hn (by decide)) rfl (r_iconst C (v := 0) dX8_freeGroup_10 (by decide) (r_istore_n C dX8_freeGroup_11 (nlt hn (by decide)) rfl (r_sub [2, 3, 1, 0] rfl (t_X8_freeGroup_12 C hn hQ hg ih 1000 _ _ _ w)))))
set_option maxHeartbeats 4000000 in
set_option maxRecDepth 100000 in
theorem m_X8_freeGroup {Y : gWx} {a : Nat}   {post : Int32 → Prop} {g : GH} {o : FO} (hg : g a = some (9, o))    (w : wp_X8_freeGroup o post) : gMet Y yX8_freeGroup cX8_freeGroup 4 (some .int) rm_X8_freeGroup [.ref a] g (gQi Y (fun r9 g9 => g9 = g ∧ post r9)) 0 0 := by
  refine gm_of rfl (Nat.le_of_ble_eq_true rfl) ?_
  intro X hY hn C hnm hQ
  subst hY
  have hQ : gRet X (gQi (xY X) (fun r9 g9 => g9 = g ∧ post r9)) 0 0 ∨ gRex X (gQi (xY X) (fun r9 g9 => g9 = g ∧ post r9)) (fun _ _ => False) 0 0 := Or.inl hQ
  have C : gC X cX8_freeGroup RX8 (some .int) rm_X8_freeGroup := C
  show gX X 0 0 0 [(0, .ref a)] [] g
  unfold wp_X8_freeGroup at w
  exact r_iconst C (v := 0) dX8_freeGroup_0 (by decide) (r_istore_n C dX8_freeGroup_1 (nlt hn (by decide)) rfl (r_iconst C (v := 0) dX8_freeGroup_2 (by decide) (r_istore_n C dX8_freeGroup_3 (nlt hn (by decide)) rfl (r_sub [2, 1, 0] rfl (t_X8_freeGroup_4 C hn hQ hg 1000 _ _ w)))))
def rm_X8_comes : Room := { frames := 1, cells := 0, slots := 0, locals := 23 }
theorem mt_X8_comes : gMt yX8_comes cX8_comes 2 none 1 := ⟨tw1236, tw64, by decide +kernel, by decide +kernel, by decide +kernel⟩
def wp_X8_comes (p0 : Int32) (o : FO) (post : FO → Prop) : Prop :=
vp_in p0 40 ∧
∀ o2, o2 = sA o 20 p0.toNatClampNeg (vp_nar .boolean 0) →
wp_X8_freeGroup o2 (fun r4 =>
vp_in p0 40 ∧
∀ o7, o7 = sA o2 24 p0.toNatClampNeg r4 →
vp_in p0 40 ∧
∀ o10, o10 = sA o7 20 p0.toNatClampNeg (vp_nar .boolean 1) →
vp_in p0 40 ∧
vp_in p0 40 ∧
∀ o14, o14 = sA o10 21 p0.toNatClampNeg (fA o10 14 p0.toNatClampNeg) →
vp_in p0 40 ∧
vp_in p0 40 ∧
∀ o18, o18 = sA o14 22 p0.toNatClampNeg (fA o14 15 p0.toNatClampNeg) →
vp_in p0 40 ∧
vp_in p0 40 ∧
∀ o22, o22 = sA o18 23 p0.toNatClampNeg (fA o18 16 p0.toNatClampNeg) →
wp_X8_putIn p0 1 o22 (fun o24 =>
post o24))
set_option maxHeartbeats 4000000 in
set_option maxRecDepth 100000 in
theorem m_X8_comes {Y : gWx} {a : Nat}  {p0 : Int32} {post : FO → Prop} {g : GH}  {o : FO} (hg : g a = some (9, o))    (w : wp_X8_comes p0 o post) : gMet Y yX8_comes cX8_comes 2 none rm_X8_comes [.ref a, .int p0] g (gQv Y (fun  g9 => ∃ o9, g9 = hu g a (9, o9) ∧ post  o9)) 0 0 := by
  refine gm_of rfl (Nat.le_of_ble_eq_true rfl) ?_
  intro X hY hn C hnm hQ
  subst hY
  have hQ : gRet X (gQv (xY X) (fun  g9 => ∃ o9, g9 = hu g a (9, o9) ∧ post  o9)) 0 0 ∨ gRex X (gQv (xY X) (fun  g9 => ∃ o9, g9 = hu g a (9, o9) ∧ post  o9)) (fun _ _ => False) 0 0 := Or.inl hQ
  have C : gC X cX8_comes RX8 none rm_X8_comes := C
  refine gX_eq (hu_id hg).symm ?_
  show gX X 0 0 0 [(0, .ref a), (1, .int p0)] [] (hu g a (9, o))
  unfold wp_X8_comes at w
  obtain ⟨i1, w⟩ := w
  obtain ⟨o2, e3⟩ : ∃ z, z = sA o 20 p0.toNatClampNeg (vp_nar .boolean 0) := ⟨_, rfl⟩
  have w := w o2 e3
  refine r_aload_n C 0 dX8_comes_0 rfl (rg_X8_X8_isThere C dX8_comes_1 hu_s (r_iload_n C 1 dX8_comes_4 rfl (r_iconst C (v := 0) dX8_comes_5 (by decide) (r_zast (ci := 9) (k := 20) C dX8_comes_6 rfl rfl hu_s i1 e3 hu_hu.symm (r_aload_n C 0 dX8_comes_7 rfl (rg_X8_X8_group C dX8_comes_8 hu_s (r_iload_n C 1 dX8_comes_11 rfl (r_aload_n C 0 dX8_comes_12 rfl (r_goi (r_runV C dX8_comes_13 (m_X8_freeGroup hu_s w) mt_X8_freeGroup tw1237 tw1239 tw36 gcl_9.1 hu_s rfl (stk := [.int p0, .ref (a + 21)]) rfl (Nat.le_of_ble_eq_true rfl) ⟨rfl, rfl, ⟨Nat.le_of_ble_eq_true rfl, Nat.le_of_ble_eq_true rfl⟩, ⟨Nat.le_of_ble_eq_true rfl, Nat.le_of_ble_eq_true rfl⟩⟩) ?_)))))))))
  intro r4 h5 hp
  obtain ⟨rfl, w⟩ := hp
  obtain ⟨i6, w⟩ := w
  obtain ⟨o7, e8⟩ : ∃ z, z = sA o2 24 p0.toNatClampNeg r4 := ⟨_, rfl⟩
  have w := w o7 e8
  obtain ⟨i9, w⟩ := w
  obtain ⟨o10, e11⟩ : ∃ z, z = sA o7 20 p0.toNatClampNeg (vp_nar .boolean 1) := ⟨_, rfl⟩
  have w := w o10 e11
  obtain ⟨i12, w⟩ := w
  obtain ⟨i13, w⟩ := w
  obtain ⟨o14, e15⟩ : ∃ z, z = sA o10 21 p0.toNatClampNeg (fA o10 14 p0.toNatClampNeg) := ⟨_, rfl⟩
  have w := w o14 e15
  obtain ⟨i16, w⟩ := w
  obtain ⟨i17, w⟩ := w
  obtain ⟨o18, e19⟩ : ∃ z, z = sA o14 22 p0.toNatClampNeg (fA o14 15 p0.toNatClampNeg) := ⟨_, rfl⟩
  have w := w o18 e19
  obtain ⟨i20, w⟩ := w
  obtain ⟨i21, w⟩ := w
  obtain ⟨o22, e23⟩ : ∃ z, z = sA o18 23 p0.toNatClampNeg (fA o18 16 p0.toNatClampNeg) := ⟨_, rfl⟩
  have w := w o22 e23
  refine r_iast (ci := 9) (k := 24) C dX8_comes_16 rfl rfl hu_s i6 e8 hu_hu.symm (r_aload_n C 0 dX8_comes_17 rfl (rg_X8_X8_isThere C dX8_comes_18 hu_s (r_iload_n C 1 dX8_comes_21 rfl (r_iconst C (v := 1) dX8_comes_22 (by decide) (r_zast (ci := 9) (k := 20) C dX8_comes_23 rfl rfl hu_s i9 e11 hu_hu.symm (r_aload_n C 0 dX8_comes_24 rfl (rg_X8_X8_column C dX8_comes_25 hu_s (r_iload_n C 1 dX8_comes_28 rfl (r_aload_n C 0 dX8_comes_29 rfl (rg_X8_X8_firstColumn C dX8_comes_30 hu_s (r_iload_n C 1 dX8_comes_33 rfl (r_iald (ci := 9) (k := 14) C dX8_comes_34 rfl rfl hu_s i12 (r_iast (ci := 9) (k := 21) C dX8_comes_35 rfl rfl hu_s i13 e15 hu_hu.symm (r_aload_n C 0 dX8_comes_36 rfl (rg_X8_X8_row C dX8_comes_37 hu_s (r_iload_n C 1 dX8_comes_40 rfl (r_aload_n C 0 dX8_comes_41 rfl (rg_X8_X8_firstRow C dX8_comes_42 hu_s (r_iload_n C 1 dX8_comes_45 rfl (r_iald (ci := 9) (k := 15) C dX8_comes_46 rfl rfl hu_s i16 (r_iast (ci := 9) (k := 22) C dX8_comes_47 rfl rfl hu_s i17 e19 hu_hu.symm (r_aload_n C 0 dX8_comes_48 rfl (rg_X8_X8_colour C dX8_comes_49 hu_s (r_iload_n C 1 dX8_comes_52 rfl (r_aload_n C 0 dX8_comes_53 rfl (rg_X8_X8_firstColour C dX8_comes_54 hu_s (r_iload_n C 1 dX8_comes_57 rfl (r_iald (ci := 9) (k := 16) C dX8_comes_58 rfl rfl hu_s i20 (r_iast (ci := 9) (k := 23) C dX8_comes_59 rfl rfl hu_s i21 e23 hu_hu.symm (r_aload_n C 0 dX8_comes_60 rfl (r_iload_n C 1 dX8_comes_61 rfl (r_iconst C (v := 1) dX8_comes_62 (by decide) (r_gov (r_runV C dX8_comes_63 (m_X8_putIn hu_s w) mt_X8_putIn tw1241 tw1243 tw37 gcl_9.1 hu_s rfl (stk := []) rfl (Nat.le_of_ble_eq_true rfl) ⟨rfl, rfl, ⟨Nat.le_of_ble_eq_true rfl, Nat.le_of_ble_eq_true rfl⟩, ⟨Nat.le_of_ble_eq_true rfl, Nat.le_of_ble_eq_true rfl⟩⟩) ?_)))))))))))))))))))))))))))))))))
  intro  h25 hp
  obtain ⟨o24, rfl, w⟩ := hp
  refine gX_eq hu_hu ?_
  exact r_vret C hQ dX8_comes_66 rfl ⟨Nat.le_of_ble_eq_true rfl, Nat.le_of_ble_eq_true rfl⟩ ⟨_, rfl, w⟩
def rm_X8_moves : Room := { frames := 0, cells := 0, slots := 0, locals := 0 }
theorem mt_X8_moves : gMt yX8_moves cX8_moves 5 none 3 := ⟨tw1248, tw64, by decide +kernel, by decide +kernel, by decide +kernel⟩
def wp_X8_moves_60 (p0 : Int32) (p1 : Int32) (p2 : Int32) (post : FO → Prop) (k3 : Int32 → FO → Prop) (x4 : Int32) (o : FO) : Prop :=
k3 (x4 + 1) o
def wp_X8_moves_3 (p0 : Int32) (p1 : Int32) (p2 : Int32) (post : FO → Prop) : Nat → Int32 → FO → Prop
  | 0, _, _ => False
  | n + 1, x4, o =>
    (((fI o 10) ≤ x4 → post o) ∧ (¬ (fI o 10) ≤ x4 → vp_in x4 40 ∧
    (((fA o 20 x4.toNatClampNeg) = 0 → wp_X8_moves_60 p0 p1 p2 post (fun x4 o => wp_X8_moves_3 p0 p1 p2 post n x4 o) x4 o) ∧ (¬ (fA o 20 x4.toNatClampNeg) = 0 → vp_in x4 40 ∧
    vp_in p0 40 ∧
    ((¬ (fA o 24 x4.toNatClampNeg) = (fA o 24 p0.toNatClampNeg) → wp_X8_moves_60 p0 p1 p2 post (fun x4 o => wp_X8_moves_3 p0 p1 p2 post n x4 o) x4 o) ∧ ((fA o 24 x4.toNatClampNeg) = (fA o 24 p0.toNatClampNeg) → vp_in x4 40 ∧
    vp_in x4 40 ∧
    ∀ o9, o9 = sA o 21 x4.toNatClampNeg ((fA o 21 x4.toNatClampNeg) + p1) →
    vp_in x4 40 ∧
    vp_in x4 40 ∧
    ∀ o13, o13 = sA o9 22 x4.toNatClampNeg ((fA o9 22 x4.toNatClampNeg) + p2) →
    wp_X8_moves_60 p0 p1 p2 post (fun x4 o => wp_X8_moves_3 p0 p1 p2 post n x4 o) x4 o13))))))
def wp_X8_moves (p0 : Int32) (p1 : Int32) (p2 : Int32) (o : FO) (post : FO → Prop) : Prop :=
wp_X8_moves_3 p0 p1 p2 post 1000 0 o
set_option maxHeartbeats 4000000 in
set_option maxRecDepth 100000 in
theorem t_X8_moves_60 {X : gCx} {a : Nat}  {p0 : Int32} {p1 : Int32} {p2 : Int32} {post : FO → Prop} {g : GH}  {k3 : Int32 → FO → Prop} (C : gC X cX8_moves RX8 none rm_X8_moves) (hn : xn X = 5) (hQ : gRet X (gQv (xY X) (fun  g9 => ∃ o9, g9 = hu g a (9, o9) ∧ post  o9)) 0 0 ∨ gRex X (gQv (xY X) (fun  g9 => ∃ o9, g9 = hu g a (9, o9) ∧ post  o9)) (fun _ _ => False) 0 0)   (hk3 : ∀ (x4 : Int32) (o : FO), k3 x4 o → gX X 0 0 3 [(0, .ref a), (1, .int p0), (2, .int p1), (3, .int p2), (4, .int x4)] [] (hu g a (9, o))) : ∀ (x4 : Int32) (o : FO), wp_X8_moves_60 p0 p1 p2 post k3 x4 o → gX X 0 0 60 [(0, .ref a), (1, .int p0), (2, .int p1), (3, .int p2), (4, .int x4)] [] (hu g a (9, o)) := by
  intro x4 o w
  unfold wp_X8_moves_60 at w
  exact r_iinc C (v := x4 + 1) 4 dX8_moves_60 rfl rfl (nlt hn (by decide)) rfl (r_goto C 3 dX8_moves_63 (by decide) (r_sub [1, 2, 3, 4, 0] rfl (hk3 _ _ w)))
set_option maxHeartbeats 4000000 in
set_option maxRecDepth 100000 in
theorem t_X8_moves_3 {X : gCx} {a : Nat}  {p0 : Int32} {p1 : Int32} {p2 : Int32} {post : FO → Prop} {g : GH}   (C : gC X cX8_moves RX8 none rm_X8_moves) (hn : xn X = 5) (hQ : gRet X (gQv (xY X) (fun  g9 => ∃ o9, g9 = hu g a (9, o9) ∧ post  o9)) 0 0 ∨ gRex X (gQv (xY X) (fun  g9 => ∃ o9, g9 = hu g a (9, o9) ∧ post  o9)) (fun _ _ => False) 0 0)    : ∀ (n : Nat) (x4 : Int32) (o : FO), wp_X8_moves_3 p0 p1 p2 post n x4 o → gX X 0 0 3 [(0, .ref a), (1, .int p0), (2, .int p1), (3, .int p2), (4, .int x4)] [] (hu g a (9, o)) := by
  intro n
  induction n with
  | zero => intro x4 o w; exact w.elim
  | succ n ih =>
    intro x4 o w
    unfold wp_X8_moves_3 at w
    refine r_iload C 4 dX8_moves_3 rfl (r_aload_n C 0 dX8_moves_5 rfl (rg_X8_X8_shapes C dX8_moves_6 hu_s (r_icmp_ge C 66 dX8_moves_9 (by decide) (fun c1 => ?_) (fun c1 => ?_))))
    · have w := w.1 c1
      exact r_vret C hQ dX8_moves_66 rfl ⟨Nat.le_of_ble_eq_true rfl, Nat.le_of_ble_eq_true rfl⟩ ⟨_, rfl, w⟩
    · have w := w.2 c1
      obtain ⟨i2, w⟩ := w
      refine r_aload_n C 0 dX8_moves_12 rfl (rg_X8_X8_isThere C dX8_moves_13 hu_s (r_iload C 4 dX8_moves_16 rfl (r_zald (ci := 9) (k := 20) C dX8_moves_18 rfl rfl hu_s i2 (r_if_eq C 60 dX8_moves_19 (by decide) (fun c3 => ?_) (fun c3 => ?_)))))
      · have w := w.1 c3
        exact r_sub [0, 1, 2, 3, 4] rfl (t_X8_moves_60 C hn hQ ih _ _ w)
      · have w := w.2 c3
        obtain ⟨i4, w⟩ := w
        obtain ⟨i5, w⟩ := w
        refine r_aload_n C 0 dX8_moves_22 rfl (rg_X8_X8_group C dX8_moves_23 hu_s (r_iload C 4 dX8_moves_26 rfl (r_iald (ci := 9) (k := 24) C dX8_moves_28 rfl rfl hu_s i4 (r_aload_n C 0 dX8_moves_29 rfl (rg_X8_X8_group C dX8_moves_30 hu_s (r_iload_n C 1 dX8_moves_33 rfl (r_iald (ci := 9) (k := 24) C dX8_moves_34 rfl rfl hu_s i5 (r_icmp_ne C 60 dX8_moves_35 (by decide) (fun c6 => ?_) (fun c6 => ?_)))))))))
        · have w := w.1 c6
          exact r_sub [0, 1, 2, 3, 4] rfl (t_X8_moves_60 C hn hQ ih _ _ w)
        · have w := w.2 c6
          obtain ⟨i7, w⟩ := w
          obtain ⟨i8, w⟩ := w
          obtain ⟨o9, e10⟩ : ∃ z, z = sA o 21 x4.toNatClampNeg ((fA o 21 x4.toNatClampNeg) + p1) := ⟨_, rfl⟩
          have w := w o9 e10
          obtain ⟨i11, w⟩ := w
          obtain ⟨i12, w⟩ := w
          obtain ⟨o13, e14⟩ : ∃ z, z = sA o9 22 x4.toNatClampNeg ((fA o9 22 x4.toNatClampNeg) + p2) := ⟨_, rfl⟩
          have w := w o13 e14
          exact r_aload_n C 0 dX8_moves_38 rfl (rg_X8_X8_column C dX8_moves_39 hu_s (r_iload C 4 dX8_moves_42 rfl (r_dup2 C dX8_moves_44 rfl rfl (r_iald (ci := 9) (k := 21) C dX8_moves_45 rfl rfl hu_s i7 (r_iload_n C 2 dX8_moves_46 rfl (r_iadd C dX8_moves_47 (r_iast (ci := 9) (k := 21) C dX8_moves_48 rfl rfl hu_s i8 e10 hu_hu.symm (r_aload_n C 0 dX8_moves_49 rfl (rg_X8_X8_row C dX8_moves_50 hu_s (r_iload C 4 dX8_moves_53 rfl (r_dup2 C dX8_moves_55 rfl rfl (r_iald (ci := 9) (k := 22) C dX8_moves_56 rfl rfl hu_s i11 (r_iload_n C 3 dX8_moves_57 rfl (r_iadd C dX8_moves_58 (r_iast (ci := 9) (k := 22) C dX8_moves_59 rfl rfl hu_s i12 e14 hu_hu.symm (r_sub [0, 1, 2, 3, 4] rfl (t_X8_moves_60 C hn hQ ih _ _ w)))))))))))))))))
set_option maxHeartbeats 4000000 in
set_option maxRecDepth 100000 in
theorem m_X8_moves {Y : gWx} {a : Nat}  {p0 : Int32} {p1 : Int32} {p2 : Int32} {post : FO → Prop} {g : GH}  {o : FO} (hg : g a = some (9, o))    (w : wp_X8_moves p0 p1 p2 o post) : gMet Y yX8_moves cX8_moves 5 none rm_X8_moves [.ref a, .int p0, .int p1, .int p2] g (gQv Y (fun  g9 => ∃ o9, g9 = hu g a (9, o9) ∧ post  o9)) 0 0 := by
  refine gm_of rfl (Nat.le_of_ble_eq_true rfl) ?_
  intro X hY hn C hnm hQ
  subst hY
  have hQ : gRet X (gQv (xY X) (fun  g9 => ∃ o9, g9 = hu g a (9, o9) ∧ post  o9)) 0 0 ∨ gRex X (gQv (xY X) (fun  g9 => ∃ o9, g9 = hu g a (9, o9) ∧ post  o9)) (fun _ _ => False) 0 0 := Or.inl hQ
  have C : gC X cX8_moves RX8 none rm_X8_moves := C
  refine gX_eq (hu_id hg).symm ?_
  show gX X 0 0 0 [(0, .ref a), (1, .int p0), (2, .int p1), (3, .int p2)] [] (hu g a (9, o))
  unfold wp_X8_moves at w
  exact r_iconst C (v := 0) dX8_moves_0 (by decide) (r_istore C dX8_moves_1 (nlt hn (by decide)) rfl (r_sub [1, 2, 3, 4, 0] rfl (t_X8_moves_3 C hn hQ 1000 _ _ w)))
def rm_X8_joins : Room := { frames := 0, cells := 0, slots := 0, locals := 0 }
theorem mt_X8_joins : gMt yX8_joins cX8_joins 5 none 2 := ⟨tw1252, tw64, by decide +kernel, by decide +kernel, by decide +kernel⟩
def wp_X8_joins_62 (p0 : Int32) (p1 : Int32) (post : FO → Prop) (k10 : Int32 → Int32 → FO → Prop) (x3 : Int32) (x4 : Int32) (y1 : Int32) (y2 : Int32) (o : FO) : Prop :=
vp_in y1 40 ∧
∀ o10, o10 = sA o 24 y1.toNatClampNeg y2 →
k10 x3 (x4 + 1) o10
def wp_X8_joins_55 (p0 : Int32) (p1 : Int32) (post : FO → Prop) (k10 : Int32 → Int32 → FO → Prop) (x3 : Int32) (x4 : Int32) (y1 : Int32) (o : FO) : Prop :=
vp_in x4 40 ∧
wp_X8_joins_62 p0 p1 post k10 x3 x4 y1 (fA o 24 x4.toNatClampNeg) o
def wp_X8_joins_10 (p0 : Int32) (p1 : Int32) (post : FO → Prop) : Nat → Int32 → Int32 → FO → Prop
  | 0, _, _, _ => False
  | n + 1, x3, x4, o =>
    (((fI o 10) ≤ x4 → post o) ∧ (¬ (fI o 10) ≤ x4 → vp_in x4 40 ∧
    (((fA o 20 x4.toNatClampNeg) = 0 → wp_X8_joins_55 p0 p1 post (fun x3 x4 o => wp_X8_joins_10 p0 p1 post n x3 x4 o) x3 x4 x4 o) ∧ (¬ (fA o 20 x4.toNatClampNeg) = 0 → vp_in x4 40 ∧
    ((¬ (fA o 24 x4.toNatClampNeg) = x3 → wp_X8_joins_55 p0 p1 post (fun x3 x4 o => wp_X8_joins_10 p0 p1 post n x3 x4 o) x3 x4 x4 o) ∧ ((fA o 24 x4.toNatClampNeg) = x3 → vp_in p0 40 ∧
    wp_X8_joins_62 p0 p1 post (fun x3 x4 o => wp_X8_joins_10 p0 p1 post n x3 x4 o) x3 x4 x4 (fA o 24 p0.toNatClampNeg) o))))))
def wp_X8_joins (p0 : Int32) (p1 : Int32) (o : FO) (post : FO → Prop) : Prop :=
vp_in p1 40 ∧
wp_X8_joins_10 p0 p1 post 1000 (fA o 24 p1.toNatClampNeg) 0 o
set_option maxHeartbeats 4000000 in
set_option maxRecDepth 100000 in
theorem t_X8_joins_62 {X : gCx} {a : Nat}  {p0 : Int32} {p1 : Int32} {post : FO → Prop} {g : GH}  {k10 : Int32 → Int32 → FO → Prop} (C : gC X cX8_joins RX8 none rm_X8_joins) (hn : xn X = 5) (hQ : gRet X (gQv (xY X) (fun  g9 => ∃ o9, g9 = hu g a (9, o9) ∧ post  o9)) 0 0 ∨ gRex X (gQv (xY X) (fun  g9 => ∃ o9, g9 = hu g a (9, o9) ∧ post  o9)) (fun _ _ => False) 0 0)   (hk10 : ∀ (x3 : Int32) (x4 : Int32) (o : FO), k10 x3 x4 o → gX X 0 0 10 [(0, .ref a), (1, .int p0), (3, .int x3), (4, .int x4)] [] (hu g a (9, o))) : ∀ (x3 : Int32) (x4 : Int32) (y1 : Int32) (y2 : Int32) (o : FO), wp_X8_joins_62 p0 p1 post k10 x3 x4 y1 y2 o → gX X 0 0 62 [(0, .ref a), (1, .int p0), (3, .int x3), (4, .int x4)] [.int y2, .int y1, .ref (a + 21)] (hu g a (9, o)) := by
  intro x3 x4 y1 y2 o w
  unfold wp_X8_joins_62 at w
  obtain ⟨i9, w⟩ := w
  obtain ⟨o10, e11⟩ : ∃ z, z = sA o 24 y1.toNatClampNeg y2 := ⟨_, rfl⟩
  have w := w o10 e11
  exact r_iast (ci := 9) (k := 24) C dX8_joins_62 rfl rfl hu_s i9 e11 hu_hu.symm (r_iinc C (v := x4 + 1) 3 dX8_joins_63 rfl rfl (nlt hn (by decide)) rfl (r_goto C 10 dX8_joins_66 (by decide) (r_sub [1, 2, 3, 0] rfl (hk10 _ _ _ w))))
set_option maxHeartbeats 4000000 in
set_option maxRecDepth 100000 in
theorem t_X8_joins_55 {X : gCx} {a : Nat}  {p0 : Int32} {p1 : Int32} {post : FO → Prop} {g : GH}  {k10 : Int32 → Int32 → FO → Prop} (C : gC X cX8_joins RX8 none rm_X8_joins) (hn : xn X = 5) (hQ : gRet X (gQv (xY X) (fun  g9 => ∃ o9, g9 = hu g a (9, o9) ∧ post  o9)) 0 0 ∨ gRex X (gQv (xY X) (fun  g9 => ∃ o9, g9 = hu g a (9, o9) ∧ post  o9)) (fun _ _ => False) 0 0)   (hk10 : ∀ (x3 : Int32) (x4 : Int32) (o : FO), k10 x3 x4 o → gX X 0 0 10 [(0, .ref a), (1, .int p0), (3, .int x3), (4, .int x4)] [] (hu g a (9, o))) : ∀ (x3 : Int32) (x4 : Int32) (y1 : Int32) (o : FO), wp_X8_joins_55 p0 p1 post k10 x3 x4 y1 o → gX X 0 0 55 [(0, .ref a), (1, .int p0), (3, .int x3), (4, .int x4)] [.int y1, .ref (a + 21)] (hu g a (9, o)) := by
  intro x3 x4 y1 o w
  unfold wp_X8_joins_55 at w
  obtain ⟨i8, w⟩ := w
  exact r_aload_n C 0 dX8_joins_55 rfl (rg_X8_X8_group C dX8_joins_56 hu_s (r_iload C 3 dX8_joins_59 rfl (r_iald (ci := 9) (k := 24) C dX8_joins_61 rfl rfl hu_s i8 (r_sub [0, 1, 2, 3] rfl (t_X8_joins_62 C hn hQ hk10 _ _ _ _ _ w)))))
set_option maxHeartbeats 4000000 in
set_option maxRecDepth 100000 in
theorem t_X8_joins_10 {X : gCx} {a : Nat}  {p0 : Int32} {p1 : Int32} {post : FO → Prop} {g : GH}   (C : gC X cX8_joins RX8 none rm_X8_joins) (hn : xn X = 5) (hQ : gRet X (gQv (xY X) (fun  g9 => ∃ o9, g9 = hu g a (9, o9) ∧ post  o9)) 0 0 ∨ gRex X (gQv (xY X) (fun  g9 => ∃ o9, g9 = hu g a (9, o9) ∧ post  o9)) (fun _ _ => False) 0 0)    : ∀ (n : Nat) (x3 : Int32) (x4 : Int32) (o : FO), wp_X8_joins_10 p0 p1 post n x3 x4 o → gX X 0 0 10 [(0, .ref a), (1, .int p0), (3, .int x3), (4, .int x4)] [] (hu g a (9, o)) := by
  intro n
  induction n with
  | zero => intro x3 x4 o w; exact w.elim
  | succ n ih =>
    intro x3 x4 o w
    unfold wp_X8_joins_10 at w
    refine r_iload C 3 dX8_joins_10 rfl (r_aload_n C 0 dX8_joins_12 rfl (rg_X8_X8_shapes C dX8_joins_13 hu_s (r_icmp_ge C 69 dX8_joins_16 (by decide) (fun c2 => ?_) (fun c2 => ?_))))
    · have w := w.1 c2
      exact r_vret C hQ dX8_joins_69 rfl ⟨Nat.le_of_ble_eq_true rfl, Nat.le_of_ble_eq_true rfl⟩ ⟨_, rfl, w⟩
    · have w := w.2 c2
      obtain ⟨i3, w⟩ := w
      refine r_aload_n C 0 dX8_joins_19 rfl (rg_X8_X8_group C dX8_joins_20 hu_s (r_iload C 3 dX8_joins_23 rfl (r_aload_n C 0 dX8_joins_25 rfl (rg_X8_X8_isThere C dX8_joins_26 hu_s (r_iload C 3 dX8_joins_29 rfl (r_zald (ci := 9) (k := 20) C dX8_joins_31 rfl rfl hu_s i3 (r_if_eq C 55 dX8_joins_32 (by decide) (fun c4 => ?_) (fun c4 => ?_))))))))
      · have w := w.1 c4
        exact r_sub [0, 1, 2, 3] rfl (t_X8_joins_55 C hn hQ ih _ _ _ _ w)
      · have w := w.2 c4
        obtain ⟨i5, w⟩ := w
        refine r_aload_n C 0 dX8_joins_35 rfl (rg_X8_X8_group C dX8_joins_36 hu_s (r_iload C 3 dX8_joins_39 rfl (r_iald (ci := 9) (k := 24) C dX8_joins_41 rfl rfl hu_s i5 (r_iload_n C 2 dX8_joins_42 rfl (r_icmp_ne C 55 dX8_joins_43 (by decide) (fun c6 => ?_) (fun c6 => ?_))))))
        · have w := w.1 c6
          exact r_sub [0, 1, 2, 3] rfl (t_X8_joins_55 C hn hQ ih _ _ _ _ w)
        · have w := w.2 c6
          obtain ⟨i7, w⟩ := w
          exact r_aload_n C 0 dX8_joins_46 rfl (rg_X8_X8_group C dX8_joins_47 hu_s (r_iload_n C 1 dX8_joins_50 rfl (r_iald (ci := 9) (k := 24) C dX8_joins_51 rfl rfl hu_s i7 (r_goto C 62 dX8_joins_52 (by decide) (r_sub [0, 1, 2, 3] rfl (t_X8_joins_62 C hn hQ ih _ _ _ _ _ w))))))
set_option maxHeartbeats 4000000 in
set_option maxRecDepth 100000 in
theorem m_X8_joins {Y : gWx} {a : Nat}  {p0 : Int32} {p1 : Int32} {post : FO → Prop} {g : GH}  {o : FO} (hg : g a = some (9, o))    (w : wp_X8_joins p0 p1 o post) : gMet Y yX8_joins cX8_joins 5 none rm_X8_joins [.ref a, .int p0, .int p1] g (gQv Y (fun  g9 => ∃ o9, g9 = hu g a (9, o9) ∧ post  o9)) 0 0 := by
  refine gm_of rfl (Nat.le_of_ble_eq_true rfl) ?_
  intro X hY hn C hnm hQ
  subst hY
  have hQ : gRet X (gQv (xY X) (fun  g9 => ∃ o9, g9 = hu g a (9, o9) ∧ post  o9)) 0 0 ∨ gRex X (gQv (xY X) (fun  g9 => ∃ o9, g9 = hu g a (9, o9) ∧ post  o9)) (fun _ _ => False) 0 0 := Or.inl hQ
  have C : gC X cX8_joins RX8 none rm_X8_joins := C
  refine gX_eq (hu_id hg).symm ?_
  show gX X 0 0 0 [(0, .ref a), (1, .int p0), (2, .int p1)] [] (hu g a (9, o))
  unfold wp_X8_joins at w
  obtain ⟨i1, w⟩ := w
  exact r_aload_n C 0 dX8_joins_0 rfl (rg_X8_X8_group C dX8_joins_1 hu_s (r_iload_n C 2 dX8_joins_4 rfl (r_iald (ci := 9) (k := 24) C dX8_joins_5 rfl rfl hu_s i1 (r_istore_n C dX8_joins_6 (nlt hn (by decide)) rfl (r_iconst C (v := 0) dX8_joins_7 (by decide) (r_istore C dX8_joins_8 (nlt hn (by decide)) rfl (r_sub [2, 3, 1, 0] rfl (t_X8_joins_10 C hn hQ 1000 _ _ _ w))))))))
def rm_X8_does : Room := { frames := 2, cells := 0, slots := 0, locals := 44 }
theorem mt_X8_does : gMt yX8_does cX8_does 3 none 1 := ⟨tw1232, tw64, by decide +kernel, by decide +kernel, by decide +kernel⟩
def wp_X8_does_227 (p0 : Int32) (post : FO → Prop) (y1 : Int32) (y2 : Int32) (o : FO) : Prop :=
wp_X8_putIn y1 y2 o (fun o54 =>
post o54)
def wp_X8_does_200 (p0 : Int32) (post : FO → Prop) (x2 : Int32) (y1 : Int32) (y2 : Int32) (o : FO) : Prop :=
vp_in y1 40 ∧
∀ o48, o48 = sA o 20 y1.toNatClampNeg (vp_nar .boolean y2) →
vp_in x2 40 ∧
(((fA o48 20 x2.toNatClampNeg) = 0 → post o48) ∧ (¬ (fA o48 20 x2.toNatClampNeg) = 0 → vp_in p0 200 ∧
((¬ (fA o48 2 p0.toNatClampNeg) = 3 → wp_X8_does_227 p0 post x2 0 o48) ∧ ((fA o48 2 p0.toNatClampNeg) = 3 → wp_X8_does_227 p0 post x2 1 o48))))
def wp_X8_does_57 (p0 : Int32) (post : FO → Prop) (x2 : Int32) (o : FO) : Prop :=
vp_in p0 200 ∧
((¬ (fA o 2 p0.toNatClampNeg) = 1 → vp_in p0 200 ∧
((¬ (fA o 2 p0.toNatClampNeg) = 2 → vp_in p0 200 ∧
((¬ (fA o 2 p0.toNatClampNeg) = 5 → vp_in p0 200 ∧
((¬ (fA o 2 p0.toNatClampNeg) = 6 → wp_X8_takeOut x2 o (fun o21 =>
vp_in p0 200 ∧
(((fA o21 2 p0.toNatClampNeg) = 7 → wp_X8_does_200 p0 post x2 x2 0 o21) ∧ (¬ (fA o21 2 p0.toNatClampNeg) = 7 → wp_X8_does_200 p0 post x2 x2 1 o21)))) ∧ ((fA o 2 p0.toNatClampNeg) = 6 → vp_in x2 40 ∧
∀ o26, o26 = sA o 20 x2.toNatClampNeg (vp_nar .boolean 0) →
wp_X8_freeGroup o26 (fun r28 =>
vp_in x2 40 ∧
∀ o31, o31 = sA o26 24 x2.toNatClampNeg r28 →
vp_in x2 40 ∧
∀ o34, o34 = sA o31 20 x2.toNatClampNeg (vp_nar .boolean 1) →
post o34)))) ∧ ((fA o 2 p0.toNatClampNeg) = 5 → vp_in p0 200 ∧
wp_X8_joins x2 (fA o 5 p0.toNatClampNeg) o (fun o37 =>
post o37)))) ∧ ((fA o 2 p0.toNatClampNeg) = 2 → vp_in p0 200 ∧
vp_in x2 40 ∧
∀ o41, o41 = sA o 23 x2.toNatClampNeg (fA o 5 p0.toNatClampNeg) →
post o41))) ∧ ((fA o 2 p0.toNatClampNeg) = 1 → vp_in p0 200 ∧
vp_in p0 200 ∧
wp_X8_moves x2 (fA o 5 p0.toNatClampNeg) (fA o 6 p0.toNatClampNeg) o (fun o45 =>
post o45)))
def wp_X8_does (p0 : Int32) (o : FO) (post : FO → Prop) : Prop :=
vp_in p0 200 ∧
vp_in p0 200 ∧
((¬ (fA o 2 p0.toNatClampNeg) = 0 → vp_in (fA o 4 p0.toNatClampNeg) 40 ∧
(((fA o 20 (fA o 4 p0.toNatClampNeg).toNatClampNeg) = 0 → post o) ∧ (¬ (fA o 20 (fA o 4 p0.toNatClampNeg).toNatClampNeg) = 0 → vp_in p0 200 ∧
((¬ (fA o 2 p0.toNatClampNeg) = 5 → wp_X8_does_57 p0 post (fA o 4 p0.toNatClampNeg) o) ∧ ((fA o 2 p0.toNatClampNeg) = 5 → vp_in p0 200 ∧
vp_in (fA o 5 p0.toNatClampNeg) 40 ∧
(((fA o 20 (fA o 5 p0.toNatClampNeg).toNatClampNeg) = 0 → post o) ∧ (¬ (fA o 20 (fA o 5 p0.toNatClampNeg).toNatClampNeg) = 0 → wp_X8_does_57 p0 post (fA o 4 p0.toNatClampNeg) o))))))) ∧ ((fA o 2 p0.toNatClampNeg) = 0 → wp_X8_comes (fA o 4 p0.toNatClampNeg) o (fun o11 =>
post o11)))
set_option maxHeartbeats 4000000 in
set_option maxRecDepth 100000 in
theorem t_X8_does_227 {X : gCx} {a : Nat}  {p0 : Int32} {post : FO → Prop} {g : GH}   (C : gC X cX8_does RX8 none rm_X8_does) (hn : xn X = 3) (hQ : gRet X (gQv (xY X) (fun  g9 => ∃ o9, g9 = hu g a (9, o9) ∧ post  o9)) 0 0 ∨ gRex X (gQv (xY X) (fun  g9 => ∃ o9, g9 = hu g a (9, o9) ∧ post  o9)) (fun _ _ => False) 0 0)    : ∀ (y1 : Int32) (y2 : Int32) (o : FO), wp_X8_does_227 p0 post y1 y2 o → gX X 0 0 227 [] [.int y2, .int y1, .ref a] (hu g a (9, o)) := by
  intro y1 y2 o w
  unfold wp_X8_does_227 at w
  refine r_gov (r_runV C dX8_does_227 (m_X8_putIn hu_s w) mt_X8_putIn tw1241 tw1243 tw37 gcl_9.1 hu_s rfl (stk := []) rfl (Nat.le_of_ble_eq_true rfl) ⟨rfl, rfl, ⟨Nat.le_of_ble_eq_true rfl, Nat.le_of_ble_eq_true rfl⟩, ⟨Nat.le_of_ble_eq_true rfl, Nat.le_of_ble_eq_true rfl⟩⟩) ?_
  intro  h55 hp
  obtain ⟨o54, rfl, w⟩ := hp
  refine gX_eq hu_hu ?_
  exact r_vret C hQ dX8_does_230 rfl ⟨Nat.le_of_ble_eq_true rfl, Nat.le_of_ble_eq_true rfl⟩ ⟨_, rfl, w⟩
set_option maxHeartbeats 4000000 in
set_option maxRecDepth 100000 in
theorem t_X8_does_200 {X : gCx} {a : Nat}  {p0 : Int32} {post : FO → Prop} {g : GH}   (C : gC X cX8_does RX8 none rm_X8_does) (hn : xn X = 3) (hQ : gRet X (gQv (xY X) (fun  g9 => ∃ o9, g9 = hu g a (9, o9) ∧ post  o9)) 0 0 ∨ gRex X (gQv (xY X) (fun  g9 => ∃ o9, g9 = hu g a (9, o9) ∧ post  o9)) (fun _ _ => False) 0 0)    : ∀ (x2 : Int32) (y1 : Int32) (y2 : Int32) (o : FO), wp_X8_does_200 p0 post x2 y1 y2 o → gX X 0 0 200 [(0, .ref a), (1, .int p0), (2, .int x2)] [.int y2, .int y1, .ref (a + 17)] (hu g a (9, o)) := by
  intro x2 y1 y2 o w
  unfold wp_X8_does_200 at w
  obtain ⟨i47, w⟩ := w
  obtain ⟨o48, e49⟩ : ∃ z, z = sA o 20 y1.toNatClampNeg (vp_nar .boolean y2) := ⟨_, rfl⟩
  have w := w o48 e49
  obtain ⟨i50, w⟩ := w
  refine r_zast (ci := 9) (k := 20) C dX8_does_200 rfl rfl hu_s i47 e49 hu_hu.symm (r_aload_n C 0 dX8_does_201 rfl (rg_X8_X8_isThere C dX8_does_202 hu_s (r_iload_n C 2 dX8_does_205 rfl (r_zald (ci := 9) (k := 20) C dX8_does_206 rfl rfl hu_s i50 (r_if_eq C 230 dX8_does_207 (by decide) (fun c51 => ?_) (fun c51 => ?_))))))
  · have w := w.1 c51
    exact r_vret C hQ dX8_does_230 rfl ⟨Nat.le_of_ble_eq_true rfl, Nat.le_of_ble_eq_true rfl⟩ ⟨_, rfl, w⟩
  · have w := w.2 c51
    obtain ⟨i52, w⟩ := w
    refine r_aload_n C 0 dX8_does_210 rfl (r_iload_n C 2 dX8_does_211 rfl (r_aload_n C 0 dX8_does_212 rfl (rg_X8_X8_kind C dX8_does_213 hu_s (r_iload_n C 1 dX8_does_216 rfl (r_iald (ci := 9) (k := 2) C dX8_does_217 rfl rfl hu_s i52 (r_iconst C (v := 3) dX8_does_218 (by decide) (r_icmp_ne C 226 dX8_does_219 (by decide) (fun c53 => ?_) (fun c53 => ?_))))))))
    · have w := w.1 c53
      exact r_iconst C (v := 0) dX8_does_226 (by decide) (r_sub [] rfl (t_X8_does_227 C hn hQ _ _ _ w))
    · have w := w.2 c53
      exact r_iconst C (v := 1) dX8_does_222 (by decide) (r_goto C 227 dX8_does_223 (by decide) (r_sub [] rfl (t_X8_does_227 C hn hQ _ _ _ w)))
set_option maxHeartbeats 4000000 in
set_option maxRecDepth 100000 in
theorem t_X8_does_57 {X : gCx} {a : Nat}  {p0 : Int32} {post : FO → Prop} {g : GH}   (C : gC X cX8_does RX8 none rm_X8_does) (hn : xn X = 3) (hQ : gRet X (gQv (xY X) (fun  g9 => ∃ o9, g9 = hu g a (9, o9) ∧ post  o9)) 0 0 ∨ gRex X (gQv (xY X) (fun  g9 => ∃ o9, g9 = hu g a (9, o9) ∧ post  o9)) (fun _ _ => False) 0 0)    : ∀ (x2 : Int32) (o : FO), wp_X8_does_57 p0 post x2 o → gX X 0 0 57 [(0, .ref a), (1, .int p0), (2, .int x2)] [] (hu g a (9, o)) := by
  intro x2 o w
  unfold wp_X8_does_57 at w
  obtain ⟨i13, w⟩ := w
  refine r_aload_n C 0 dX8_does_57 rfl (rg_X8_X8_kind C dX8_does_58 hu_s (r_iload_n C 1 dX8_does_61 rfl (r_iald (ci := 9) (k := 2) C dX8_does_62 rfl rfl hu_s i13 (r_iconst C (v := 1) dX8_does_63 (by decide) (r_icmp_ne C 87 dX8_does_64 (by decide) (fun c14 => ?_) (fun c14 => ?_))))))
  · have w := w.1 c14
    obtain ⟨i15, w⟩ := w
    refine r_aload_n C 0 dX8_does_87 rfl (rg_X8_X8_kind C dX8_does_88 hu_s (r_iload_n C 1 dX8_does_91 rfl (r_iald (ci := 9) (k := 2) C dX8_does_92 rfl rfl hu_s i15 (r_iconst C (v := 2) dX8_does_93 (by decide) (r_icmp_ne C 112 dX8_does_94 (by decide) (fun c16 => ?_) (fun c16 => ?_))))))
    · have w := w.1 c16
      obtain ⟨i17, w⟩ := w
      refine r_aload_n C 0 dX8_does_112 rfl (rg_X8_X8_kind C dX8_does_113 hu_s (r_iload_n C 1 dX8_does_116 rfl (r_iald (ci := 9) (k := 2) C dX8_does_117 rfl rfl hu_s i17 (r_iconst C (v := 5) dX8_does_118 (by decide) (r_icmp_ne C 136 dX8_does_119 (by decide) (fun c18 => ?_) (fun c18 => ?_))))))
      · have w := w.1 c18
        obtain ⟨i19, w⟩ := w
        refine r_aload_n C 0 dX8_does_136 rfl (rg_X8_X8_kind C dX8_does_137 hu_s (r_iload_n C 1 dX8_does_140 rfl (r_iald (ci := 9) (k := 2) C dX8_does_141 rfl rfl hu_s i19 (r_bipush C (v := 6) dX8_does_142 (by decide) (r_icmp_ne C 174 dX8_does_144 (by decide) (fun c20 => ?_) (fun c20 => ?_))))))
        · have w := w.1 c20
          refine r_aload_n C 0 dX8_does_174 rfl (r_iload_n C 2 dX8_does_175 rfl (r_gov (r_runV C dX8_does_176 (m_X8_takeOut hu_s w) mt_X8_takeOut tw1253 tw1255 tw40 gcl_9.1 hu_s rfl (stk := []) rfl (Nat.le_of_ble_eq_true rfl) ⟨rfl, rfl, ⟨Nat.le_of_ble_eq_true rfl, Nat.le_of_ble_eq_true rfl⟩, ⟨Nat.le_of_ble_eq_true rfl, Nat.le_of_ble_eq_true rfl⟩⟩) ?_))
          intro  h22 hp
          obtain ⟨o21, rfl, w⟩ := hp
          refine gX_eq hu_hu ?_
          obtain ⟨i23, w⟩ := w
          refine r_aload_n C 0 dX8_does_179 rfl (rg_X8_X8_isThere C dX8_does_180 hu_s (r_iload_n C 2 dX8_does_183 rfl (r_aload_n C 0 dX8_does_184 rfl (rg_X8_X8_kind C dX8_does_185 hu_s (r_iload_n C 1 dX8_does_188 rfl (r_iald (ci := 9) (k := 2) C dX8_does_189 rfl rfl hu_s i23 (r_bipush C (v := 7) dX8_does_190 (by decide) (r_icmp_eq C 199 dX8_does_192 (by decide) (fun c24 => ?_) (fun c24 => ?_)))))))))
          · have w := w.1 c24
            exact r_iconst C (v := 0) dX8_does_199 (by decide) (r_sub [0, 1, 2] rfl (t_X8_does_200 C hn hQ _ _ _ _ w))
          · have w := w.2 c24
            exact r_iconst C (v := 1) dX8_does_195 (by decide) (r_goto C 200 dX8_does_196 (by decide) (r_sub [0, 1, 2] rfl (t_X8_does_200 C hn hQ _ _ _ _ w)))
        · have w := w.2 c20
          obtain ⟨i25, w⟩ := w
          obtain ⟨o26, e27⟩ : ∃ z, z = sA o 20 x2.toNatClampNeg (vp_nar .boolean 0) := ⟨_, rfl⟩
          have w := w o26 e27
          refine r_aload_n C 0 dX8_does_147 rfl (rg_X8_X8_isThere C dX8_does_148 hu_s (r_iload_n C 2 dX8_does_151 rfl (r_iconst C (v := 0) dX8_does_152 (by decide) (r_zast (ci := 9) (k := 20) C dX8_does_153 rfl rfl hu_s i25 e27 hu_hu.symm (r_aload_n C 0 dX8_does_154 rfl (rg_X8_X8_group C dX8_does_155 hu_s (r_iload_n C 2 dX8_does_158 rfl (r_aload_n C 0 dX8_does_159 rfl (r_goi (r_runV C dX8_does_160 (m_X8_freeGroup hu_s w) mt_X8_freeGroup tw1237 tw1239 tw36 gcl_9.1 hu_s rfl (stk := [.int x2, .ref (a + 21)]) rfl (Nat.le_of_ble_eq_true rfl) ⟨rfl, rfl, ⟨Nat.le_of_ble_eq_true rfl, Nat.le_of_ble_eq_true rfl⟩, ⟨Nat.le_of_ble_eq_true rfl, Nat.le_of_ble_eq_true rfl⟩⟩) ?_)))))))))
          intro r28 h29 hp
          obtain ⟨rfl, w⟩ := hp
          obtain ⟨i30, w⟩ := w
          obtain ⟨o31, e32⟩ : ∃ z, z = sA o26 24 x2.toNatClampNeg r28 := ⟨_, rfl⟩
          have w := w o31 e32
          obtain ⟨i33, w⟩ := w
          obtain ⟨o34, e35⟩ : ∃ z, z = sA o31 20 x2.toNatClampNeg (vp_nar .boolean 1) := ⟨_, rfl⟩
          have w := w o34 e35
          exact r_iast (ci := 9) (k := 24) C dX8_does_163 rfl rfl hu_s i30 e32 hu_hu.symm (r_aload_n C 0 dX8_does_164 rfl (rg_X8_X8_isThere C dX8_does_165 hu_s (r_iload_n C 2 dX8_does_168 rfl (r_iconst C (v := 1) dX8_does_169 (by decide) (r_zast (ci := 9) (k := 20) C dX8_does_170 rfl rfl hu_s i33 e35 hu_hu.symm (r_goto C 230 dX8_does_171 (by decide) (r_vret C hQ dX8_does_230 rfl ⟨Nat.le_of_ble_eq_true rfl, Nat.le_of_ble_eq_true rfl⟩ ⟨_, rfl, w⟩)))))))
      · have w := w.2 c18
        obtain ⟨i36, w⟩ := w
        refine r_aload_n C 0 dX8_does_122 rfl (r_iload_n C 2 dX8_does_123 rfl (r_aload_n C 0 dX8_does_124 rfl (rg_X8_X8_first C dX8_does_125 hu_s (r_iload_n C 1 dX8_does_128 rfl (r_iald (ci := 9) (k := 5) C dX8_does_129 rfl rfl hu_s i36 (r_gov (r_runV C dX8_does_130 (m_X8_joins hu_s w) mt_X8_joins tw1249 tw1251 tw39 gcl_9.1 hu_s rfl (stk := []) rfl (Nat.le_of_ble_eq_true rfl) ⟨rfl, rfl, ⟨Nat.le_of_ble_eq_true rfl, Nat.le_of_ble_eq_true rfl⟩, ⟨Nat.le_of_ble_eq_true rfl, Nat.le_of_ble_eq_true rfl⟩⟩) ?_))))))
        intro  h38 hp
        obtain ⟨o37, rfl, w⟩ := hp
        refine gX_eq hu_hu ?_
        exact r_goto C 230 dX8_does_133 (by decide) (r_vret C hQ dX8_does_230 rfl ⟨Nat.le_of_ble_eq_true rfl, Nat.le_of_ble_eq_true rfl⟩ ⟨_, rfl, w⟩)
    · have w := w.2 c16
      obtain ⟨i39, w⟩ := w
      obtain ⟨i40, w⟩ := w
      obtain ⟨o41, e42⟩ : ∃ z, z = sA o 23 x2.toNatClampNeg (fA o 5 p0.toNatClampNeg) := ⟨_, rfl⟩
      have w := w o41 e42
      exact r_aload_n C 0 dX8_does_97 rfl (rg_X8_X8_colour C dX8_does_98 hu_s (r_iload_n C 2 dX8_does_101 rfl (r_aload_n C 0 dX8_does_102 rfl (rg_X8_X8_first C dX8_does_103 hu_s (r_iload_n C 1 dX8_does_106 rfl (r_iald (ci := 9) (k := 5) C dX8_does_107 rfl rfl hu_s i39 (r_iast (ci := 9) (k := 23) C dX8_does_108 rfl rfl hu_s i40 e42 hu_hu.symm (r_goto C 230 dX8_does_109 (by decide) (r_vret C hQ dX8_does_230 rfl ⟨Nat.le_of_ble_eq_true rfl, Nat.le_of_ble_eq_true rfl⟩ ⟨_, rfl, w⟩)))))))))
  · have w := w.2 c14
    obtain ⟨i43, w⟩ := w
    obtain ⟨i44, w⟩ := w
    refine r_aload_n C 0 dX8_does_67 rfl (r_iload_n C 2 dX8_does_68 rfl (r_aload_n C 0 dX8_does_69 rfl (rg_X8_X8_first C dX8_does_70 hu_s (r_iload_n C 1 dX8_does_73 rfl (r_iald (ci := 9) (k := 5) C dX8_does_74 rfl rfl hu_s i43 (r_aload_n C 0 dX8_does_75 rfl (rg_X8_X8_second C dX8_does_76 hu_s (r_iload_n C 1 dX8_does_79 rfl (r_iald (ci := 9) (k := 6) C dX8_does_80 rfl rfl hu_s i44 (r_gov (r_runV C dX8_does_81 (m_X8_moves hu_s w) mt_X8_moves tw1245 tw1247 tw38 gcl_9.1 hu_s rfl (stk := []) rfl (Nat.le_of_ble_eq_true rfl) ⟨rfl, rfl, ⟨Nat.le_of_ble_eq_true rfl, Nat.le_of_ble_eq_true rfl⟩, ⟨Nat.le_of_ble_eq_true rfl, Nat.le_of_ble_eq_true rfl⟩⟩) ?_))))))))))
    intro  h46 hp
    obtain ⟨o45, rfl, w⟩ := hp
    refine gX_eq hu_hu ?_
    exact r_goto C 230 dX8_does_84 (by decide) (r_vret C hQ dX8_does_230 rfl ⟨Nat.le_of_ble_eq_true rfl, Nat.le_of_ble_eq_true rfl⟩ ⟨_, rfl, w⟩)
set_option maxHeartbeats 4000000 in
set_option maxRecDepth 100000 in
theorem m_X8_does {Y : gWx} {a : Nat}  {p0 : Int32} {post : FO → Prop} {g : GH}  {o : FO} (hg : g a = some (9, o))    (w : wp_X8_does p0 o post) : gMet Y yX8_does cX8_does 3 none rm_X8_does [.ref a, .int p0] g (gQv Y (fun  g9 => ∃ o9, g9 = hu g a (9, o9) ∧ post  o9)) 0 0 := by
  refine gm_of rfl (Nat.le_of_ble_eq_true rfl) ?_
  intro X hY hn C hnm hQ
  subst hY
  have hQ : gRet X (gQv (xY X) (fun  g9 => ∃ o9, g9 = hu g a (9, o9) ∧ post  o9)) 0 0 ∨ gRex X (gQv (xY X) (fun  g9 => ∃ o9, g9 = hu g a (9, o9) ∧ post  o9)) (fun _ _ => False) 0 0 := Or.inl hQ
  have C : gC X cX8_does RX8 none rm_X8_does := C
  refine gX_eq (hu_id hg).symm ?_
  show gX X 0 0 0 [(0, .ref a), (1, .int p0)] [] (hu g a (9, o))
  unfold wp_X8_does at w
  obtain ⟨i1, w⟩ := w
  obtain ⟨i2, w⟩ := w
  refine r_aload_n C 0 dX8_does_0 rfl (rg_X8_X8_shape C dX8_does_1 hu_s (r_iload_n C 1 dX8_does_4 rfl (r_iald (ci := 9) (k := 4) C dX8_does_5 rfl rfl hu_s i1 (r_istore_n C dX8_does_6 (nlt hn (by decide)) rfl (r_aload_n C 1 dX8_does_7 rfl (rg_X8_X8_kind C dX8_does_8 hu_s (r_iload_n C 2 dX8_does_11 rfl (r_iald (ci := 9) (k := 2) C dX8_does_12 rfl rfl hu_s i2 (r_if_ne C 24 dX8_does_13 (by decide) (fun c3 => ?_) (fun c3 => ?_))))))))))
  · have w := w.1 c3
    obtain ⟨i4, w⟩ := w
    refine r_aload_n C 1 dX8_does_24 rfl (rg_X8_X8_isThere C dX8_does_25 hu_s (r_iload_n C 0 dX8_does_28 rfl (r_zald (ci := 9) (k := 20) C dX8_does_29 rfl rfl hu_s i4 (r_if_eq C 230 dX8_does_30 (by decide) (fun c5 => ?_) (fun c5 => ?_)))))
    · have w := w.1 c5
      exact r_vret C hQ dX8_does_230 rfl ⟨Nat.le_of_ble_eq_true rfl, Nat.le_of_ble_eq_true rfl⟩ ⟨_, rfl, w⟩
    · have w := w.2 c5
      obtain ⟨i6, w⟩ := w
      refine r_aload_n C 1 dX8_does_33 rfl (rg_X8_X8_kind C dX8_does_34 hu_s (r_iload_n C 2 dX8_does_37 rfl (r_iald (ci := 9) (k := 2) C dX8_does_38 rfl rfl hu_s i6 (r_iconst C (v := 5) dX8_does_39 (by decide) (r_icmp_ne C 57 dX8_does_40 (by decide) (fun c7 => ?_) (fun c7 => ?_))))))
      · have w := w.1 c7
        exact r_sub [1, 2, 0] rfl (t_X8_does_57 C hn hQ _ _ w)
      · have w := w.2 c7
        obtain ⟨i8, w⟩ := w
        obtain ⟨i9, w⟩ := w
        refine r_aload_n C 1 dX8_does_43 rfl (rg_X8_X8_isThere C dX8_does_44 hu_s (r_aload_n C 1 dX8_does_47 rfl (rg_X8_X8_first C dX8_does_48 hu_s (r_iload_n C 2 dX8_does_51 rfl (r_iald (ci := 9) (k := 5) C dX8_does_52 rfl rfl hu_s i8 (r_zald (ci := 9) (k := 20) C dX8_does_53 rfl rfl hu_s i9 (r_if_eq C 230 dX8_does_54 (by decide) (fun c10 => ?_) (fun c10 => ?_))))))))
        · have w := w.1 c10
          exact r_vret C hQ dX8_does_230 rfl ⟨Nat.le_of_ble_eq_true rfl, Nat.le_of_ble_eq_true rfl⟩ ⟨_, rfl, w⟩
        · have w := w.2 c10
          exact r_sub [1, 2, 0] rfl (t_X8_does_57 C hn hQ _ _ w)
  · have w := w.2 c3
    refine r_aload_n C 1 dX8_does_16 rfl (r_iload_n C 0 dX8_does_17 rfl (r_gov (r_runV C dX8_does_18 (m_X8_comes hu_s w) mt_X8_comes tw1233 tw1235 tw35 gcl_9.1 hu_s rfl (stk := []) rfl (Nat.le_of_ble_eq_true rfl) ⟨rfl, rfl, ⟨Nat.le_of_ble_eq_true rfl, Nat.le_of_ble_eq_true rfl⟩, ⟨Nat.le_of_ble_eq_true rfl, Nat.le_of_ble_eq_true rfl⟩⟩) ?_))
    intro  h12 hp
    obtain ⟨o11, rfl, w⟩ := hp
    refine gX_eq hu_hu ?_
    exact r_goto C 230 dX8_does_21 (by decide) (r_vret C hQ dX8_does_230 rfl ⟨Nat.le_of_ble_eq_true rfl, Nat.le_of_ble_eq_true rfl⟩ ⟨_, rfl, w⟩)
def rm_X8_anew : Room := { frames := 3, cells := 0, slots := 0, locals := 66 }
theorem mt_X8_anew : gMt yX8_anew cX8_anew 2 none 0 := ⟨tw1228, tw64, by decide +kernel, by decide +kernel, by decide +kernel⟩
def wp_X8_anew_52 (post : FO → Prop) (k30 : Int32 → FO → Prop) (x1 : Int32) (o : FO) : Prop :=
k30 (x1 + 1) o
def wp_X8_anew_30 (post : FO → Prop) : Nat → Int32 → FO → Prop
  | 0, _, _ => False
  | n + 1, x1, o =>
    (((fI o 1) ≤ x1 → post o) ∧ (¬ (fI o 1) ≤ x1 → vp_in x1 200 ∧
    (((fA o 7 x1.toNatClampNeg) = 0 → wp_X8_anew_52 post (fun x1 o => wp_X8_anew_30 post n x1 o) x1 o) ∧ (¬ (fA o 7 x1.toNatClampNeg) = 0 → wp_X8_does x1 o (fun o10 =>
    wp_X8_anew_52 post (fun x1 o => wp_X8_anew_30 post n x1 o) x1 o10)))))
def wp_X8_anew_7 (post : FO → Prop) : Nat → Int32 → FO → Prop
  | 0, _, _ => False
  | n + 1, x1, o =>
    (((fI o 10) ≤ x1 → wp_X8_anew_30 post 1000 0 o) ∧ (¬ (fI o 10) ≤ x1 → vp_in x1 40 ∧
    ∀ o5, o5 = sA o 20 x1.toNatClampNeg (vp_nar .boolean 0) →
    wp_X8_anew_7 post n (x1 + 1) o5))
def wp_X8_anew (o : FO) (post : FO → Prop) : Prop :=
∀ o1, o1 = sI o 18 0 →
wp_X8_anew_7 post 1000 0 o1
set_option maxHeartbeats 4000000 in
set_option maxRecDepth 100000 in
theorem t_X8_anew_52 {X : gCx} {a : Nat}   {post : FO → Prop} {g : GH}  {k30 : Int32 → FO → Prop} (C : gC X cX8_anew RX8 none rm_X8_anew) (hn : xn X = 2) (hQ : gRet X (gQv (xY X) (fun  g9 => ∃ o9, g9 = hu g a (9, o9) ∧ post  o9)) 0 0 ∨ gRex X (gQv (xY X) (fun  g9 => ∃ o9, g9 = hu g a (9, o9) ∧ post  o9)) (fun _ _ => False) 0 0)   (hk30 : ∀ (x1 : Int32) (o : FO), k30 x1 o → gX X 0 0 30 [(0, .ref a), (1, .int x1)] [] (hu g a (9, o))) : ∀ (x1 : Int32) (o : FO), wp_X8_anew_52 post k30 x1 o → gX X 0 0 52 [(0, .ref a), (1, .int x1)] [] (hu g a (9, o)) := by
  intro x1 o w
  unfold wp_X8_anew_52 at w
  exact r_iinc C (v := x1 + 1) 1 dX8_anew_52 rfl rfl (nlt hn (by decide)) rfl (r_goto C 30 dX8_anew_55 (by decide) (r_sub [1, 0] rfl (hk30 _ _ w)))
set_option maxHeartbeats 4000000 in
set_option maxRecDepth 100000 in
theorem t_X8_anew_30 {X : gCx} {a : Nat}   {post : FO → Prop} {g : GH}   (C : gC X cX8_anew RX8 none rm_X8_anew) (hn : xn X = 2) (hQ : gRet X (gQv (xY X) (fun  g9 => ∃ o9, g9 = hu g a (9, o9) ∧ post  o9)) 0 0 ∨ gRex X (gQv (xY X) (fun  g9 => ∃ o9, g9 = hu g a (9, o9) ∧ post  o9)) (fun _ _ => False) 0 0)    : ∀ (n : Nat) (x1 : Int32) (o : FO), wp_X8_anew_30 post n x1 o → gX X 0 0 30 [(0, .ref a), (1, .int x1)] [] (hu g a (9, o)) := by
  intro n
  induction n with
  | zero => intro x1 o w; exact w.elim
  | succ n ih =>
    intro x1 o w
    unfold wp_X8_anew_30 at w
    refine r_iload_n C 1 dX8_anew_30 rfl (r_aload_n C 0 dX8_anew_31 rfl (rg_X8_X8_acts C dX8_anew_32 hu_s (r_icmp_ge C 58 dX8_anew_35 (by decide) (fun c7 => ?_) (fun c7 => ?_))))
    · have w := w.1 c7
      exact r_vret C hQ dX8_anew_58 rfl ⟨Nat.le_of_ble_eq_true rfl, Nat.le_of_ble_eq_true rfl⟩ ⟨_, rfl, w⟩
    · have w := w.2 c7
      obtain ⟨i8, w⟩ := w
      refine r_aload_n C 0 dX8_anew_38 rfl (rg_X8_X8_isLive C dX8_anew_39 hu_s (r_iload_n C 1 dX8_anew_42 rfl (r_zald (ci := 9) (k := 7) C dX8_anew_43 rfl rfl hu_s i8 (r_if_eq C 52 dX8_anew_44 (by decide) (fun c9 => ?_) (fun c9 => ?_)))))
      · have w := w.1 c9
        exact r_sub [0, 1] rfl (t_X8_anew_52 C hn hQ ih _ _ w)
      · have w := w.2 c9
        refine r_aload_n C 0 dX8_anew_47 rfl (r_iload_n C 1 dX8_anew_48 rfl (r_gov (r_runV C dX8_anew_49 (m_X8_does hu_s w) mt_X8_does tw1229 tw1231 tw34 gcl_9.1 hu_s rfl (stk := []) rfl (Nat.le_of_ble_eq_true rfl) ⟨rfl, rfl, ⟨Nat.le_of_ble_eq_true rfl, Nat.le_of_ble_eq_true rfl⟩, ⟨Nat.le_of_ble_eq_true rfl, Nat.le_of_ble_eq_true rfl⟩⟩) ?_))
        intro  h11 hp
        obtain ⟨o10, rfl, w⟩ := hp
        refine gX_eq hu_hu ?_
        exact r_sub [0, 1] rfl (t_X8_anew_52 C hn hQ ih _ _ w)
set_option maxHeartbeats 4000000 in
set_option maxRecDepth 100000 in
theorem t_X8_anew_7 {X : gCx} {a : Nat}   {post : FO → Prop} {g : GH}   (C : gC X cX8_anew RX8 none rm_X8_anew) (hn : xn X = 2) (hQ : gRet X (gQv (xY X) (fun  g9 => ∃ o9, g9 = hu g a (9, o9) ∧ post  o9)) 0 0 ∨ gRex X (gQv (xY X) (fun  g9 => ∃ o9, g9 = hu g a (9, o9) ∧ post  o9)) (fun _ _ => False) 0 0)    : ∀ (n : Nat) (x1 : Int32) (o : FO), wp_X8_anew_7 post n x1 o → gX X 0 0 7 [(0, .ref a), (1, .int x1)] [] (hu g a (9, o)) := by
  intro n
  induction n with
  | zero => intro x1 o w; exact w.elim
  | succ n ih =>
    intro x1 o w
    unfold wp_X8_anew_7 at w
    refine r_iload_n C 1 dX8_anew_7 rfl (r_aload_n C 0 dX8_anew_8 rfl (rg_X8_X8_shapes C dX8_anew_9 hu_s (r_icmp_ge C 28 dX8_anew_12 (by decide) (fun c3 => ?_) (fun c3 => ?_))))
    · have w := w.1 c3
      exact r_iconst C (v := 0) dX8_anew_28 (by decide) (r_istore_n C dX8_anew_29 (nlt hn (by decide)) rfl (r_sub [1, 0] rfl (t_X8_anew_30 C hn hQ 1000 _ _ w)))
    · have w := w.2 c3
      obtain ⟨i4, w⟩ := w
      obtain ⟨o5, e6⟩ : ∃ z, z = sA o 20 x1.toNatClampNeg (vp_nar .boolean 0) := ⟨_, rfl⟩
      have w := w o5 e6
      exact r_aload_n C 0 dX8_anew_15 rfl (rg_X8_X8_isThere C dX8_anew_16 hu_s (r_iload_n C 1 dX8_anew_19 rfl (r_iconst C (v := 0) dX8_anew_20 (by decide) (r_zast (ci := 9) (k := 20) C dX8_anew_21 rfl rfl hu_s i4 e6 hu_hu.symm (r_iinc C (v := x1 + 1) 1 dX8_anew_22 rfl rfl (nlt hn (by decide)) rfl (r_goto C 7 dX8_anew_25 (by decide) (r_sub [1, 0] rfl (ih _ _ w))))))))
set_option maxHeartbeats 4000000 in
set_option maxRecDepth 100000 in
theorem m_X8_anew {Y : gWx} {a : Nat}   {post : FO → Prop} {g : GH}  {o : FO} (hg : g a = some (9, o))    (w : wp_X8_anew o post) : gMet Y yX8_anew cX8_anew 2 none rm_X8_anew [.ref a] g (gQv Y (fun  g9 => ∃ o9, g9 = hu g a (9, o9) ∧ post  o9)) 0 0 := by
  refine gm_of rfl (Nat.le_of_ble_eq_true rfl) ?_
  intro X hY hn C hnm hQ
  subst hY
  have hQ : gRet X (gQv (xY X) (fun  g9 => ∃ o9, g9 = hu g a (9, o9) ∧ post  o9)) 0 0 ∨ gRex X (gQv (xY X) (fun  g9 => ∃ o9, g9 = hu g a (9, o9) ∧ post  o9)) (fun _ _ => False) 0 0 := Or.inl hQ
  have C : gC X cX8_anew RX8 none rm_X8_anew := C
  refine gX_eq (hu_id hg).symm ?_
  show gX X 0 0 0 [(0, .ref a)] [] (hu g a (9, o))
  unfold wp_X8_anew at w
  obtain ⟨o1, e2⟩ : ∃ z, z = sI o 18 0 := ⟨_, rfl⟩
  have w := w o1 e2
  exact r_aload_n C 0 dX8_anew_0 rfl (r_iconst C (v := 0) dX8_anew_1 (by decide) (rp_X8_X8_many C dX8_anew_2 hu_s e2 hu_hu.symm (r_iconst C (v := 0) dX8_anew_5 (by decide) (r_istore_n C dX8_anew_6 (nlt hn (by decide)) rfl (r_sub [1, 0] rfl (t_X8_anew_7 C hn hQ 1000 _ _ w))))))
def rm_X8_covers : Room := { frames := 1, cells := 0, slots := 0, locals := 22 }
theorem mt_X8_covers : gMt yX8_covers cX8_covers 4 (some .boolean) 3 := ⟨tw1360, tw64, by decide +kernel, by decide +kernel, by decide +kernel⟩
def wp_X8_covers (p0 : Int32) (p1 : Int32) (p2 : Int32) (o : FO)  (post : Int32 → Prop) : Prop :=
vp_in p0 40 ∧
vp_in p0 40 ∧
vp_in p0 40 ∧
wp_X8_isIn p1 (fA o 21 p0.toNatClampNeg) (((fA o 21 p0.toNatClampNeg) + (fA o 12 p0.toNatClampNeg)) - 1) (fun r4 =>
((r4 = 0 → post 0) ∧ (¬ r4 = 0 → vp_in p0 40 ∧
vp_in p0 40 ∧
vp_in p0 40 ∧
wp_X8_isIn p2 (fA o 22 p0.toNatClampNeg) (((fA o 22 p0.toNatClampNeg) + (fA o 13 p0.toNatClampNeg)) - 1) (fun r10 =>
((r10 = 0 → post 0) ∧ (¬ r10 = 0 → post 1))))))
set_option maxHeartbeats 4000000 in
set_option maxRecDepth 100000 in
theorem m_X8_covers {Y : gWx} {a : Nat}  {p0 : Int32} {p1 : Int32} {p2 : Int32} {post : Int32 → Prop} {g : GH} {o : FO} (hg : g a = some (9, o))    (w : wp_X8_covers p0 p1 p2 o post) : gMet Y yX8_covers cX8_covers 4 (some .boolean) rm_X8_covers [.ref a, .int p0, .int p1, .int p2] g (gQi Y (fun r9 g9 => g9 = g ∧ post r9)) 0 0 := by
  refine gm_of rfl (Nat.le_of_ble_eq_true rfl) ?_
  intro X hY hn C hnm hQ
  subst hY
  have hQ : gRet X (gQi (xY X) (fun r9 g9 => g9 = g ∧ post r9)) 0 0 ∨ gRex X (gQi (xY X) (fun r9 g9 => g9 = g ∧ post r9)) (fun _ _ => False) 0 0 := Or.inl hQ
  have C : gC X cX8_covers RX8 (some .boolean) rm_X8_covers := C
  show gX X 0 0 0 [(0, .ref a), (1, .int p0), (2, .int p1), (3, .int p2)] [] g
  unfold wp_X8_covers at w
  obtain ⟨i1, w⟩ := w
  obtain ⟨i2, w⟩ := w
  obtain ⟨i3, w⟩ := w
  refine r_iload_n C 2 dX8_covers_0 rfl (r_aload_n C 0 dX8_covers_1 rfl (rg_X8_X8_column C dX8_covers_2 hg (r_iload_n C 1 dX8_covers_5 rfl (r_iald (ci := 9) (k := 21) C dX8_covers_6 rfl rfl hg i1 (r_aload_n C 0 dX8_covers_7 rfl (rg_X8_X8_column C dX8_covers_8 hg (r_iload_n C 1 dX8_covers_11 rfl (r_iald (ci := 9) (k := 21) C dX8_covers_12 rfl rfl hg i2 (r_aload_n C 0 dX8_covers_13 rfl (rg_X8_X8_width C dX8_covers_14 hg (r_iload_n C 1 dX8_covers_17 rfl (r_iald (ci := 9) (k := 12) C dX8_covers_18 rfl rfl hg i3 (r_iadd C dX8_covers_19 (r_iconst C (v := 1) dX8_covers_20 (by decide) (r_isub C dX8_covers_21 (r_goi (r_runS C dX8_covers_22 (m_X8_isIn w) mt_X8_isIn tw1215 tw1216 rfl (stk := []) rfl (Nat.le_of_ble_eq_true rfl) ⟨rfl, rfl, ⟨Nat.le_of_ble_eq_true rfl, Nat.le_of_ble_eq_true rfl⟩, ⟨Nat.le_of_ble_eq_true rfl, Nat.le_of_ble_eq_true rfl⟩⟩) ?_))))))))))))))))
  intro r4 h5 hp
  obtain ⟨rfl, w⟩ := hp
  refine r_if_eq C 60 dX8_covers_25 (by decide) (fun c6 => ?_) (fun c6 => ?_)
  · have w := w.1 c6
    exact r_iconst C (v := 0) dX8_covers_60 (by decide) (r_iret C hQ dX8_covers_61 rfl rfl ⟨Nat.le_of_ble_eq_true rfl, Nat.le_of_ble_eq_true rfl⟩ ⟨rfl, w⟩)
  · have w := w.2 c6
    obtain ⟨i7, w⟩ := w
    obtain ⟨i8, w⟩ := w
    obtain ⟨i9, w⟩ := w
    refine r_iload_n C 3 dX8_covers_28 rfl (r_aload_n C 0 dX8_covers_29 rfl (rg_X8_X8_row C dX8_covers_30 hg (r_iload_n C 1 dX8_covers_33 rfl (r_iald (ci := 9) (k := 22) C dX8_covers_34 rfl rfl hg i7 (r_aload_n C 0 dX8_covers_35 rfl (rg_X8_X8_row C dX8_covers_36 hg (r_iload_n C 1 dX8_covers_39 rfl (r_iald (ci := 9) (k := 22) C dX8_covers_40 rfl rfl hg i8 (r_aload_n C 0 dX8_covers_41 rfl (rg_X8_X8_height C dX8_covers_42 hg (r_iload_n C 1 dX8_covers_45 rfl (r_iald (ci := 9) (k := 13) C dX8_covers_46 rfl rfl hg i9 (r_iadd C dX8_covers_47 (r_iconst C (v := 1) dX8_covers_48 (by decide) (r_isub C dX8_covers_49 (r_goi (r_runS C dX8_covers_50 (m_X8_isIn w) mt_X8_isIn tw1215 tw1216 rfl (stk := []) rfl (Nat.le_of_ble_eq_true rfl) ⟨rfl, rfl, ⟨Nat.le_of_ble_eq_true rfl, Nat.le_of_ble_eq_true rfl⟩, ⟨Nat.le_of_ble_eq_true rfl, Nat.le_of_ble_eq_true rfl⟩⟩) ?_))))))))))))))))
    intro r10 h11 hp
    obtain ⟨rfl, w⟩ := hp
    refine r_if_eq C 60 dX8_covers_53 (by decide) (fun c12 => ?_) (fun c12 => ?_)
    · have w := w.1 c12
      exact r_iconst C (v := 0) dX8_covers_60 (by decide) (r_iret C hQ dX8_covers_61 rfl rfl ⟨Nat.le_of_ble_eq_true rfl, Nat.le_of_ble_eq_true rfl⟩ ⟨rfl, w⟩)
    · have w := w.2 c12
      exact r_iconst C (v := 1) dX8_covers_56 (by decide) (r_goto C 61 dX8_covers_57 (by decide) (r_iret C hQ dX8_covers_61 rfl rfl ⟨Nat.le_of_ble_eq_true rfl, Nat.le_of_ble_eq_true rfl⟩ ⟨rfl, w⟩))
def rm_X8_seenAt : Room := { frames := 2, cells := 0, slots := 0, locals := 45 }
theorem mt_X8_seenAt : gMt yX8_seenAt cX8_seenAt 5 (some .int) 2 := ⟨tw1356, tw64, by decide +kernel, by decide +kernel, by decide +kernel⟩
def wp_X8_seenAt_56 (p0 : Int32) (p1 : Int32) (o : FO) (post : Int32 → Prop) (k5 : Int32 → Int32 → Prop) (x4 : Int32) (y0 : Int32)  : Prop :=
k5 y0 (x4 + 1)
def wp_X8_seenAt_55 (p0 : Int32) (p1 : Int32) (o : FO) (post : Int32 → Prop) (k5 : Int32 → Int32 → Prop) (x3 : Int32) (x4 : Int32)  : Prop :=
wp_X8_seenAt_56 p0 p1 o post k5 x4 x3
def wp_X8_seenAt_5 (p0 : Int32) (p1 : Int32) (o : FO) (post : Int32 → Prop) : Nat → Int32 → Int32 → Prop
  | 0, _, _ => False
  | n + 1, x3, x4 =>
    (((fI o 18) ≤ x4 → post x3) ∧ (¬ (fI o 18) ≤ x4 → vp_in x4 40 ∧
    vp_in (fA o 19 x4.toNatClampNeg) 40 ∧
    ((¬ (fA o 17 (fA o 19 x4.toNatClampNeg).toNatClampNeg) = 0 → wp_X8_seenAt_55 p0 p1 o post (fun x3 x4 => wp_X8_seenAt_5 p0 p1 o post n x3 x4) x3 x4) ∧ ((fA o 17 (fA o 19 x4.toNatClampNeg).toNatClampNeg) = 0 → vp_in x4 40 ∧
    wp_X8_covers (fA o 19 x4.toNatClampNeg) p0 p1 o (fun r6 =>
    ((r6 = 0 → wp_X8_seenAt_55 p0 p1 o post (fun x3 x4 => wp_X8_seenAt_5 p0 p1 o post n x3 x4) x3 x4) ∧ (¬ r6 = 0 → vp_in x4 40 ∧
    wp_X8_seenAt_56 p0 p1 o post (fun x3 x4 => wp_X8_seenAt_5 p0 p1 o post n x3 x4) x4 (fA o 19 x4.toNatClampNeg))))))))
def wp_X8_seenAt (p0 : Int32) (p1 : Int32) (o : FO)  (post : Int32 → Prop) : Prop :=
wp_X8_seenAt_5 p0 p1 o post 1000 ((-1)) 0
set_option maxHeartbeats 4000000 in
set_option maxRecDepth 100000 in
theorem t_X8_seenAt_56 {X : gCx} {a : Nat}  {p0 : Int32} {p1 : Int32} {post : Int32 → Prop} {g : GH} {o : FO} {k5 : Int32 → Int32 → Prop} (C : gC X cX8_seenAt RX8 (some .int) rm_X8_seenAt) (hn : xn X = 5) (hQ : gRet X (gQi (xY X) (fun r9 g9 => g9 = g ∧ post r9)) 0 0 ∨ gRex X (gQi (xY X) (fun r9 g9 => g9 = g ∧ post r9)) (fun _ _ => False) 0 0) (hg : g a = some (9, o))   (hk5 : ∀ (x3 : Int32) (x4 : Int32), k5 x3 x4 → gX X 0 0 5 [(0, .ref a), (1, .int p0), (2, .int p1), (3, .int x3), (4, .int x4)] [] g) : ∀ (x4 : Int32) (y0 : Int32), wp_X8_seenAt_56 p0 p1 o post k5 x4 y0 → gX X 0 0 56 [(0, .ref a), (1, .int p0), (2, .int p1), (4, .int x4)] [.int y0] g := by
  intro x4 y0 w
  unfold wp_X8_seenAt_56 at w
  exact r_istore_n C dX8_seenAt_56 (nlt hn (by decide)) rfl (r_iinc C (v := x4 + 1) 4 dX8_seenAt_57 rfl rfl (nlt hn (by decide)) rfl (r_goto C 5 dX8_seenAt_60 (by decide) (r_sub [2, 3, 4, 1, 0] rfl (hk5 _ _ w))))
set_option maxHeartbeats 4000000 in
set_option maxRecDepth 100000 in
theorem t_X8_seenAt_55 {X : gCx} {a : Nat}  {p0 : Int32} {p1 : Int32} {post : Int32 → Prop} {g : GH} {o : FO} {k5 : Int32 → Int32 → Prop} (C : gC X cX8_seenAt RX8 (some .int) rm_X8_seenAt) (hn : xn X = 5) (hQ : gRet X (gQi (xY X) (fun r9 g9 => g9 = g ∧ post r9)) 0 0 ∨ gRex X (gQi (xY X) (fun r9 g9 => g9 = g ∧ post r9)) (fun _ _ => False) 0 0) (hg : g a = some (9, o))   (hk5 : ∀ (x3 : Int32) (x4 : Int32), k5 x3 x4 → gX X 0 0 5 [(0, .ref a), (1, .int p0), (2, .int p1), (3, .int x3), (4, .int x4)] [] g) : ∀ (x3 : Int32) (x4 : Int32), wp_X8_seenAt_55 p0 p1 o post k5 x3 x4 → gX X 0 0 55 [(0, .ref a), (1, .int p0), (2, .int p1), (3, .int x3), (4, .int x4)] [] g := by
  intro x3 x4 w
  unfold wp_X8_seenAt_55 at w
  exact r_iload_n C 3 dX8_seenAt_55 rfl (r_sub [0, 1, 2, 4] rfl (t_X8_seenAt_56 C hn hQ hg hk5 _ _ w))
set_option maxHeartbeats 4000000 in
set_option maxRecDepth 100000 in
theorem t_X8_seenAt_5 {X : gCx} {a : Nat}  {p0 : Int32} {p1 : Int32} {post : Int32 → Prop} {g : GH} {o : FO}  (C : gC X cX8_seenAt RX8 (some .int) rm_X8_seenAt) (hn : xn X = 5) (hQ : gRet X (gQi (xY X) (fun r9 g9 => g9 = g ∧ post r9)) 0 0 ∨ gRex X (gQi (xY X) (fun r9 g9 => g9 = g ∧ post r9)) (fun _ _ => False) 0 0) (hg : g a = some (9, o))    : ∀ (n : Nat) (x3 : Int32) (x4 : Int32), wp_X8_seenAt_5 p0 p1 o post n x3 x4 → gX X 0 0 5 [(0, .ref a), (1, .int p0), (2, .int p1), (3, .int x3), (4, .int x4)] [] g := by
  intro n
  induction n with
  | zero => intro x3 x4 w; exact w.elim
  | succ n ih =>
    intro x3 x4 w
    unfold wp_X8_seenAt_5 at w
    refine r_iload C 4 dX8_seenAt_5 rfl (r_aload_n C 0 dX8_seenAt_7 rfl (rg_X8_X8_many C dX8_seenAt_8 hg (r_icmp_ge C 63 dX8_seenAt_11 (by decide) (fun c1 => ?_) (fun c1 => ?_))))
    · have w := w.1 c1
      exact r_iload_n C 3 dX8_seenAt_63 rfl (r_iret C hQ dX8_seenAt_64 rfl (vp_nar_int _) ⟨Nat.le_of_ble_eq_true rfl, Nat.le_of_ble_eq_true rfl⟩ ⟨rfl, w⟩)
    · have w := w.2 c1
      obtain ⟨i2, w⟩ := w
      obtain ⟨i3, w⟩ := w
      refine r_aload_n C 0 dX8_seenAt_14 rfl (rg_X8_X8_isDown C dX8_seenAt_15 hg (r_aload_n C 0 dX8_seenAt_18 rfl (rg_X8_X8_order C dX8_seenAt_19 hg (r_iload C 4 dX8_seenAt_22 rfl (r_iald (ci := 9) (k := 19) C dX8_seenAt_24 rfl rfl hg i2 (r_zald (ci := 9) (k := 17) C dX8_seenAt_25 rfl rfl hg i3 (r_if_ne C 55 dX8_seenAt_26 (by decide) (fun c4 => ?_) (fun c4 => ?_))))))))
      · have w := w.1 c4
        exact r_sub [0, 1, 2, 3, 4] rfl (t_X8_seenAt_55 C hn hQ hg ih _ _ w)
      · have w := w.2 c4
        obtain ⟨i5, w⟩ := w
        refine r_aload_n C 0 dX8_seenAt_29 rfl (r_aload_n C 0 dX8_seenAt_30 rfl (rg_X8_X8_order C dX8_seenAt_31 hg (r_iload C 4 dX8_seenAt_34 rfl (r_iald (ci := 9) (k := 19) C dX8_seenAt_36 rfl rfl hg i5 (r_iload_n C 1 dX8_seenAt_37 rfl (r_iload_n C 2 dX8_seenAt_38 rfl (r_goi (r_runV C dX8_seenAt_39 (m_X8_covers hg w) mt_X8_covers tw1357 tw1359 tw48 gcl_9.1 hg rfl (stk := []) rfl (Nat.le_of_ble_eq_true rfl) ⟨rfl, rfl, ⟨Nat.le_of_ble_eq_true rfl, Nat.le_of_ble_eq_true rfl⟩, ⟨Nat.le_of_ble_eq_true rfl, Nat.le_of_ble_eq_true rfl⟩⟩) ?_)))))))
        intro r6 h7 hp
        obtain ⟨rfl, w⟩ := hp
        refine r_if_eq C 55 dX8_seenAt_42 (by decide) (fun c8 => ?_) (fun c8 => ?_)
        · have w := w.1 c8
          exact r_sub [0, 1, 2, 3, 4] rfl (t_X8_seenAt_55 C hn hQ hg ih _ _ w)
        · have w := w.2 c8
          obtain ⟨i9, w⟩ := w
          exact r_aload_n C 0 dX8_seenAt_45 rfl (rg_X8_X8_order C dX8_seenAt_46 hg (r_iload C 4 dX8_seenAt_49 rfl (r_iald (ci := 9) (k := 19) C dX8_seenAt_51 rfl rfl hg i9 (r_goto C 56 dX8_seenAt_52 (by decide) (r_sub [0, 1, 2, 4] rfl (t_X8_seenAt_56 C hn hQ hg ih _ _ w))))))
set_option maxHeartbeats 4000000 in
set_option maxRecDepth 100000 in
theorem m_X8_seenAt {Y : gWx} {a : Nat}  {p0 : Int32} {p1 : Int32} {post : Int32 → Prop} {g : GH} {o : FO} (hg : g a = some (9, o))    (w : wp_X8_seenAt p0 p1 o post) : gMet Y yX8_seenAt cX8_seenAt 5 (some .int) rm_X8_seenAt [.ref a, .int p0, .int p1] g (gQi Y (fun r9 g9 => g9 = g ∧ post r9)) 0 0 := by
  refine gm_of rfl (Nat.le_of_ble_eq_true rfl) ?_
  intro X hY hn C hnm hQ
  subst hY
  have hQ : gRet X (gQi (xY X) (fun r9 g9 => g9 = g ∧ post r9)) 0 0 ∨ gRex X (gQi (xY X) (fun r9 g9 => g9 = g ∧ post r9)) (fun _ _ => False) 0 0 := Or.inl hQ
  have C : gC X cX8_seenAt RX8 (some .int) rm_X8_seenAt := C
  show gX X 0 0 0 [(0, .ref a), (1, .int p0), (2, .int p1)] [] g
  unfold wp_X8_seenAt at w
  exact r_iconst C (v := (-1)) dX8_seenAt_0 (by decide) (r_istore_n C dX8_seenAt_1 (nlt hn (by decide)) rfl (r_iconst C (v := 0) dX8_seenAt_2 (by decide) (r_istore C dX8_seenAt_3 (nlt hn (by decide)) rfl (r_sub [2, 3, 4, 1, 0] rfl (t_X8_seenAt_5 C hn hQ hg 1000 _ _ w)))))
def rm_X8_inGroup : Room := { frames := 0, cells := 0, slots := 0, locals := 0 }
theorem mt_X8_inGroup : gMt yX8_inGroup cX8_inGroup 4 (some .int) 1 := ⟨tw1272, tw64, by decide +kernel, by decide +kernel, by decide +kernel⟩
def wp_X8_inGroup_42 (p0 : Int32) (o : FO) (post : Int32 → Prop) (k4 : Int32 → Int32 → Prop) (x3 : Int32) (y0 : Int32) (y1 : Int32)  : Prop :=
k4 (y0 + y1) (x3 + 1)
def wp_X8_inGroup_41 (p0 : Int32) (o : FO) (post : Int32 → Prop) (k4 : Int32 → Int32 → Prop) (x3 : Int32) (y0 : Int32)  : Prop :=
wp_X8_inGroup_42 p0 o post k4 x3 y0 0
def wp_X8_inGroup_4 (p0 : Int32) (o : FO) (post : Int32 → Prop) : Nat → Int32 → Int32 → Prop
  | 0, _, _ => False
  | n + 1, x2, x3 =>
    (((fI o 10) ≤ x3 → post x2) ∧ (¬ (fI o 10) ≤ x3 → vp_in x3 40 ∧
    (((fA o 20 x3.toNatClampNeg) = 0 → wp_X8_inGroup_41 p0 o post (fun x2 x3 => wp_X8_inGroup_4 p0 o post n x2 x3) x3 x2) ∧ (¬ (fA o 20 x3.toNatClampNeg) = 0 → vp_in x3 40 ∧
    vp_in p0 40 ∧
    ((¬ (fA o 24 x3.toNatClampNeg) = (fA o 24 p0.toNatClampNeg) → wp_X8_inGroup_41 p0 o post (fun x2 x3 => wp_X8_inGroup_4 p0 o post n x2 x3) x3 x2) ∧ ((fA o 24 x3.toNatClampNeg) = (fA o 24 p0.toNatClampNeg) → wp_X8_inGroup_42 p0 o post (fun x2 x3 => wp_X8_inGroup_4 p0 o post n x2 x3) x3 x2 1))))))
def wp_X8_inGroup (p0 : Int32) (o : FO)  (post : Int32 → Prop) : Prop :=
wp_X8_inGroup_4 p0 o post 1000 0 0
set_option maxHeartbeats 4000000 in
set_option maxRecDepth 100000 in
theorem t_X8_inGroup_42 {X : gCx} {a : Nat}  {p0 : Int32} {post : Int32 → Prop} {g : GH} {o : FO} {k4 : Int32 → Int32 → Prop} (C : gC X cX8_inGroup RX8 (some .int) rm_X8_inGroup) (hn : xn X = 4) (hQ : gRet X (gQi (xY X) (fun r9 g9 => g9 = g ∧ post r9)) 0 0 ∨ gRex X (gQi (xY X) (fun r9 g9 => g9 = g ∧ post r9)) (fun _ _ => False) 0 0) (hg : g a = some (9, o))   (hk4 : ∀ (x2 : Int32) (x3 : Int32), k4 x2 x3 → gX X 0 0 4 [(0, .ref a), (1, .int p0), (2, .int x2), (3, .int x3)] [] g) : ∀ (x3 : Int32) (y0 : Int32) (y1 : Int32), wp_X8_inGroup_42 p0 o post k4 x3 y0 y1 → gX X 0 0 42 [(0, .ref a), (1, .int p0), (3, .int x3)] [.int y1, .int y0] g := by
  intro x3 y0 y1 w
  unfold wp_X8_inGroup_42 at w
  exact r_iadd C dX8_inGroup_42 (r_istore_n C dX8_inGroup_43 (nlt hn (by decide)) rfl (r_iinc C (v := x3 + 1) 3 dX8_inGroup_44 rfl rfl (nlt hn (by decide)) rfl (r_goto C 4 dX8_inGroup_47 (by decide) (r_sub [2, 3, 1, 0] rfl (hk4 _ _ w)))))
set_option maxHeartbeats 4000000 in
set_option maxRecDepth 100000 in
theorem t_X8_inGroup_41 {X : gCx} {a : Nat}  {p0 : Int32} {post : Int32 → Prop} {g : GH} {o : FO} {k4 : Int32 → Int32 → Prop} (C : gC X cX8_inGroup RX8 (some .int) rm_X8_inGroup) (hn : xn X = 4) (hQ : gRet X (gQi (xY X) (fun r9 g9 => g9 = g ∧ post r9)) 0 0 ∨ gRex X (gQi (xY X) (fun r9 g9 => g9 = g ∧ post r9)) (fun _ _ => False) 0 0) (hg : g a = some (9, o))   (hk4 : ∀ (x2 : Int32) (x3 : Int32), k4 x2 x3 → gX X 0 0 4 [(0, .ref a), (1, .int p0), (2, .int x2), (3, .int x3)] [] g) : ∀ (x3 : Int32) (y0 : Int32), wp_X8_inGroup_41 p0 o post k4 x3 y0 → gX X 0 0 41 [(0, .ref a), (1, .int p0), (3, .int x3)] [.int y0] g := by
  intro x3 y0 w
  unfold wp_X8_inGroup_41 at w
  exact r_iconst C (v := 0) dX8_inGroup_41 (by decide) (r_sub [0, 1, 2] rfl (t_X8_inGroup_42 C hn hQ hg hk4 _ _ _ w))
set_option maxHeartbeats 4000000 in
set_option maxRecDepth 100000 in
theorem t_X8_inGroup_4 {X : gCx} {a : Nat}  {p0 : Int32} {post : Int32 → Prop} {g : GH} {o : FO}  (C : gC X cX8_inGroup RX8 (some .int) rm_X8_inGroup) (hn : xn X = 4) (hQ : gRet X (gQi (xY X) (fun r9 g9 => g9 = g ∧ post r9)) 0 0 ∨ gRex X (gQi (xY X) (fun r9 g9 => g9 = g ∧ post r9)) (fun _ _ => False) 0 0) (hg : g a = some (9, o))    : ∀ (n : Nat) (x2 : Int32) (x3 : Int32), wp_X8_inGroup_4 p0 o post n x2 x3 → gX X 0 0 4 [(0, .ref a), (1, .int p0), (2, .int x2), (3, .int x3)] [] g := by
  intro n
  induction n with
  | zero => intro x2 x3 w; exact w.elim
  | succ n ih =>
    intro x2 x3 w
    unfold wp_X8_inGroup_4 at w
    refine r_iload_n C 3 dX8_inGroup_4 rfl (r_aload_n C 0 dX8_inGroup_5 rfl (rg_X8_X8_shapes C dX8_inGroup_6 hg (r_icmp_ge C 50 dX8_inGroup_9 (by decide) (fun c1 => ?_) (fun c1 => ?_))))
    · have w := w.1 c1
      exact r_iload_n C 2 dX8_inGroup_50 rfl (r_iret C hQ dX8_inGroup_51 rfl (vp_nar_int _) ⟨Nat.le_of_ble_eq_true rfl, Nat.le_of_ble_eq_true rfl⟩ ⟨rfl, w⟩)
    · have w := w.2 c1
      obtain ⟨i2, w⟩ := w
      refine r_iload_n C 2 dX8_inGroup_12 rfl (r_aload_n C 0 dX8_inGroup_13 rfl (rg_X8_X8_isThere C dX8_inGroup_14 hg (r_iload_n C 3 dX8_inGroup_17 rfl (r_zald (ci := 9) (k := 20) C dX8_inGroup_18 rfl rfl hg i2 (r_if_eq C 41 dX8_inGroup_19 (by decide) (fun c3 => ?_) (fun c3 => ?_))))))
      · have w := w.1 c3
        exact r_sub [0, 1, 3] rfl (t_X8_inGroup_41 C hn hQ hg ih _ _ w)
      · have w := w.2 c3
        obtain ⟨i4, w⟩ := w
        obtain ⟨i5, w⟩ := w
        refine r_aload_n C 0 dX8_inGroup_22 rfl (rg_X8_X8_group C dX8_inGroup_23 hg (r_iload_n C 3 dX8_inGroup_26 rfl (r_iald (ci := 9) (k := 24) C dX8_inGroup_27 rfl rfl hg i4 (r_aload_n C 0 dX8_inGroup_28 rfl (rg_X8_X8_group C dX8_inGroup_29 hg (r_iload_n C 1 dX8_inGroup_32 rfl (r_iald (ci := 9) (k := 24) C dX8_inGroup_33 rfl rfl hg i5 (r_icmp_ne C 41 dX8_inGroup_34 (by decide) (fun c6 => ?_) (fun c6 => ?_)))))))))
        · have w := w.1 c6
          exact r_sub [0, 1, 3] rfl (t_X8_inGroup_41 C hn hQ hg ih _ _ w)
        · have w := w.2 c6
          exact r_iconst C (v := 1) dX8_inGroup_37 (by decide) (r_goto C 42 dX8_inGroup_38 (by decide) (r_sub [0, 1, 3] rfl (t_X8_inGroup_42 C hn hQ hg ih _ _ _ w)))
set_option maxHeartbeats 4000000 in
set_option maxRecDepth 100000 in
theorem m_X8_inGroup {Y : gWx} {a : Nat}  {p0 : Int32} {post : Int32 → Prop} {g : GH} {o : FO} (hg : g a = some (9, o))    (w : wp_X8_inGroup p0 o post) : gMet Y yX8_inGroup cX8_inGroup 4 (some .int) rm_X8_inGroup [.ref a, .int p0] g (gQi Y (fun r9 g9 => g9 = g ∧ post r9)) 0 0 := by
  refine gm_of rfl (Nat.le_of_ble_eq_true rfl) ?_
  intro X hY hn C hnm hQ
  subst hY
  have hQ : gRet X (gQi (xY X) (fun r9 g9 => g9 = g ∧ post r9)) 0 0 ∨ gRex X (gQi (xY X) (fun r9 g9 => g9 = g ∧ post r9)) (fun _ _ => False) 0 0 := Or.inl hQ
  have C : gC X cX8_inGroup RX8 (some .int) rm_X8_inGroup := C
  show gX X 0 0 0 [(0, .ref a), (1, .int p0)] [] g
  unfold wp_X8_inGroup at w
  exact r_iconst C (v := 0) dX8_inGroup_0 (by decide) (r_istore_n C dX8_inGroup_1 (nlt hn (by decide)) rfl (r_iconst C (v := 0) dX8_inGroup_2 (by decide) (r_istore_n C dX8_inGroup_3 (nlt hn (by decide)) rfl (r_sub [2, 3, 1, 0] rfl (t_X8_inGroup_4 C hn hQ hg 1000 _ _ w)))))
def rm_X8_tells : Room := { frames := 4, cells := 0, slots := 0, locals := 87 }
theorem mt_X8_tells : gMt yX8_tells cX8_tells 6 none 5 := ⟨tw1224, tw64, by decide +kernel, by decide +kernel, by decide +kernel⟩
def wp_X8_tells (p0 : Int32) (p1 : Int32) (p2 : Int32) (p3 : Int32) (p4 : Int32) (o : FO) (post : FO → Prop) : Prop :=
vp_in (fI o 1) 200 ∧
∀ o2, o2 = sA o 2 (fI o 1).toNatClampNeg p1 →
vp_in (fI o2 1) 200 ∧
∀ o5, o5 = sA o2 3 (fI o2 1).toNatClampNeg p0 →
vp_in (fI o5 1) 200 ∧
∀ o8, o8 = sA o5 4 (fI o5 1).toNatClampNeg p2 →
vp_in (fI o8 1) 200 ∧
∀ o11, o11 = sA o8 5 (fI o8 1).toNatClampNeg p3 →
vp_in (fI o11 1) 200 ∧
∀ o14, o14 = sA o11 6 (fI o11 1).toNatClampNeg p4 →
vp_in (fI o14 1) 200 ∧
∀ o17, o17 = sA o14 7 (fI o14 1).toNatClampNeg (vp_nar .boolean 1) →
vp_in p0 6 ∧
∀ o20, o20 = sA o17 9 p0.toNatClampNeg 0 →
∀ o22, o22 = sI o20 1 ((fI o20 1) + 1) →
wp_X8_anew o22 (fun o24 =>
post o24)
set_option maxHeartbeats 4000000 in
set_option maxRecDepth 100000 in
theorem m_X8_tells {Y : gWx} {a : Nat}  {p0 : Int32} {p1 : Int32} {p2 : Int32} {p3 : Int32} {p4 : Int32} {post : FO → Prop} {g : GH}  {o : FO} (hg : g a = some (9, o))    (w : wp_X8_tells p0 p1 p2 p3 p4 o post) : gMet Y yX8_tells cX8_tells 6 none rm_X8_tells [.ref a, .int p0, .int p1, .int p2, .int p3, .int p4] g (gQv Y (fun  g9 => ∃ o9, g9 = hu g a (9, o9) ∧ post  o9)) 0 0 := by
  refine gm_of rfl (Nat.le_of_ble_eq_true rfl) ?_
  intro X hY hn C hnm hQ
  subst hY
  have hQ : gRet X (gQv (xY X) (fun  g9 => ∃ o9, g9 = hu g a (9, o9) ∧ post  o9)) 0 0 ∨ gRex X (gQv (xY X) (fun  g9 => ∃ o9, g9 = hu g a (9, o9) ∧ post  o9)) (fun _ _ => False) 0 0 := Or.inl hQ
  have C : gC X cX8_tells RX8 none rm_X8_tells := C
  refine gX_eq (hu_id hg).symm ?_
  show gX X 0 0 0 [(0, .ref a), (1, .int p0), (2, .int p1), (3, .int p2), (4, .int p3), (5, .int p4)] [] (hu g a (9, o))
  unfold wp_X8_tells at w
  obtain ⟨i1, w⟩ := w
  obtain ⟨o2, e3⟩ : ∃ z, z = sA o 2 (fI o 1).toNatClampNeg p1 := ⟨_, rfl⟩
  have w := w o2 e3
  obtain ⟨i4, w⟩ := w
  obtain ⟨o5, e6⟩ : ∃ z, z = sA o2 3 (fI o2 1).toNatClampNeg p0 := ⟨_, rfl⟩
  have w := w o5 e6
  obtain ⟨i7, w⟩ := w
  obtain ⟨o8, e9⟩ : ∃ z, z = sA o5 4 (fI o5 1).toNatClampNeg p2 := ⟨_, rfl⟩
  have w := w o8 e9
  obtain ⟨i10, w⟩ := w
  obtain ⟨o11, e12⟩ : ∃ z, z = sA o8 5 (fI o8 1).toNatClampNeg p3 := ⟨_, rfl⟩
  have w := w o11 e12
  obtain ⟨i13, w⟩ := w
  obtain ⟨o14, e15⟩ : ∃ z, z = sA o11 6 (fI o11 1).toNatClampNeg p4 := ⟨_, rfl⟩
  have w := w o14 e15
  obtain ⟨i16, w⟩ := w
  obtain ⟨o17, e18⟩ : ∃ z, z = sA o14 7 (fI o14 1).toNatClampNeg (vp_nar .boolean 1) := ⟨_, rfl⟩
  have w := w o17 e18
  obtain ⟨i19, w⟩ := w
  obtain ⟨o20, e21⟩ : ∃ z, z = sA o17 9 p0.toNatClampNeg 0 := ⟨_, rfl⟩
  have w := w o20 e21
  obtain ⟨o22, e23⟩ : ∃ z, z = sI o20 1 ((fI o20 1) + 1) := ⟨_, rfl⟩
  have w := w o22 e23
  refine r_aload_n C 0 dX8_tells_0 rfl (rg_X8_X8_kind C dX8_tells_1 hu_s (r_aload_n C 0 dX8_tells_4 rfl (rg_X8_X8_acts C dX8_tells_5 hu_s (r_iload_n C 2 dX8_tells_8 rfl (r_iast (ci := 9) (k := 2) C dX8_tells_9 rfl rfl hu_s i1 e3 hu_hu.symm (r_aload_n C 0 dX8_tells_10 rfl (rg_X8_X8_hand C dX8_tells_11 hu_s (r_aload_n C 0 dX8_tells_14 rfl (rg_X8_X8_acts C dX8_tells_15 hu_s (r_iload_n C 1 dX8_tells_18 rfl (r_iast (ci := 9) (k := 3) C dX8_tells_19 rfl rfl hu_s i4 e6 hu_hu.symm (r_aload_n C 0 dX8_tells_20 rfl (rg_X8_X8_shape C dX8_tells_21 hu_s (r_aload_n C 0 dX8_tells_24 rfl (rg_X8_X8_acts C dX8_tells_25 hu_s (r_iload_n C 3 dX8_tells_28 rfl (r_iast (ci := 9) (k := 4) C dX8_tells_29 rfl rfl hu_s i7 e9 hu_hu.symm (r_aload_n C 0 dX8_tells_30 rfl (rg_X8_X8_first C dX8_tells_31 hu_s (r_aload_n C 0 dX8_tells_34 rfl (rg_X8_X8_acts C dX8_tells_35 hu_s (r_iload C 4 dX8_tells_38 rfl (r_iast (ci := 9) (k := 5) C dX8_tells_40 rfl rfl hu_s i10 e12 hu_hu.symm (r_aload_n C 0 dX8_tells_41 rfl (rg_X8_X8_second C dX8_tells_42 hu_s (r_aload_n C 0 dX8_tells_45 rfl (rg_X8_X8_acts C dX8_tells_46 hu_s (r_iload C 5 dX8_tells_49 rfl (r_iast (ci := 9) (k := 6) C dX8_tells_51 rfl rfl hu_s i13 e15 hu_hu.symm (r_aload_n C 0 dX8_tells_52 rfl (rg_X8_X8_isLive C dX8_tells_53 hu_s (r_aload_n C 0 dX8_tells_56 rfl (rg_X8_X8_acts C dX8_tells_57 hu_s (r_iconst C (v := 1) dX8_tells_60 (by decide) (r_zast (ci := 9) (k := 7) C dX8_tells_61 rfl rfl hu_s i16 e18 hu_hu.symm (r_aload_n C 0 dX8_tells_62 rfl (rg_X8_X8_undoings C dX8_tells_63 hu_s (r_iload_n C 1 dX8_tells_66 rfl (r_iconst C (v := 0) dX8_tells_67 (by decide) (r_iast (ci := 9) (k := 9) C dX8_tells_68 rfl rfl hu_s i19 e21 hu_hu.symm (r_aload_n C 0 dX8_tells_69 rfl (r_dup C dX8_tells_70 rfl (rg_X8_X8_acts C dX8_tells_71 hu_s (r_iconst C (v := 1) dX8_tells_74 (by decide) (r_iadd C dX8_tells_75 (rp_X8_X8_acts C dX8_tells_76 hu_s e23 hu_hu.symm (r_aload_n C 0 dX8_tells_79 rfl (r_gov (r_runV C dX8_tells_80 (m_X8_anew hu_s w) mt_X8_anew tw1225 tw1227 tw33 gcl_9.1 hu_s rfl (stk := []) rfl (Nat.le_of_ble_eq_true rfl) ⟨rfl, rfl, ⟨Nat.le_of_ble_eq_true rfl, Nat.le_of_ble_eq_true rfl⟩, ⟨Nat.le_of_ble_eq_true rfl, Nat.le_of_ble_eq_true rfl⟩⟩) ?_))))))))))))))))))))))))))))))))))))))))))))))))
  intro  h25 hp
  obtain ⟨o24, rfl, w⟩ := hp
  refine gX_eq hu_hu ?_
  exact r_vret C hQ dX8_tells_83 rfl ⟨Nat.le_of_ble_eq_true rfl, Nat.le_of_ble_eq_true rfl⟩ ⟨_, rfl, w⟩
def rm_X8_canName : Room := { frames := 0, cells := 0, slots := 0, locals := 0 }
theorem mt_X8_canName : gMt yX8_canName cX8_canName 2 (some .boolean) 1 := ⟨tw1268, tw64, by decide +kernel, by decide +kernel, by decide +kernel⟩
def wp_X8_canName (p0 : Int32) (o : FO)  (post : Int32 → Prop) : Prop :=
vp_in p0 40 ∧
(((fA o 20 p0.toNatClampNeg) = 0 → post 0) ∧ (¬ (fA o 20 p0.toNatClampNeg) = 0 → vp_in p0 40 ∧
((¬ (fA o 17 p0.toNatClampNeg) = 0 → post 0) ∧ ((fA o 17 p0.toNatClampNeg) = 0 → ((200 ≤ (fI o 1) → post 0) ∧ (¬ 200 ≤ (fI o 1) → post 1))))))
set_option maxHeartbeats 4000000 in
set_option maxRecDepth 100000 in
theorem m_X8_canName {Y : gWx} {a : Nat}  {p0 : Int32} {post : Int32 → Prop} {g : GH} {o : FO} (hg : g a = some (9, o))    (w : wp_X8_canName p0 o post) : gMet Y yX8_canName cX8_canName 2 (some .boolean) rm_X8_canName [.ref a, .int p0] g (gQi Y (fun r9 g9 => g9 = g ∧ post r9)) 0 0 := by
  refine gm_of rfl (Nat.le_of_ble_eq_true rfl) ?_
  intro X hY hn C hnm hQ
  subst hY
  have hQ : gRet X (gQi (xY X) (fun r9 g9 => g9 = g ∧ post r9)) 0 0 ∨ gRex X (gQi (xY X) (fun r9 g9 => g9 = g ∧ post r9)) (fun _ _ => False) 0 0 := Or.inl hQ
  have C : gC X cX8_canName RX8 (some .boolean) rm_X8_canName := C
  show gX X 0 0 0 [(0, .ref a), (1, .int p0)] [] g
  unfold wp_X8_canName at w
  obtain ⟨i1, w⟩ := w
  refine r_aload_n C 0 dX8_canName_0 rfl (rg_X8_X8_isThere C dX8_canName_1 hg (r_iload_n C 1 dX8_canName_4 rfl (r_zald (ci := 9) (k := 20) C dX8_canName_5 rfl rfl hg i1 (r_if_eq C 32 dX8_canName_6 (by decide) (fun c2 => ?_) (fun c2 => ?_)))))
  · have w := w.1 c2
    exact r_iconst C (v := 0) dX8_canName_32 (by decide) (r_iret C hQ dX8_canName_33 rfl rfl ⟨Nat.le_of_ble_eq_true rfl, Nat.le_of_ble_eq_true rfl⟩ ⟨rfl, w⟩)
  · have w := w.2 c2
    obtain ⟨i3, w⟩ := w
    refine r_aload_n C 0 dX8_canName_9 rfl (rg_X8_X8_isDown C dX8_canName_10 hg (r_iload_n C 1 dX8_canName_13 rfl (r_zald (ci := 9) (k := 17) C dX8_canName_14 rfl rfl hg i3 (r_if_ne C 32 dX8_canName_15 (by decide) (fun c4 => ?_) (fun c4 => ?_)))))
    · have w := w.1 c4
      exact r_iconst C (v := 0) dX8_canName_32 (by decide) (r_iret C hQ dX8_canName_33 rfl rfl ⟨Nat.le_of_ble_eq_true rfl, Nat.le_of_ble_eq_true rfl⟩ ⟨rfl, w⟩)
    · have w := w.2 c4
      refine r_aload_n C 0 dX8_canName_18 rfl (rg_X8_X8_acts C dX8_canName_19 hg (r_sipush C (v := 200) dX8_canName_22 (by decide) (r_icmp_ge C 32 dX8_canName_25 (by decide) (fun c5 => ?_) (fun c5 => ?_))))
      · have w := w.1 c5
        exact r_iconst C (v := 0) dX8_canName_32 (by decide) (r_iret C hQ dX8_canName_33 rfl rfl ⟨Nat.le_of_ble_eq_true rfl, Nat.le_of_ble_eq_true rfl⟩ ⟨rfl, w⟩)
      · have w := w.2 c5
        exact r_iconst C (v := 1) dX8_canName_28 (by decide) (r_goto C 33 dX8_canName_29 (by decide) (r_iret C hQ dX8_canName_33 rfl rfl ⟨Nat.le_of_ble_eq_true rfl, Nat.le_of_ble_eq_true rfl⟩ ⟨rfl, w⟩))
def rm_X8_add : Room := { frames := 5, cells := 0, slots := 0, locals := 112 }
theorem mt_X8_add : gMt yX8_add cX8_add 8 (some .int) 6 := ⟨tw1214, tw64, by decide +kernel, by decide +kernel, by decide +kernel⟩
def wp_X8_add_121 (p0 : Int32) (p1 : Int32) (p2 : Int32) (p3 : Int32) (p4 : Int32) (p5 : Int32) (post : Int32 → FO → Prop) (y1 : Int32) (o : FO) : Prop :=
∀ o23, o23 = sI o 0 y1 →
(((fI o23 0) ≤ 0 → vp_in (fI o23 10) 40 ∧
∀ o27, o27 = sA o23 11 (fI o23 10).toNatClampNeg p0 →
vp_in (fI o27 10) 40 ∧
∀ o30, o30 = sA o27 12 (fI o27 10).toNatClampNeg p3 →
vp_in (fI o30 10) 40 ∧
∀ o33, o33 = sA o30 13 (fI o30 10).toNatClampNeg p4 →
vp_in (fI o33 10) 40 ∧
∀ o36, o36 = sA o33 14 (fI o33 10).toNatClampNeg p1 →
vp_in (fI o36 10) 40 ∧
∀ o39, o39 = sA o36 15 (fI o36 10).toNatClampNeg p2 →
vp_in (fI o39 10) 40 ∧
∀ o42, o42 = sA o39 16 (fI o39 10).toNatClampNeg p5 →
∀ o44, o44 = sI o42 10 ((fI o42 10) + 1) →
wp_X8_tells p0 0 ((fI o44 10) - 1) 0 0 o44 (fun o46 =>
post ((fI o46 10) - 1) o46)) ∧ (¬ (fI o23 0) ≤ 0 → post 0 o23))
def wp_X8_add_116 (p0 : Int32) (p1 : Int32) (p2 : Int32) (p3 : Int32) (p4 : Int32) (p5 : Int32) (post : Int32 → FO → Prop)  (o : FO) : Prop :=
wp_X8_add_121 p0 p1 p2 p3 p4 p5 post 3 o
def wp_X8_add_74 (p0 : Int32) (p1 : Int32) (p2 : Int32) (p3 : Int32) (p4 : Int32) (p5 : Int32) (post : Int32 → FO → Prop) (y0 : Int32) (o : FO) : Prop :=
wp_X8_isHand p0 (fun r17 =>
((¬ r17 = 0 → ((¬ y0 = 0 → (((fI o 10) = 40 → wp_X8_add_116 p0 p1 p2 p3 p4 p5 post o) ∧ (¬ (fI o 10) = 40 → ((¬ (fI o 1) = 200 → wp_X8_add_121 p0 p1 p2 p3 p4 p5 post 0 o) ∧ ((fI o 1) = 200 → wp_X8_add_116 p0 p1 p2 p3 p4 p5 post o))))) ∧ (y0 = 0 → wp_X8_add_121 p0 p1 p2 p3 p4 p5 post 2 o))) ∧ (r17 = 0 → wp_X8_add_121 p0 p1 p2 p3 p4 p5 post 1 o)))
def wp_X8_add_73 (p0 : Int32) (p1 : Int32) (p2 : Int32) (p3 : Int32) (p4 : Int32) (p5 : Int32) (post : Int32 → FO → Prop)  (o : FO) : Prop :=
wp_X8_add_74 p0 p1 p2 p3 p4 p5 post 0 o
def wp_X8_add_36 (p0 : Int32) (p1 : Int32) (p2 : Int32) (p3 : Int32) (p4 : Int32) (p5 : Int32) (post : Int32 → FO → Prop) (y0 : Int32) (o : FO) : Prop :=
((y0 = 0 → wp_X8_add_73 p0 p1 p2 p3 p4 p5 post o) ∧ (¬ y0 = 0 → wp_X8_isIn p3 1 (24 - p1) (fun r11 =>
((r11 = 0 → wp_X8_add_73 p0 p1 p2 p3 p4 p5 post o) ∧ (¬ r11 = 0 → wp_X8_isIn p4 1 (16 - p2) (fun r14 =>
((r14 = 0 → wp_X8_add_73 p0 p1 p2 p3 p4 p5 post o) ∧ (¬ r14 = 0 → wp_X8_add_74 p0 p1 p2 p3 p4 p5 post 1 o))))))))
def wp_X8_add_35 (p0 : Int32) (p1 : Int32) (p2 : Int32) (p3 : Int32) (p4 : Int32) (p5 : Int32) (post : Int32 → FO → Prop)  (o : FO) : Prop :=
wp_X8_add_36 p0 p1 p2 p3 p4 p5 post 0 o
def wp_X8_add (p0 : Int32) (p1 : Int32) (p2 : Int32) (p3 : Int32) (p4 : Int32) (p5 : Int32) (o : FO) (post : Int32 → FO → Prop) : Prop :=
wp_X8_isIn p1 0 23 (fun r1 =>
((r1 = 0 → wp_X8_add_35 p0 p1 p2 p3 p4 p5 post o) ∧ (¬ r1 = 0 → wp_X8_isIn p2 0 15 (fun r4 =>
((r4 = 0 → wp_X8_add_35 p0 p1 p2 p3 p4 p5 post o) ∧ (¬ r4 = 0 → wp_X8_isIn p5 1 9 (fun r7 =>
((r7 = 0 → wp_X8_add_35 p0 p1 p2 p3 p4 p5 post o) ∧ (¬ r7 = 0 → wp_X8_add_36 p0 p1 p2 p3 p4 p5 post 1 o)))))))))
set_option maxHeartbeats 4000000 in
set_option maxRecDepth 100000 in
theorem t_X8_add_121 {X : gCx} {a : Nat}  {p0 : Int32} {p1 : Int32} {p2 : Int32} {p3 : Int32} {p4 : Int32} {p5 : Int32} {post : Int32 → FO → Prop} {g : GH}   (C : gC X cX8_add RX8 (some .int) rm_X8_add) (hn : xn X = 8) (hQ : gRet X (gQi (xY X) (fun r9 g9 => ∃ o9, g9 = hu g a (9, o9) ∧ post r9 o9)) 0 0 ∨ gRex X (gQi (xY X) (fun r9 g9 => ∃ o9, g9 = hu g a (9, o9) ∧ post r9 o9)) (fun _ _ => False) 0 0)    : ∀ (y1 : Int32) (o : FO), wp_X8_add_121 p0 p1 p2 p3 p4 p5 post y1 o → gX X 0 0 121 [(0, .ref a), (1, .int p0), (2, .int p1), (3, .int p2), (4, .int p3), (5, .int p4), (6, .int p5)] [.int y1, .ref a] (hu g a (9, o)) := by
  intro y1 o w
  unfold wp_X8_add_121 at w
  obtain ⟨o23, e24⟩ : ∃ z, z = sI o 0 y1 := ⟨_, rfl⟩
  have w := w o23 e24
  refine rp_X8_X8_thrown C dX8_add_121 hu_s e24 hu_hu.symm (r_aload_n C 0 dX8_add_124 rfl (rg_X8_X8_thrown C dX8_add_125 hu_s (r_if_le C 133 dX8_add_128 (by decide) (fun c25 => ?_) (fun c25 => ?_))))
  · have w := w.1 c25
    obtain ⟨i26, w⟩ := w
    obtain ⟨o27, e28⟩ : ∃ z, z = sA o23 11 (fI o23 10).toNatClampNeg p0 := ⟨_, rfl⟩
    have w := w o27 e28
    obtain ⟨i29, w⟩ := w
    obtain ⟨o30, e31⟩ : ∃ z, z = sA o27 12 (fI o27 10).toNatClampNeg p3 := ⟨_, rfl⟩
    have w := w o30 e31
    obtain ⟨i32, w⟩ := w
    obtain ⟨o33, e34⟩ : ∃ z, z = sA o30 13 (fI o30 10).toNatClampNeg p4 := ⟨_, rfl⟩
    have w := w o33 e34
    obtain ⟨i35, w⟩ := w
    obtain ⟨o36, e37⟩ : ∃ z, z = sA o33 14 (fI o33 10).toNatClampNeg p1 := ⟨_, rfl⟩
    have w := w o36 e37
    obtain ⟨i38, w⟩ := w
    obtain ⟨o39, e40⟩ : ∃ z, z = sA o36 15 (fI o36 10).toNatClampNeg p2 := ⟨_, rfl⟩
    have w := w o39 e40
    obtain ⟨i41, w⟩ := w
    obtain ⟨o42, e43⟩ : ∃ z, z = sA o39 16 (fI o39 10).toNatClampNeg p5 := ⟨_, rfl⟩
    have w := w o42 e43
    obtain ⟨o44, e45⟩ : ∃ z, z = sI o42 10 ((fI o42 10) + 1) := ⟨_, rfl⟩
    have w := w o44 e45
    refine r_aload_n C 0 dX8_add_133 rfl (rg_X8_X8_maker C dX8_add_134 hu_s (r_aload_n C 0 dX8_add_137 rfl (rg_X8_X8_shapes C dX8_add_138 hu_s (r_iload_n C 1 dX8_add_141 rfl (r_iast (ci := 9) (k := 11) C dX8_add_142 rfl rfl hu_s i26 e28 hu_hu.symm (r_aload_n C 0 dX8_add_143 rfl (rg_X8_X8_width C dX8_add_144 hu_s (r_aload_n C 0 dX8_add_147 rfl (rg_X8_X8_shapes C dX8_add_148 hu_s (r_iload C 4 dX8_add_151 rfl (r_iast (ci := 9) (k := 12) C dX8_add_153 rfl rfl hu_s i29 e31 hu_hu.symm (r_aload_n C 0 dX8_add_154 rfl (rg_X8_X8_height C dX8_add_155 hu_s (r_aload_n C 0 dX8_add_158 rfl (rg_X8_X8_shapes C dX8_add_159 hu_s (r_iload C 5 dX8_add_162 rfl (r_iast (ci := 9) (k := 13) C dX8_add_164 rfl rfl hu_s i32 e34 hu_hu.symm (r_aload_n C 0 dX8_add_165 rfl (rg_X8_X8_firstColumn C dX8_add_166 hu_s (r_aload_n C 0 dX8_add_169 rfl (rg_X8_X8_shapes C dX8_add_170 hu_s (r_iload_n C 2 dX8_add_173 rfl (r_iast (ci := 9) (k := 14) C dX8_add_174 rfl rfl hu_s i35 e37 hu_hu.symm (r_aload_n C 0 dX8_add_175 rfl (rg_X8_X8_firstRow C dX8_add_176 hu_s (r_aload_n C 0 dX8_add_179 rfl (rg_X8_X8_shapes C dX8_add_180 hu_s (r_iload_n C 3 dX8_add_183 rfl (r_iast (ci := 9) (k := 15) C dX8_add_184 rfl rfl hu_s i38 e40 hu_hu.symm (r_aload_n C 0 dX8_add_185 rfl (rg_X8_X8_firstColour C dX8_add_186 hu_s (r_aload_n C 0 dX8_add_189 rfl (rg_X8_X8_shapes C dX8_add_190 hu_s (r_iload C 6 dX8_add_193 rfl (r_iast (ci := 9) (k := 16) C dX8_add_195 rfl rfl hu_s i41 e43 hu_hu.symm (r_aload_n C 0 dX8_add_196 rfl (r_dup C dX8_add_197 rfl (rg_X8_X8_shapes C dX8_add_198 hu_s (r_iconst C (v := 1) dX8_add_201 (by decide) (r_iadd C dX8_add_202 (rp_X8_X8_shapes C dX8_add_203 hu_s e45 hu_hu.symm (r_aload_n C 0 dX8_add_206 rfl (r_iload_n C 1 dX8_add_207 rfl (r_iconst C (v := 0) dX8_add_208 (by decide) (r_aload_n C 0 dX8_add_209 rfl (rg_X8_X8_shapes C dX8_add_210 hu_s (r_iconst C (v := 1) dX8_add_213 (by decide) (r_isub C dX8_add_214 (r_iconst C (v := 0) dX8_add_215 (by decide) (r_iconst C (v := 0) dX8_add_216 (by decide) (r_gov (r_runV C dX8_add_217 (m_X8_tells hu_s w) mt_X8_tells tw1221 tw1223 tw32 gcl_9.1 hu_s rfl (stk := []) rfl (Nat.le_of_ble_eq_true rfl) ⟨rfl, rfl, ⟨Nat.le_of_ble_eq_true rfl, Nat.le_of_ble_eq_true rfl⟩, ⟨Nat.le_of_ble_eq_true rfl, Nat.le_of_ble_eq_true rfl⟩⟩) ?_)))))))))))))))))))))))))))))))))))))))))))))))))))
    intro  h47 hp
    obtain ⟨o46, rfl, w⟩ := hp
    refine gX_eq hu_hu ?_
    exact r_aload_n C 0 dX8_add_220 rfl (rg_X8_X8_shapes C dX8_add_221 hu_s (r_iconst C (v := 1) dX8_add_224 (by decide) (r_isub C dX8_add_225 (r_iret C hQ dX8_add_226 rfl (vp_nar_int _) ⟨Nat.le_of_ble_eq_true rfl, Nat.le_of_ble_eq_true rfl⟩ ⟨_, rfl, w⟩))))
  · have w := w.2 c25
    exact r_iconst C (v := 0) dX8_add_131 (by decide) (r_iret C hQ dX8_add_132 rfl (vp_nar_int _) ⟨Nat.le_of_ble_eq_true rfl, Nat.le_of_ble_eq_true rfl⟩ ⟨_, rfl, w⟩)
set_option maxHeartbeats 4000000 in
set_option maxRecDepth 100000 in
theorem t_X8_add_116 {X : gCx} {a : Nat}  {p0 : Int32} {p1 : Int32} {p2 : Int32} {p3 : Int32} {p4 : Int32} {p5 : Int32} {post : Int32 → FO → Prop} {g : GH}   (C : gC X cX8_add RX8 (some .int) rm_X8_add) (hn : xn X = 8) (hQ : gRet X (gQi (xY X) (fun r9 g9 => ∃ o9, g9 = hu g a (9, o9) ∧ post r9 o9)) 0 0 ∨ gRex X (gQi (xY X) (fun r9 g9 => ∃ o9, g9 = hu g a (9, o9) ∧ post r9 o9)) (fun _ _ => False) 0 0)    : ∀ (o : FO), wp_X8_add_116 p0 p1 p2 p3 p4 p5 post o → gX X 0 0 116 [(0, .ref a), (1, .int p0), (2, .int p1), (3, .int p2), (4, .int p3), (5, .int p4), (6, .int p5)] [.ref a] (hu g a (9, o)) := by
  intro o w
  unfold wp_X8_add_116 at w
  exact r_iconst C (v := 3) dX8_add_116 (by decide) (r_goto C 121 dX8_add_117 (by decide) (r_sub [0, 1, 2, 3, 4, 5, 6] rfl (t_X8_add_121 C hn hQ _ _ w)))
set_option maxHeartbeats 4000000 in
set_option maxRecDepth 100000 in
theorem t_X8_add_74 {X : gCx} {a : Nat}  {p0 : Int32} {p1 : Int32} {p2 : Int32} {p3 : Int32} {p4 : Int32} {p5 : Int32} {post : Int32 → FO → Prop} {g : GH}   (C : gC X cX8_add RX8 (some .int) rm_X8_add) (hn : xn X = 8) (hQ : gRet X (gQi (xY X) (fun r9 g9 => ∃ o9, g9 = hu g a (9, o9) ∧ post r9 o9)) 0 0 ∨ gRex X (gQi (xY X) (fun r9 g9 => ∃ o9, g9 = hu g a (9, o9) ∧ post r9 o9)) (fun _ _ => False) 0 0)    : ∀ (y0 : Int32) (o : FO), wp_X8_add_74 p0 p1 p2 p3 p4 p5 post y0 o → gX X 0 0 74 [(0, .ref a), (1, .int p0), (2, .int p1), (3, .int p2), (4, .int p3), (5, .int p4), (6, .int p5)] [.int y0] (hu g a (9, o)) := by
  intro y0 o w
  unfold wp_X8_add_74 at w
  refine r_istore C dX8_add_74 (nlt hn (by decide)) rfl (r_aload_n C 1 dX8_add_76 rfl (r_iload_n C 2 dX8_add_77 rfl (r_goi (r_runS C dX8_add_78 (m_X8_isHand w) mt_X8_isHand tw1218 tw1219 rfl (stk := [.ref a]) rfl (Nat.le_of_ble_eq_true rfl) ⟨rfl, rfl, ⟨Nat.le_of_ble_eq_true rfl, Nat.le_of_ble_eq_true rfl⟩, ⟨Nat.le_of_ble_eq_true rfl, Nat.le_of_ble_eq_true rfl⟩⟩) ?_)))
  intro r17 h18 hp
  obtain ⟨rfl, w⟩ := hp
  refine r_if_ne C 88 dX8_add_81 (by decide) (fun c19 => ?_) (fun c19 => ?_)
  · have w := w.1 c19
    refine r_iload C 0 dX8_add_88 rfl (r_if_ne C 97 dX8_add_90 (by decide) (fun c20 => ?_) (fun c20 => ?_))
    · have w := w.1 c20
      refine r_aload_n C 1 dX8_add_97 rfl (rg_X8_X8_shapes C dX8_add_98 hu_s (r_bipush C (v := 40) dX8_add_101 (by decide) (r_icmp_eq C 116 dX8_add_103 (by decide) (fun c21 => ?_) (fun c21 => ?_))))
      · have w := w.1 c21
        exact r_sub [1, 2, 3, 4, 5, 6, 7] rfl (t_X8_add_116 C hn hQ _ w)
      · have w := w.2 c21
        refine r_aload_n C 1 dX8_add_106 rfl (rg_X8_X8_acts C dX8_add_107 hu_s (r_sipush C (v := 200) dX8_add_110 (by decide) (r_icmp_ne C 120 dX8_add_113 (by decide) (fun c22 => ?_) (fun c22 => ?_))))
        · have w := w.1 c22
          exact r_iconst C (v := 0) dX8_add_120 (by decide) (r_sub [1, 2, 3, 4, 5, 6, 7] rfl (t_X8_add_121 C hn hQ _ _ w))
        · have w := w.2 c22
          exact r_sub [1, 2, 3, 4, 5, 6, 7] rfl (t_X8_add_116 C hn hQ _ w)
    · have w := w.2 c20
      exact r_iconst C (v := 2) dX8_add_93 (by decide) (r_goto C 121 dX8_add_94 (by decide) (r_sub [1, 2, 3, 4, 5, 6, 7] rfl (t_X8_add_121 C hn hQ _ _ w)))
  · have w := w.2 c19
    exact r_iconst C (v := 1) dX8_add_84 (by decide) (r_goto C 121 dX8_add_85 (by decide) (r_sub [1, 2, 3, 4, 5, 6, 7] rfl (t_X8_add_121 C hn hQ _ _ w)))
set_option maxHeartbeats 4000000 in
set_option maxRecDepth 100000 in
theorem t_X8_add_73 {X : gCx} {a : Nat}  {p0 : Int32} {p1 : Int32} {p2 : Int32} {p3 : Int32} {p4 : Int32} {p5 : Int32} {post : Int32 → FO → Prop} {g : GH}   (C : gC X cX8_add RX8 (some .int) rm_X8_add) (hn : xn X = 8) (hQ : gRet X (gQi (xY X) (fun r9 g9 => ∃ o9, g9 = hu g a (9, o9) ∧ post r9 o9)) 0 0 ∨ gRex X (gQi (xY X) (fun r9 g9 => ∃ o9, g9 = hu g a (9, o9) ∧ post r9 o9)) (fun _ _ => False) 0 0)    : ∀ (o : FO), wp_X8_add_73 p0 p1 p2 p3 p4 p5 post o → gX X 0 0 73 [(0, .ref a), (1, .int p0), (2, .int p1), (3, .int p2), (4, .int p3), (5, .int p4), (6, .int p5)] [] (hu g a (9, o)) := by
  intro o w
  unfold wp_X8_add_73 at w
  exact r_iconst C (v := 0) dX8_add_73 (by decide) (r_sub [0, 1, 2, 3, 4, 5, 6] rfl (t_X8_add_74 C hn hQ _ _ w))
set_option maxHeartbeats 4000000 in
set_option maxRecDepth 100000 in
theorem t_X8_add_36 {X : gCx} {a : Nat}  {p0 : Int32} {p1 : Int32} {p2 : Int32} {p3 : Int32} {p4 : Int32} {p5 : Int32} {post : Int32 → FO → Prop} {g : GH}   (C : gC X cX8_add RX8 (some .int) rm_X8_add) (hn : xn X = 8) (hQ : gRet X (gQi (xY X) (fun r9 g9 => ∃ o9, g9 = hu g a (9, o9) ∧ post r9 o9)) 0 0 ∨ gRex X (gQi (xY X) (fun r9 g9 => ∃ o9, g9 = hu g a (9, o9) ∧ post r9 o9)) (fun _ _ => False) 0 0)    : ∀ (y0 : Int32) (o : FO), wp_X8_add_36 p0 p1 p2 p3 p4 p5 post y0 o → gX X 0 0 36 [(0, .ref a), (1, .int p0), (2, .int p1), (3, .int p2), (4, .int p3), (5, .int p4), (6, .int p5)] [.int y0] (hu g a (9, o)) := by
  intro y0 o w
  unfold wp_X8_add_36 at w
  refine r_istore C dX8_add_36 (nlt hn (by decide)) rfl (r_iload C 0 dX8_add_38 rfl (r_if_eq C 73 dX8_add_40 (by decide) (fun c10 => ?_) (fun c10 => ?_)))
  · have w := w.1 c10
    exact r_sub [1, 2, 3, 4, 5, 6, 7] rfl (t_X8_add_73 C hn hQ _ w)
  · have w := w.2 c10
    refine r_iload C 5 dX8_add_43 rfl (r_iconst C (v := 1) dX8_add_45 (by decide) (r_bipush C (v := 24) dX8_add_46 (by decide) (r_iload_n C 3 dX8_add_48 rfl (r_isub C dX8_add_49 (r_goi (r_runS C dX8_add_50 (m_X8_isIn w) mt_X8_isIn tw1215 tw1216 rfl (stk := []) rfl (Nat.le_of_ble_eq_true rfl) ⟨rfl, rfl, ⟨Nat.le_of_ble_eq_true rfl, Nat.le_of_ble_eq_true rfl⟩, ⟨Nat.le_of_ble_eq_true rfl, Nat.le_of_ble_eq_true rfl⟩⟩) ?_)))))
    intro r11 h12 hp
    obtain ⟨rfl, w⟩ := hp
    refine r_if_eq C 73 dX8_add_53 (by decide) (fun c13 => ?_) (fun c13 => ?_)
    · have w := w.1 c13
      exact r_sub [1, 2, 3, 4, 5, 6, 7] rfl (t_X8_add_73 C hn hQ _ w)
    · have w := w.2 c13
      refine r_iload C 6 dX8_add_56 rfl (r_iconst C (v := 1) dX8_add_58 (by decide) (r_bipush C (v := 16) dX8_add_59 (by decide) (r_iload_n C 4 dX8_add_61 rfl (r_isub C dX8_add_62 (r_goi (r_runS C dX8_add_63 (m_X8_isIn w) mt_X8_isIn tw1215 tw1216 rfl (stk := []) rfl (Nat.le_of_ble_eq_true rfl) ⟨rfl, rfl, ⟨Nat.le_of_ble_eq_true rfl, Nat.le_of_ble_eq_true rfl⟩, ⟨Nat.le_of_ble_eq_true rfl, Nat.le_of_ble_eq_true rfl⟩⟩) ?_)))))
      intro r14 h15 hp
      obtain ⟨rfl, w⟩ := hp
      refine r_if_eq C 73 dX8_add_66 (by decide) (fun c16 => ?_) (fun c16 => ?_)
      · have w := w.1 c16
        exact r_sub [1, 2, 3, 4, 5, 6, 7] rfl (t_X8_add_73 C hn hQ _ w)
      · have w := w.2 c16
        exact r_iconst C (v := 1) dX8_add_69 (by decide) (r_goto C 74 dX8_add_70 (by decide) (r_sub [1, 2, 3, 4, 5, 6, 7] rfl (t_X8_add_74 C hn hQ _ _ w)))
set_option maxHeartbeats 4000000 in
set_option maxRecDepth 100000 in
theorem t_X8_add_35 {X : gCx} {a : Nat}  {p0 : Int32} {p1 : Int32} {p2 : Int32} {p3 : Int32} {p4 : Int32} {p5 : Int32} {post : Int32 → FO → Prop} {g : GH}   (C : gC X cX8_add RX8 (some .int) rm_X8_add) (hn : xn X = 8) (hQ : gRet X (gQi (xY X) (fun r9 g9 => ∃ o9, g9 = hu g a (9, o9) ∧ post r9 o9)) 0 0 ∨ gRex X (gQi (xY X) (fun r9 g9 => ∃ o9, g9 = hu g a (9, o9) ∧ post r9 o9)) (fun _ _ => False) 0 0)    : ∀ (o : FO), wp_X8_add_35 p0 p1 p2 p3 p4 p5 post o → gX X 0 0 35 [(0, .ref a), (1, .int p0), (2, .int p1), (3, .int p2), (4, .int p3), (5, .int p4), (6, .int p5)] [] (hu g a (9, o)) := by
  intro o w
  unfold wp_X8_add_35 at w
  exact r_iconst C (v := 0) dX8_add_35 (by decide) (r_sub [0, 1, 2, 3, 4, 5, 6] rfl (t_X8_add_36 C hn hQ _ _ w))
set_option maxHeartbeats 4000000 in
set_option maxRecDepth 100000 in
theorem m_X8_add {Y : gWx} {a : Nat}  {p0 : Int32} {p1 : Int32} {p2 : Int32} {p3 : Int32} {p4 : Int32} {p5 : Int32} {post : Int32 → FO → Prop} {g : GH}  {o : FO} (hg : g a = some (9, o))    (w : wp_X8_add p0 p1 p2 p3 p4 p5 o post) : gMet Y yX8_add cX8_add 8 (some .int) rm_X8_add [.ref a, .int p0, .int p1, .int p2, .int p3, .int p4, .int p5] g (gQi Y (fun r9 g9 => ∃ o9, g9 = hu g a (9, o9) ∧ post r9 o9)) 0 0 := by
  refine gm_of rfl (Nat.le_of_ble_eq_true rfl) ?_
  intro X hY hn C hnm hQ
  subst hY
  have hQ : gRet X (gQi (xY X) (fun r9 g9 => ∃ o9, g9 = hu g a (9, o9) ∧ post r9 o9)) 0 0 ∨ gRex X (gQi (xY X) (fun r9 g9 => ∃ o9, g9 = hu g a (9, o9) ∧ post r9 o9)) (fun _ _ => False) 0 0 := Or.inl hQ
  have C : gC X cX8_add RX8 (some .int) rm_X8_add := C
  refine gX_eq (hu_id hg).symm ?_
  show gX X 0 0 0 [(0, .ref a), (1, .int p0), (2, .int p1), (3, .int p2), (4, .int p3), (5, .int p4), (6, .int p5)] [] (hu g a (9, o))
  unfold wp_X8_add at w
  refine r_iload_n C 2 dX8_add_0 rfl (r_iconst C (v := 0) dX8_add_1 (by decide) (r_bipush C (v := 23) dX8_add_2 (by decide) (r_goi (r_runS C dX8_add_4 (m_X8_isIn w) mt_X8_isIn tw1215 tw1216 rfl (stk := []) rfl (Nat.le_of_ble_eq_true rfl) ⟨rfl, rfl, ⟨Nat.le_of_ble_eq_true rfl, Nat.le_of_ble_eq_true rfl⟩, ⟨Nat.le_of_ble_eq_true rfl, Nat.le_of_ble_eq_true rfl⟩⟩) ?_)))
  intro r1 h2 hp
  obtain ⟨rfl, w⟩ := hp
  refine r_if_eq C 35 dX8_add_7 (by decide) (fun c3 => ?_) (fun c3 => ?_)
  · have w := w.1 c3
    exact r_sub [0, 1, 2, 3, 4, 5, 6] rfl (t_X8_add_35 C hn hQ _ w)
  · have w := w.2 c3
    refine r_iload_n C 3 dX8_add_10 rfl (r_iconst C (v := 0) dX8_add_11 (by decide) (r_bipush C (v := 15) dX8_add_12 (by decide) (r_goi (r_runS C dX8_add_14 (m_X8_isIn w) mt_X8_isIn tw1215 tw1216 rfl (stk := []) rfl (Nat.le_of_ble_eq_true rfl) ⟨rfl, rfl, ⟨Nat.le_of_ble_eq_true rfl, Nat.le_of_ble_eq_true rfl⟩, ⟨Nat.le_of_ble_eq_true rfl, Nat.le_of_ble_eq_true rfl⟩⟩) ?_)))
    intro r4 h5 hp
    obtain ⟨rfl, w⟩ := hp
    refine r_if_eq C 35 dX8_add_17 (by decide) (fun c6 => ?_) (fun c6 => ?_)
    · have w := w.1 c6
      exact r_sub [0, 1, 2, 3, 4, 5, 6] rfl (t_X8_add_35 C hn hQ _ w)
    · have w := w.2 c6
      refine r_iload C 6 dX8_add_20 rfl (r_iconst C (v := 1) dX8_add_22 (by decide) (r_bipush C (v := 9) dX8_add_23 (by decide) (r_goi (r_runS C dX8_add_25 (m_X8_isIn w) mt_X8_isIn tw1215 tw1216 rfl (stk := []) rfl (Nat.le_of_ble_eq_true rfl) ⟨rfl, rfl, ⟨Nat.le_of_ble_eq_true rfl, Nat.le_of_ble_eq_true rfl⟩, ⟨Nat.le_of_ble_eq_true rfl, Nat.le_of_ble_eq_true rfl⟩⟩) ?_)))
      intro r7 h8 hp
      obtain ⟨rfl, w⟩ := hp
      refine r_if_eq C 35 dX8_add_28 (by decide) (fun c9 => ?_) (fun c9 => ?_)
      · have w := w.1 c9
        exact r_sub [0, 1, 2, 3, 4, 5, 6] rfl (t_X8_add_35 C hn hQ _ w)
      · have w := w.2 c9
        exact r_iconst C (v := 1) dX8_add_31 (by decide) (r_goto C 36 dX8_add_32 (by decide) (r_sub [0, 1, 2, 3, 4, 5, 6] rfl (t_X8_add_36 C hn hQ _ _ w)))
