def rm_X7_checkHand : Room := { frames := 6, cells := 1, slots := 6, locals := 90 }
theorem mt_X7_checkHand : gMt yX7_checkHand cX7_checkHand 1 none 1 := ⟨tw229, tw59, by decide +kernel, by decide +kernel, by decide +kernel⟩
def wp_X7_checkHand_10 (p0 : Int32) (post : Prop) (px : String → Prop)   : Prop :=
px "java/lang/IndexOutOfBoundsException"
def wp_X7_checkHand (p0 : Int32)  (post : Prop) (px : String → Prop) : Prop :=
((p0 < 0 → wp_X7_checkHand_10 p0 post px) ∧ (¬ p0 < 0 → ((p0 < 6 → post) ∧ (¬ p0 < 6 → wp_X7_checkHand_10 p0 post px))))
set_option maxHeartbeats 4000000 in
set_option maxRecDepth 100000 in
theorem t_X7_checkHand_10 {X : gCx}  {p0 : Int32} {post : Prop} {px : String → Prop} {g : GH}   (C : gC X cX7_checkHand RX7 none rm_X7_checkHand) (hn : xn X = 1) (hQ : gRet X (gQv (xY X) (fun  g9 => g9 = g ∧ post )) 1 6 ∨ gRex X (gQv (xY X) (fun  g9 => g9 = g ∧ post )) (fun E9 g9 => g9 = g ∧ px E9) 1 6) (hQx : gRex X (gQv (xY X) (fun  g9 => g9 = g ∧ post )) (fun E9 g9 => g9 = g ∧ px E9) 1 6) (hl : (yl (xY X)).stackTraces = false) (hno : ∀ x ∈ (xc X).exceptionTable.toList, False)    : wp_X7_checkHand_10 p0 post px → gX X 0 0 10 [] [] g := by
  intro  w
  unfold wp_X7_checkHand_10 at w
  exact r_throwW (text := "no such hand") C hQx hl (fun x hx => (hno x hx).elim) thx_325.1 thx_325.2.1 thx_325.2.2.1 thx_325.2.2.2.1 (by decide +kernel) thx_325.2.2.2.2.1 thx_325.2.2.2.2.2 dX7_checkHand_10 dX7_checkHand_13 dX7_checkHand_14 dX7_checkHand_17 dX7_checkHand_20 ⟨Nat.le_of_ble_eq_true rfl, Nat.le_of_ble_eq_true rfl, Nat.le_of_ble_eq_true rfl, Nat.le_of_ble_eq_true rfl⟩ ⟨Nat.le_of_ble_eq_true rfl, Nat.le_of_ble_eq_true rfl⟩ ⟨rfl, w⟩
set_option maxHeartbeats 4000000 in
set_option maxRecDepth 100000 in
theorem m_X7_checkHand {Y : gWx}  {p0 : Int32} {post : Prop} {px : String → Prop} {g : GH}    (hl : (yl Y).stackTraces = false) (w : wp_X7_checkHand p0 post px) : gMex Y yX7_checkHand cX7_checkHand 1 none rm_X7_checkHand [.int p0] g (gQv Y (fun  g9 => g9 = g ∧ post )) (fun E9 g9 => g9 = g ∧ px E9) 1 6 := by
  refine gm_ofx rfl (Nat.le_of_ble_eq_true rfl) ?_
  intro X hY hn C hno hQx
  subst hY
  have hQ := Or.inr (a := gRet X (gQv (xY X) (fun  g9 => g9 = g ∧ post )) 1 6) hQx
  have C : gC X cX7_checkHand RX7 none rm_X7_checkHand := C
  show gX X 0 0 0 [(0, .int p0)] [] g
  unfold wp_X7_checkHand at w
  refine r_iload_n C 0 dX7_checkHand_0 rfl (r_if_lt C 10 dX7_checkHand_1 (by decide) (fun c1 => ?_) (fun c1 => ?_))
  · have w := w.1 c1
    exact r_sub [] rfl (t_X7_checkHand_10 C hn hQ hQx hl hno w)
  · have w := w.2 c1
    refine r_iload_n C 0 dX7_checkHand_4 rfl (r_bipush C (v := 6) dX7_checkHand_5 (by decide) (r_icmp_lt C 21 dX7_checkHand_7 (by decide) (fun c2 => ?_) (fun c2 => ?_)))
    · have w := w.1 c2
      exact r_vret C hQ dX7_checkHand_21 rfl ⟨Nat.le_of_ble_eq_true rfl, Nat.le_of_ble_eq_true rfl⟩ ⟨rfl, w⟩
    · have w := w.2 c2
      exact r_sub [] rfl (t_X7_checkHand_10 C hn hQ hQx hl hno w)
def rm_X7_checkRange : Room := { frames := 6, cells := 1, slots := 6, locals := 90 }
theorem mt_X7_checkRange : gMt yX7_checkRange cX7_checkRange 3 none 3 := ⟨tw303, tw59, by decide +kernel, by decide +kernel, by decide +kernel⟩
def wp_X7_checkRange_10 (p0 : Int32) (p1 : Int32) (p2 : Int32) (post : Prop) (px : String → Prop)   : Prop :=
px "java/lang/IllegalArgumentException"
def wp_X7_checkRange (p0 : Int32) (p1 : Int32) (p2 : Int32)  (post : Prop) (px : String → Prop) : Prop :=
((p0 < p1 → wp_X7_checkRange_10 p0 p1 p2 post px) ∧ (¬ p0 < p1 → ((p0 ≤ p2 → post) ∧ (¬ p0 ≤ p2 → wp_X7_checkRange_10 p0 p1 p2 post px))))
set_option maxHeartbeats 4000000 in
set_option maxRecDepth 100000 in
theorem t_X7_checkRange_10 {X : gCx}  {p0 : Int32} {p1 : Int32} {p2 : Int32} {post : Prop} {px : String → Prop} {g : GH}   (C : gC X cX7_checkRange RX7 none rm_X7_checkRange) (hn : xn X = 3) (hQ : gRet X (gQv (xY X) (fun  g9 => g9 = g ∧ post )) 1 6 ∨ gRex X (gQv (xY X) (fun  g9 => g9 = g ∧ post )) (fun E9 g9 => g9 = g ∧ px E9) 1 6) (hQx : gRex X (gQv (xY X) (fun  g9 => g9 = g ∧ post )) (fun E9 g9 => g9 = g ∧ px E9) 1 6) (hl : (yl (xY X)).stackTraces = false) (hno : ∀ x ∈ (xc X).exceptionTable.toList, False)    : wp_X7_checkRange_10 p0 p1 p2 post px → gX X 0 0 10 [] [] g := by
  intro  w
  unfold wp_X7_checkRange_10 at w
  exact r_throwW (text := "out of range") C hQx hl (fun x hx => (hno x hx).elim) thx_113.1 thx_113.2.1 thx_113.2.2.1 thx_113.2.2.2.1 (by decide +kernel) thx_113.2.2.2.2.1 thx_113.2.2.2.2.2 dX7_checkRange_10 dX7_checkRange_13 dX7_checkRange_14 dX7_checkRange_17 dX7_checkRange_20 ⟨Nat.le_of_ble_eq_true rfl, Nat.le_of_ble_eq_true rfl, Nat.le_of_ble_eq_true rfl, Nat.le_of_ble_eq_true rfl⟩ ⟨Nat.le_of_ble_eq_true rfl, Nat.le_of_ble_eq_true rfl⟩ ⟨rfl, w⟩
set_option maxHeartbeats 4000000 in
set_option maxRecDepth 100000 in
theorem m_X7_checkRange {Y : gWx}  {p0 : Int32} {p1 : Int32} {p2 : Int32} {post : Prop} {px : String → Prop} {g : GH}    (hl : (yl Y).stackTraces = false) (w : wp_X7_checkRange p0 p1 p2 post px) : gMex Y yX7_checkRange cX7_checkRange 3 none rm_X7_checkRange [.int p0, .int p1, .int p2] g (gQv Y (fun  g9 => g9 = g ∧ post )) (fun E9 g9 => g9 = g ∧ px E9) 1 6 := by
  refine gm_ofx rfl (Nat.le_of_ble_eq_true rfl) ?_
  intro X hY hn C hno hQx
  subst hY
  have hQ := Or.inr (a := gRet X (gQv (xY X) (fun  g9 => g9 = g ∧ post )) 1 6) hQx
  have C : gC X cX7_checkRange RX7 none rm_X7_checkRange := C
  show gX X 0 0 0 [(0, .int p0), (1, .int p1), (2, .int p2)] [] g
  unfold wp_X7_checkRange at w
  refine r_iload_n C 0 dX7_checkRange_0 rfl (r_iload_n C 1 dX7_checkRange_1 rfl (r_icmp_lt C 10 dX7_checkRange_2 (by decide) (fun c1 => ?_) (fun c1 => ?_)))
  · have w := w.1 c1
    exact r_sub [] rfl (t_X7_checkRange_10 C hn hQ hQx hl hno w)
  · have w := w.2 c1
    refine r_iload_n C 0 dX7_checkRange_5 rfl (r_iload_n C 2 dX7_checkRange_6 rfl (r_icmp_le C 21 dX7_checkRange_7 (by decide) (fun c2 => ?_) (fun c2 => ?_)))
    · have w := w.1 c2
      exact r_vret C hQ dX7_checkRange_21 rfl ⟨Nat.le_of_ble_eq_true rfl, Nat.le_of_ble_eq_true rfl⟩ ⟨rfl, w⟩
    · have w := w.2 c2
      exact r_sub [] rfl (t_X7_checkRange_10 C hn hQ hQx hl hno w)
def rm_X7_checkRectangle : Room := { frames := 7, cells := 4, slots := 24, locals := 112 }
theorem mt_X7_checkRectangle : gMt yX7_checkRectangle cX7_checkRectangle 4 none 4 := ⟨tw300, tw59, by decide +kernel, by decide +kernel, by decide +kernel⟩
def wp_X7_checkRectangle (p0 : Int32) (p1 : Int32) (p2 : Int32) (p3 : Int32)  (post : Prop) (px : String → Prop) : Prop :=
wp_X7_checkRange p0 0 23 (
wp_X7_checkRange p1 0 15 (
wp_X7_checkRange p2 1 (24 - p0) (
wp_X7_checkRange p3 1 (16 - p1) (
post) px) px) px) px
set_option maxHeartbeats 4000000 in
set_option maxRecDepth 100000 in
theorem m_X7_checkRectangle {Y : gWx}  {p0 : Int32} {p1 : Int32} {p2 : Int32} {p3 : Int32} {post : Prop} {px : String → Prop} {g : GH}    (hl : (yl Y).stackTraces = false) (w : wp_X7_checkRectangle p0 p1 p2 p3 post px) : gMex Y yX7_checkRectangle cX7_checkRectangle 4 none rm_X7_checkRectangle [.int p0, .int p1, .int p2, .int p3] g (gQv Y (fun  g9 => g9 = g ∧ post )) (fun E9 g9 => g9 = g ∧ px E9) 4 24 := by
  refine gm_ofx rfl (Nat.le_of_ble_eq_true rfl) ?_
  intro X hY hn C hno hQx
  subst hY
  have hQ := Or.inr (a := gRet X (gQv (xY X) (fun  g9 => g9 = g ∧ post )) 4 24) hQx
  have C : gC X cX7_checkRectangle RX7 none rm_X7_checkRectangle := C
  show gX X 0 0 0 [(0, .int p0), (1, .int p1), (2, .int p2), (3, .int p3)] [] g
  unfold wp_X7_checkRectangle at w
  refine r_iload_n C 0 dX7_checkRectangle_0 rfl (r_iconst C (v := 0) dX7_checkRectangle_1 (by decide) (r_bipush C (v := 23) dX7_checkRectangle_2 (by decide) (r_gxv (r_ruxS C dX7_checkRectangle_4 (m_X7_checkRange hl w) mt_X7_checkRange tw301 tw302 rfl (stk := []) rfl (Nat.le_of_ble_eq_true rfl) ⟨rfl, rfl, ⟨Nat.le_of_ble_eq_true rfl, Nat.le_of_ble_eq_true rfl⟩, ⟨Nat.le_of_ble_eq_true rfl, Nat.le_of_ble_eq_true rfl⟩⟩) (fun E h1 hp => by obtain ⟨rfl, hp⟩ := hp; exact r_out C hQx (fun x hx => (hno x hx).elim) ⟨Nat.le_of_ble_eq_true rfl, Nat.le_of_ble_eq_true rfl⟩ ⟨rfl, hp⟩) ?_)))
  intro  h1 hp
  obtain ⟨rfl, w⟩ := hp
  refine r_iload_n C 1 dX7_checkRectangle_7 rfl (r_iconst C (v := 0) dX7_checkRectangle_8 (by decide) (r_bipush C (v := 15) dX7_checkRectangle_9 (by decide) (r_gxv (r_ruxS C dX7_checkRectangle_11 (m_X7_checkRange hl w) mt_X7_checkRange tw301 tw302 rfl (stk := []) rfl (Nat.le_of_ble_eq_true rfl) ⟨rfl, rfl, ⟨Nat.le_of_ble_eq_true rfl, Nat.le_of_ble_eq_true rfl⟩, ⟨Nat.le_of_ble_eq_true rfl, Nat.le_of_ble_eq_true rfl⟩⟩) (fun E h2 hp => by obtain ⟨rfl, hp⟩ := hp; exact r_out C hQx (fun x hx => (hno x hx).elim) ⟨Nat.le_of_ble_eq_true rfl, Nat.le_of_ble_eq_true rfl⟩ ⟨rfl, hp⟩) ?_)))
  intro  h2 hp
  obtain ⟨rfl, w⟩ := hp
  refine r_iload_n C 2 dX7_checkRectangle_14 rfl (r_iconst C (v := 1) dX7_checkRectangle_15 (by decide) (r_bipush C (v := 24) dX7_checkRectangle_16 (by decide) (r_iload_n C 0 dX7_checkRectangle_18 rfl (r_isub C dX7_checkRectangle_19 (r_gxv (r_ruxS C dX7_checkRectangle_20 (m_X7_checkRange hl w) mt_X7_checkRange tw301 tw302 rfl (stk := []) rfl (Nat.le_of_ble_eq_true rfl) ⟨rfl, rfl, ⟨Nat.le_of_ble_eq_true rfl, Nat.le_of_ble_eq_true rfl⟩, ⟨Nat.le_of_ble_eq_true rfl, Nat.le_of_ble_eq_true rfl⟩⟩) (fun E h3 hp => by obtain ⟨rfl, hp⟩ := hp; exact r_out C hQx (fun x hx => (hno x hx).elim) ⟨Nat.le_of_ble_eq_true rfl, Nat.le_of_ble_eq_true rfl⟩ ⟨rfl, hp⟩) ?_)))))
  intro  h3 hp
  obtain ⟨rfl, w⟩ := hp
  refine r_iload_n C 3 dX7_checkRectangle_23 rfl (r_iconst C (v := 1) dX7_checkRectangle_24 (by decide) (r_bipush C (v := 16) dX7_checkRectangle_25 (by decide) (r_iload_n C 1 dX7_checkRectangle_27 rfl (r_isub C dX7_checkRectangle_28 (r_gxv (r_ruxS C dX7_checkRectangle_29 (m_X7_checkRange hl w) mt_X7_checkRange tw301 tw302 rfl (stk := []) rfl (Nat.le_of_ble_eq_true rfl) ⟨rfl, rfl, ⟨Nat.le_of_ble_eq_true rfl, Nat.le_of_ble_eq_true rfl⟩, ⟨Nat.le_of_ble_eq_true rfl, Nat.le_of_ble_eq_true rfl⟩⟩) (fun E h4 hp => by obtain ⟨rfl, hp⟩ := hp; exact r_out C hQx (fun x hx => (hno x hx).elim) ⟨Nat.le_of_ble_eq_true rfl, Nat.le_of_ble_eq_true rfl⟩ ⟨rfl, hp⟩) ?_)))))
  intro  h4 hp
  obtain ⟨rfl, w⟩ := hp
  exact r_vret C hQ dX7_checkRectangle_32 rfl ⟨Nat.le_of_ble_eq_true rfl, Nat.le_of_ble_eq_true rfl⟩ ⟨rfl, w⟩
def rm_X5_init : Room := { frames := 1, cells := 0, slots := 0, locals := 20 }
theorem mt_X5_init : gMt yX5_init cX5_init 7 none 6 := ⟨tw340, tw71, by decide +kernel, by decide +kernel, by decide +kernel⟩
def wp_X5_init (p0 : Int32) (p1 : Int32) (p2 : Int32) (p3 : Int32) (p4 : Int32) (p5 : Int32) (o : FO) (post : FO → Prop) : Prop :=
∀ o1, o1 = sI o 0 p0 →
∀ o3, o3 = sI o1 1 p1 →
∀ o5, o5 = sI o3 2 p2 →
∀ o7, o7 = sI o5 3 p3 →
∀ o9, o9 = sI o7 4 p4 →
∀ o11, o11 = sI o9 5 p5 →
post o11
set_option maxHeartbeats 4000000 in
set_option maxRecDepth 100000 in
theorem m_X5_init {Y : gWx} {a : Nat}  {p0 : Int32} {p1 : Int32} {p2 : Int32} {p3 : Int32} {p4 : Int32} {p5 : Int32} {post : FO → Prop} {g : GH}  {o : FO} (hg : g a = some (6, o))    (w : wp_X5_init p0 p1 p2 p3 p4 p5 o post) : gMet Y yX5_init cX5_init 7 none rm_X5_init [.ref a, .int p0, .int p1, .int p2, .int p3, .int p4, .int p5] g (gQv Y (fun  g9 => ∃ o9, g9 = hu g a (6, o9) ∧ post  o9)) 0 0 := by
  refine gm_of rfl (Nat.le_of_ble_eq_true rfl) ?_
  intro X hY hn C hnm hQ
  subst hY
  have hQ : gRet X (gQv (xY X) (fun  g9 => ∃ o9, g9 = hu g a (6, o9) ∧ post  o9)) 0 0 ∨ gRex X (gQv (xY X) (fun  g9 => ∃ o9, g9 = hu g a (6, o9) ∧ post  o9)) (fun _ _ => False) 0 0 := Or.inl hQ
  have C : gC X cX5_init RX5 none rm_X5_init := C
  refine gX_eq (hu_id hg).symm ?_
  show gX X 0 0 0 [(0, .ref a), (1, .int p0), (2, .int p1), (3, .int p2), (4, .int p3), (5, .int p4), (6, .int p5)] [] (hu g a (6, o))
  unfold wp_X5_init at w
  obtain ⟨o1, e2⟩ : ∃ z, z = sI o 0 p0 := ⟨_, rfl⟩
  have w := w o1 e2
  obtain ⟨o3, e4⟩ : ∃ z, z = sI o1 1 p1 := ⟨_, rfl⟩
  have w := w o3 e4
  obtain ⟨o5, e6⟩ : ∃ z, z = sI o3 2 p2 := ⟨_, rfl⟩
  have w := w o5 e6
  obtain ⟨o7, e8⟩ : ∃ z, z = sI o5 3 p3 := ⟨_, rfl⟩
  have w := w o7 e8
  obtain ⟨o9, e10⟩ : ∃ z, z = sI o7 4 p4 := ⟨_, rfl⟩
  have w := w o9 e10
  obtain ⟨o11, e12⟩ : ∃ z, z = sI o9 5 p5 := ⟨_, rfl⟩
  have w := w o11 e12
  exact r_aload_n C 0 dX5_init_0 rfl (r_objInit C dX5_init_1 tw341 tw91 tw92 ⟨Nat.le_of_ble_eq_true rfl, Nat.le_of_ble_eq_true rfl⟩ (r_aload_n C 0 dX5_init_4 rfl (r_iload_n C 1 dX5_init_5 rfl (rp_X5_X5_maker C dX5_init_6 hnm hu_s e2 hu_hu.symm (r_aload_n C 0 dX5_init_9 rfl (r_iload_n C 2 dX5_init_10 rfl (rp_X5_X5_column C dX5_init_11 hnm hu_s e4 hu_hu.symm (r_aload_n C 0 dX5_init_14 rfl (r_iload_n C 3 dX5_init_15 rfl (rp_X5_X5_row C dX5_init_16 hnm hu_s e6 hu_hu.symm (r_aload_n C 0 dX5_init_19 rfl (r_iload C 4 dX5_init_20 rfl (rp_X5_X5_width C dX5_init_22 hnm hu_s e8 hu_hu.symm (r_aload_n C 0 dX5_init_25 rfl (r_iload C 5 dX5_init_26 rfl (rp_X5_X5_height C dX5_init_28 hnm hu_s e10 hu_hu.symm (r_aload_n C 0 dX5_init_31 rfl (r_iload C 6 dX5_init_32 rfl (rp_X5_X5_colour C dX5_init_34 hnm hu_s e12 hu_hu.symm (r_vret C hQ dX5_init_37 rfl ⟨Nat.le_of_ble_eq_true rfl, Nat.le_of_ble_eq_true rfl⟩ ⟨_, rfl, w⟩))))))))))))))))))))
def rm_X0_init : Room := { frames := 1, cells := 0, slots := 0, locals := 20 }
theorem mt_X0_init : gMt yX0_init cX0_init 6 none 5 := ⟨tw431, tw76, by decide +kernel, by decide +kernel, by decide +kernel⟩
def wp_X0_init (p0 : Int32) (p1 : Int32) (p2 : Int32) (p3 : Int32) (p4 : Int32) (o : FO) (post : FO → Prop) : Prop :=
∀ o1, o1 = sI o 5 1 →
∀ o3, o3 = sI o1 0 p0 →
∀ o5, o5 = sI o3 1 p1 →
∀ o7, o7 = sI o5 2 p2 →
∀ o9, o9 = sI o7 3 p3 →
∀ o11, o11 = sI o9 4 p4 →
post o11
set_option maxHeartbeats 4000000 in
set_option maxRecDepth 100000 in
theorem m_X0_init {Y : gWx} {a : Nat}  {p0 : Int32} {p1 : Int32} {p2 : Int32} {p3 : Int32} {p4 : Int32} {post : FO → Prop} {g : GH}  {o : FO} (hg : g a = some (1, o))    (w : wp_X0_init p0 p1 p2 p3 p4 o post) : gMet Y yX0_init cX0_init 6 none rm_X0_init [.ref a, .int p0, .int p1, .int p2, .int p3, .int p4] g (gQv Y (fun  g9 => ∃ o9, g9 = hu g a (1, o9) ∧ post  o9)) 0 0 := by
  refine gm_of rfl (Nat.le_of_ble_eq_true rfl) ?_
  intro X hY hn C hnm hQ
  subst hY
  have hQ : gRet X (gQv (xY X) (fun  g9 => ∃ o9, g9 = hu g a (1, o9) ∧ post  o9)) 0 0 ∨ gRex X (gQv (xY X) (fun  g9 => ∃ o9, g9 = hu g a (1, o9) ∧ post  o9)) (fun _ _ => False) 0 0 := Or.inl hQ
  have C : gC X cX0_init RX0 none rm_X0_init := C
  refine gX_eq (hu_id hg).symm ?_
  show gX X 0 0 0 [(0, .ref a), (1, .int p0), (2, .int p1), (3, .int p2), (4, .int p3), (5, .int p4)] [] (hu g a (1, o))
  unfold wp_X0_init at w
  obtain ⟨o1, e2⟩ : ∃ z, z = sI o 5 1 := ⟨_, rfl⟩
  have w := w o1 e2
  obtain ⟨o3, e4⟩ : ∃ z, z = sI o1 0 p0 := ⟨_, rfl⟩
  have w := w o3 e4
  obtain ⟨o5, e6⟩ : ∃ z, z = sI o3 1 p1 := ⟨_, rfl⟩
  have w := w o5 e6
  obtain ⟨o7, e8⟩ : ∃ z, z = sI o5 2 p2 := ⟨_, rfl⟩
  have w := w o7 e8
  obtain ⟨o9, e10⟩ : ∃ z, z = sI o7 3 p3 := ⟨_, rfl⟩
  have w := w o9 e10
  obtain ⟨o11, e12⟩ : ∃ z, z = sI o9 4 p4 := ⟨_, rfl⟩
  have w := w o11 e12
  exact r_aload_n C 0 dX0_init_0 rfl (r_objInit C dX0_init_1 tw432 tw91 tw92 ⟨Nat.le_of_ble_eq_true rfl, Nat.le_of_ble_eq_true rfl⟩ (r_aload_n C 0 dX0_init_4 rfl (r_iconst C (v := 1) dX0_init_5 (by decide) (rp_X0_X0_isLive C dX0_init_6 rfl hu_s e2 hu_hu.symm (r_aload_n C 0 dX0_init_9 rfl (r_iload_n C 1 dX0_init_10 rfl (rp_X0_X0_hand C dX0_init_11 hnm hu_s e4 hu_hu.symm (r_aload_n C 0 dX0_init_14 rfl (r_iload_n C 2 dX0_init_15 rfl (rp_X0_X0_kind C dX0_init_16 hnm hu_s e6 hu_hu.symm (r_aload_n C 0 dX0_init_19 rfl (r_iload_n C 3 dX0_init_20 rfl (rp_X0_X0_shape C dX0_init_21 hnm hu_s e8 hu_hu.symm (r_aload_n C 0 dX0_init_24 rfl (r_iload C 4 dX0_init_25 rfl (rp_X0_X0_first C dX0_init_27 hnm hu_s e10 hu_hu.symm (r_aload_n C 0 dX0_init_30 rfl (r_iload C 5 dX0_init_31 rfl (rp_X0_X0_second C dX0_init_33 hnm hu_s e12 hu_hu.symm (r_vret C hQ dX0_init_36 rfl ⟨Nat.le_of_ble_eq_true rfl, Nat.le_of_ble_eq_true rfl⟩ ⟨_, rfl, w⟩))))))))))))))))))))
def rm_X7_bit : Room := { frames := 0, cells := 0, slots := 0, locals := 0 }
theorem mt_X7_bit : gMt yX7_bit cX7_bit 1 (some .long) 1 := ⟨tw495, tw59, by decide +kernel, by decide +kernel, by decide +kernel⟩
def wp_X7_bit (p0 : Int32)  (post : Int64 → Prop) : Prop :=
post (1 <<< (p0.toInt64 &&& 63))
set_option maxHeartbeats 4000000 in
set_option maxRecDepth 100000 in
theorem m_X7_bit {Y : gWx}  {p0 : Int32} {post : Int64 → Prop} {g : GH}     (w : wp_X7_bit p0 post) : gMet Y yX7_bit cX7_bit 1 (some .long) rm_X7_bit [.int p0] g (gQl Y (fun r9 g9 => g9 = g ∧ post r9)) 0 0 := by
  refine gm_of rfl (Nat.le_of_ble_eq_true rfl) ?_
  intro X hY hn C hnm hQ
  subst hY
  have hQ : gRet X (gQl (xY X) (fun r9 g9 => g9 = g ∧ post r9)) 0 0 ∨ gRex X (gQl (xY X) (fun r9 g9 => g9 = g ∧ post r9)) (fun _ _ => False) 0 0 := Or.inl hQ
  have C : gC X cX7_bit RX7 (some .long) rm_X7_bit := C
  show gX X 0 0 0 [(0, .int p0)] [] g
  unfold wp_X7_bit at w
  exact r_lconst C (v := 1) dX7_bit_0 (by decide) (r_iload_n C 0 dX7_bit_1 rfl (r_lshl C dX7_bit_2 (r_lret C hQ dX7_bit_3 rfl ⟨Nat.le_of_ble_eq_true rfl, Nat.le_of_ble_eq_true rfl⟩ ⟨rfl, w⟩)))
def rm_X1_has : Room := { frames := 1, cells := 0, slots := 0, locals := 20 }
theorem mt_X1_has : gMt yX1_has cX1_has 2 (some .boolean) 1 := ⟨tw492, tw63, by decide +kernel, by decide +kernel, by decide +kernel⟩
def wp_X1_has (p0 : Int32) (o : FO)  (post : Int32 → Prop) : Prop :=
((p0 < 0 → post 0) ∧ (¬ p0 < 0 → ((40 ≤ p0 → post 0) ∧ (¬ 40 ≤ p0 → wp_X7_bit p0 (fun r3 =>
(((lg_cmp ((fL o 7) &&& r3) 0) = 0 → post 0) ∧ (¬ (lg_cmp ((fL o 7) &&& r3) 0) = 0 → post 1)))))))
set_option maxHeartbeats 4000000 in
set_option maxRecDepth 100000 in
theorem m_X1_has {Y : gWx} {a : Nat}  {p0 : Int32} {post : Int32 → Prop} {g : GH} {o : FO} (hg : g a = some (2, o))    (w : wp_X1_has p0 o post) : gMet Y yX1_has cX1_has 2 (some .boolean) rm_X1_has [.ref a, .int p0] g (gQi Y (fun r9 g9 => g9 = g ∧ post r9)) 0 0 := by
  refine gm_of rfl (Nat.le_of_ble_eq_true rfl) ?_
  intro X hY hn C hnm hQ
  subst hY
  have hQ : gRet X (gQi (xY X) (fun r9 g9 => g9 = g ∧ post r9)) 0 0 ∨ gRex X (gQi (xY X) (fun r9 g9 => g9 = g ∧ post r9)) (fun _ _ => False) 0 0 := Or.inl hQ
  have C : gC X cX1_has RX1 (some .boolean) rm_X1_has := C
  show gX X 0 0 0 [(0, .ref a), (1, .int p0)] [] g
  unfold wp_X1_has at w
  refine r_iload_n C 1 dX1_has_0 rfl (r_if_lt C 28 dX1_has_1 (by decide) (fun c1 => ?_) (fun c1 => ?_))
  · have w := w.1 c1
    exact r_iconst C (v := 0) dX1_has_28 (by decide) (r_iret C hQ dX1_has_29 rfl rfl ⟨Nat.le_of_ble_eq_true rfl, Nat.le_of_ble_eq_true rfl⟩ ⟨rfl, w⟩)
  · have w := w.2 c1
    refine r_iload_n C 1 dX1_has_4 rfl (r_bipush C (v := 40) dX1_has_5 (by decide) (r_icmp_ge C 28 dX1_has_7 (by decide) (fun c2 => ?_) (fun c2 => ?_)))
    · have w := w.1 c2
      exact r_iconst C (v := 0) dX1_has_28 (by decide) (r_iret C hQ dX1_has_29 rfl rfl ⟨Nat.le_of_ble_eq_true rfl, Nat.le_of_ble_eq_true rfl⟩ ⟨rfl, w⟩)
    · have w := w.2 c2
      refine r_aload_n C 0 dX1_has_10 rfl (rg_X1_X1_present C dX1_has_11 hg (r_iload_n C 1 dX1_has_14 rfl (r_gol (r_runSN C dX1_has_15 (m_X7_bit w) mt_X7_bit tw493 tw494 rfl (stk := [.long (fL o 7)]) rfl (Nat.le_of_ble_eq_true rfl) ⟨rfl, rfl, ⟨Nat.le_of_ble_eq_true rfl, Nat.le_of_ble_eq_true rfl⟩, ⟨Nat.le_of_ble_eq_true rfl, Nat.le_of_ble_eq_true rfl⟩⟩) ?_)))
      intro r3 h4 hp
      obtain ⟨rfl, w⟩ := hp
      refine r_land C dX1_has_18 (r_lconst C (v := 0) dX1_has_19 (by decide) (r_lcmp C dX1_has_20 (r_if_eq C 28 dX1_has_21 (by decide) (fun c5 => ?_) (fun c5 => ?_))))
      · have w := w.1 c5
        exact r_iconst C (v := 0) dX1_has_28 (by decide) (r_iret C hQ dX1_has_29 rfl rfl ⟨Nat.le_of_ble_eq_true rfl, Nat.le_of_ble_eq_true rfl⟩ ⟨rfl, w⟩)
      · have w := w.2 c5
        exact r_iconst C (v := 1) dX1_has_24 (by decide) (r_goto C 29 dX1_has_25 (by decide) (r_iret C hQ dX1_has_29 rfl rfl ⟨Nat.le_of_ble_eq_true rfl, Nat.le_of_ble_eq_true rfl⟩ ⟨rfl, w⟩))
def rm_X1_moveGroup : Room := { frames := 1, cells := 0, slots := 0, locals := 20 }
theorem mt_X1_moveGroup : gMt yX1_moveGroup cX1_moveGroup 6 none 3 := ⟨tw499, tw63, by decide +kernel, by decide +kernel, by decide +kernel⟩
def wp_X1_moveGroup_45 (p0 : Int64) (p1 : Int32) (p2 : Int32) (post : FO → Prop) (k3 : Int32 → FO → Prop) (x5 : Int32) (o : FO) : Prop :=
k3 (x5 + 1) o
def wp_X1_moveGroup_3 (p0 : Int64) (p1 : Int32) (p2 : Int32) (post : FO → Prop) : Nat → Int32 → FO → Prop
  | 0, _, _ => False
  | n + 1, x5, o =>
    ((40 ≤ x5 → post o) ∧ (¬ 40 ≤ x5 → wp_X7_bit x5 (fun r2 =>
    (((lg_cmp (p0 &&& r2) 0) = 0 → wp_X1_moveGroup_45 p0 p1 p2 post (fun x5 o => wp_X1_moveGroup_3 p0 p1 p2 post n x5 o) x5 o) ∧ (¬ (lg_cmp (p0 &&& r2) 0) = 0 → vp_in x5 40 ∧
    vp_in x5 40 ∧
    ∀ o7, o7 = sA o 0 x5.toNatClampNeg ((fA o 0 x5.toNatClampNeg) + p1) →
    vp_in x5 40 ∧
    vp_in x5 40 ∧
    ∀ o11, o11 = sA o7 1 x5.toNatClampNeg ((fA o7 1 x5.toNatClampNeg) + p2) →
    wp_X1_moveGroup_45 p0 p1 p2 post (fun x5 o => wp_X1_moveGroup_3 p0 p1 p2 post n x5 o) x5 o11)))))
def wp_X1_moveGroup (p0 : Int64) (p1 : Int32) (p2 : Int32) (o : FO) (post : FO → Prop) : Prop :=
wp_X1_moveGroup_3 p0 p1 p2 post 1000 0 o
set_option maxHeartbeats 4000000 in
set_option maxRecDepth 100000 in
theorem t_X1_moveGroup_45 {X : gCx} {a : Nat}  {p0 : Int64} {p1 : Int32} {p2 : Int32} {post : FO → Prop} {g : GH}  {k3 : Int32 → FO → Prop} (C : gC X cX1_moveGroup RX1 none rm_X1_moveGroup) (hn : xn X = 6) (hQ : gRet X (gQv (xY X) (fun  g9 => ∃ o9, g9 = hu g a (2, o9) ∧ post  o9)) 0 0 ∨ gRex X (gQv (xY X) (fun  g9 => ∃ o9, g9 = hu g a (2, o9) ∧ post  o9)) (fun _ _ => False) 0 0)   (hk3 : ∀ (x5 : Int32) (o : FO), k3 x5 o → gX X 0 0 3 [(0, .ref a), (1, .long p0), (3, .int p1), (4, .int p2), (5, .int x5)] [] (hu g a (2, o))) : ∀ (x5 : Int32) (o : FO), wp_X1_moveGroup_45 p0 p1 p2 post k3 x5 o → gX X 0 0 45 [(0, .ref a), (1, .long p0), (3, .int p1), (4, .int p2), (5, .int x5)] [] (hu g a (2, o)) := by
  intro x5 o w
  unfold wp_X1_moveGroup_45 at w
  exact r_iinc C (v := x5 + 1) 4 dX1_moveGroup_45 rfl rfl (nlt hn (by decide)) rfl (r_goto C 3 dX1_moveGroup_48 (by decide) (r_sub [1, 2, 3, 4, 0] rfl (hk3 _ _ w)))
set_option maxHeartbeats 4000000 in
set_option maxRecDepth 100000 in
theorem t_X1_moveGroup_3 {X : gCx} {a : Nat}  {p0 : Int64} {p1 : Int32} {p2 : Int32} {post : FO → Prop} {g : GH}   (C : gC X cX1_moveGroup RX1 none rm_X1_moveGroup) (hn : xn X = 6) (hQ : gRet X (gQv (xY X) (fun  g9 => ∃ o9, g9 = hu g a (2, o9) ∧ post  o9)) 0 0 ∨ gRex X (gQv (xY X) (fun  g9 => ∃ o9, g9 = hu g a (2, o9) ∧ post  o9)) (fun _ _ => False) 0 0)    : ∀ (n : Nat) (x5 : Int32) (o : FO), wp_X1_moveGroup_3 p0 p1 p2 post n x5 o → gX X 0 0 3 [(0, .ref a), (1, .long p0), (3, .int p1), (4, .int p2), (5, .int x5)] [] (hu g a (2, o)) := by
  intro n
  induction n with
  | zero => intro x5 o w; exact w.elim
  | succ n ih =>
    intro x5 o w
    unfold wp_X1_moveGroup_3 at w
    refine r_iload C 4 dX1_moveGroup_3 rfl (r_bipush C (v := 40) dX1_moveGroup_5 (by decide) (r_icmp_ge C 51 dX1_moveGroup_7 (by decide) (fun c1 => ?_) (fun c1 => ?_)))
    · have w := w.1 c1
      exact r_vret C hQ dX1_moveGroup_51 rfl ⟨Nat.le_of_ble_eq_true rfl, Nat.le_of_ble_eq_true rfl⟩ ⟨_, rfl, w⟩
    · have w := w.2 c1
      refine r_lload_n C 1 dX1_moveGroup_10 rfl (r_iload C 4 dX1_moveGroup_11 rfl (r_gol (r_runSN C dX1_moveGroup_13 (m_X7_bit w) mt_X7_bit tw493 tw494 rfl (stk := [.long p0]) rfl (Nat.le_of_ble_eq_true rfl) ⟨rfl, rfl, ⟨Nat.le_of_ble_eq_true rfl, Nat.le_of_ble_eq_true rfl⟩, ⟨Nat.le_of_ble_eq_true rfl, Nat.le_of_ble_eq_true rfl⟩⟩) ?_))
      intro r2 h3 hp
      obtain ⟨rfl, w⟩ := hp
      refine r_land C dX1_moveGroup_16 (r_lconst C (v := 0) dX1_moveGroup_17 (by decide) (r_lcmp C dX1_moveGroup_18 (r_if_eq C 45 dX1_moveGroup_19 (by decide) (fun c4 => ?_) (fun c4 => ?_))))
      · have w := w.1 c4
        exact r_sub [0, 1, 2, 3, 4] rfl (t_X1_moveGroup_45 C hn hQ ih _ _ w)
      · have w := w.2 c4
        obtain ⟨i5, w⟩ := w
        obtain ⟨i6, w⟩ := w
        obtain ⟨o7, e8⟩ : ∃ z, z = sA o 0 x5.toNatClampNeg ((fA o 0 x5.toNatClampNeg) + p1) := ⟨_, rfl⟩
        have w := w o7 e8
        obtain ⟨i9, w⟩ := w
        obtain ⟨i10, w⟩ := w
        obtain ⟨o11, e12⟩ : ∃ z, z = sA o7 1 x5.toNatClampNeg ((fA o7 1 x5.toNatClampNeg) + p2) := ⟨_, rfl⟩
        have w := w o11 e12
        exact r_aload_n C 0 dX1_moveGroup_22 rfl (rg_X1_X1_columns C dX1_moveGroup_23 hu_s (r_iload C 4 dX1_moveGroup_26 rfl (r_dup2 C dX1_moveGroup_28 rfl rfl (r_iald (ci := 2) (k := 0) C dX1_moveGroup_29 rfl rfl hu_s i5 (r_iload_n C 2 dX1_moveGroup_30 rfl (r_iadd C dX1_moveGroup_31 (r_iast (ci := 2) (k := 0) C dX1_moveGroup_32 rfl rfl hu_s i6 e8 hu_hu.symm (r_aload_n C 0 dX1_moveGroup_33 rfl (rg_X1_X1_rows C dX1_moveGroup_34 hu_s (r_iload C 4 dX1_moveGroup_37 rfl (r_dup2 C dX1_moveGroup_39 rfl rfl (r_iald (ci := 2) (k := 1) C dX1_moveGroup_40 rfl rfl hu_s i9 (r_iload C 3 dX1_moveGroup_41 rfl (r_iadd C dX1_moveGroup_43 (r_iast (ci := 2) (k := 1) C dX1_moveGroup_44 rfl rfl hu_s i10 e12 hu_hu.symm (r_sub [0, 1, 2, 3, 4] rfl (t_X1_moveGroup_45 C hn hQ ih _ _ w)))))))))))))))))
set_option maxHeartbeats 4000000 in
set_option maxRecDepth 100000 in
theorem m_X1_moveGroup {Y : gWx} {a : Nat}  {p0 : Int64} {p1 : Int32} {p2 : Int32} {post : FO → Prop} {g : GH}  {o : FO} (hg : g a = some (2, o))    (w : wp_X1_moveGroup p0 p1 p2 o post) : gMet Y yX1_moveGroup cX1_moveGroup 6 none rm_X1_moveGroup [.ref a, .long p0, .int p1, .int p2] g (gQv Y (fun  g9 => ∃ o9, g9 = hu g a (2, o9) ∧ post  o9)) 0 0 := by
  refine gm_of rfl (Nat.le_of_ble_eq_true rfl) ?_
  intro X hY hn C hnm hQ
  subst hY
  have hQ : gRet X (gQv (xY X) (fun  g9 => ∃ o9, g9 = hu g a (2, o9) ∧ post  o9)) 0 0 ∨ gRex X (gQv (xY X) (fun  g9 => ∃ o9, g9 = hu g a (2, o9) ∧ post  o9)) (fun _ _ => False) 0 0 := Or.inl hQ
  have C : gC X cX1_moveGroup RX1 none rm_X1_moveGroup := C
  refine gX_eq (hu_id hg).symm ?_
  show gX X 0 0 0 [(0, .ref a), (1, .long p0), (3, .int p1), (4, .int p2)] [] (hu g a (2, o))
  unfold wp_X1_moveGroup at w
  exact r_iconst C (v := 0) dX1_moveGroup_0 (by decide) (r_istore C dX1_moveGroup_1 (nlt hn (by decide)) rfl (r_sub [1, 2, 3, 4, 0] rfl (t_X1_moveGroup_3 C hn hQ 1000 _ _ w)))
def rm_X1_setGroup : Room := { frames := 1, cells := 0, slots := 0, locals := 20 }
theorem mt_X1_setGroup : gMt yX1_setGroup cX1_setGroup 4 none 1 := ⟨tw507, tw63, by decide +kernel, by decide +kernel, by decide +kernel⟩
def wp_X1_setGroup_26 (p0 : Int64) (post : FO → Prop) (k2 : Int32 → FO → Prop) (x3 : Int32) (o : FO) : Prop :=
k2 (x3 + 1) o
def wp_X1_setGroup_2 (p0 : Int64) (post : FO → Prop) : Nat → Int32 → FO → Prop
  | 0, _, _ => False
  | n + 1, x3, o =>
    ((40 ≤ x3 → post o) ∧ (¬ 40 ≤ x3 → wp_X7_bit x3 (fun r2 =>
    (((lg_cmp (p0 &&& r2) 0) = 0 → wp_X1_setGroup_26 p0 post (fun x3 o => wp_X1_setGroup_2 p0 post n x3 o) x3 o) ∧ (¬ (lg_cmp (p0 &&& r2) 0) = 0 → vp_in x3 40 ∧
    ∀ o6, o6 = sB o 6 x3.toNatClampNeg p0 →
    wp_X1_setGroup_26 p0 post (fun x3 o => wp_X1_setGroup_2 p0 post n x3 o) x3 o6)))))
def wp_X1_setGroup (p0 : Int64) (o : FO) (post : FO → Prop) : Prop :=
wp_X1_setGroup_2 p0 post 1000 0 o
set_option maxHeartbeats 4000000 in
set_option maxRecDepth 100000 in
theorem t_X1_setGroup_26 {X : gCx} {a : Nat}  {p0 : Int64} {post : FO → Prop} {g : GH}  {k2 : Int32 → FO → Prop} (C : gC X cX1_setGroup RX1 none rm_X1_setGroup) (hn : xn X = 4) (hQ : gRet X (gQv (xY X) (fun  g9 => ∃ o9, g9 = hu g a (2, o9) ∧ post  o9)) 0 0 ∨ gRex X (gQv (xY X) (fun  g9 => ∃ o9, g9 = hu g a (2, o9) ∧ post  o9)) (fun _ _ => False) 0 0)   (hk2 : ∀ (x3 : Int32) (o : FO), k2 x3 o → gX X 0 0 2 [(0, .ref a), (1, .long p0), (3, .int x3)] [] (hu g a (2, o))) : ∀ (x3 : Int32) (o : FO), wp_X1_setGroup_26 p0 post k2 x3 o → gX X 0 0 26 [(0, .ref a), (1, .long p0), (3, .int x3)] [] (hu g a (2, o)) := by
  intro x3 o w
  unfold wp_X1_setGroup_26 at w
  exact r_iinc C (v := x3 + 1) 2 dX1_setGroup_26 rfl rfl (nlt hn (by decide)) rfl (r_goto C 2 dX1_setGroup_29 (by decide) (r_sub [1, 2, 0] rfl (hk2 _ _ w)))
set_option maxHeartbeats 4000000 in
set_option maxRecDepth 100000 in
theorem t_X1_setGroup_2 {X : gCx} {a : Nat}  {p0 : Int64} {post : FO → Prop} {g : GH}   (C : gC X cX1_setGroup RX1 none rm_X1_setGroup) (hn : xn X = 4) (hQ : gRet X (gQv (xY X) (fun  g9 => ∃ o9, g9 = hu g a (2, o9) ∧ post  o9)) 0 0 ∨ gRex X (gQv (xY X) (fun  g9 => ∃ o9, g9 = hu g a (2, o9) ∧ post  o9)) (fun _ _ => False) 0 0)    : ∀ (n : Nat) (x3 : Int32) (o : FO), wp_X1_setGroup_2 p0 post n x3 o → gX X 0 0 2 [(0, .ref a), (1, .long p0), (3, .int x3)] [] (hu g a (2, o)) := by
  intro n
  induction n with
  | zero => intro x3 o w; exact w.elim
  | succ n ih =>
    intro x3 o w
    unfold wp_X1_setGroup_2 at w
    refine r_iload_n C 2 dX1_setGroup_2 rfl (r_bipush C (v := 40) dX1_setGroup_3 (by decide) (r_icmp_ge C 32 dX1_setGroup_5 (by decide) (fun c1 => ?_) (fun c1 => ?_)))
    · have w := w.1 c1
      exact r_vret C hQ dX1_setGroup_32 rfl ⟨Nat.le_of_ble_eq_true rfl, Nat.le_of_ble_eq_true rfl⟩ ⟨_, rfl, w⟩
    · have w := w.2 c1
      refine r_lload_n C 1 dX1_setGroup_8 rfl (r_iload_n C 2 dX1_setGroup_9 rfl (r_gol (r_runSN C dX1_setGroup_10 (m_X7_bit w) mt_X7_bit tw493 tw494 rfl (stk := [.long p0]) rfl (Nat.le_of_ble_eq_true rfl) ⟨rfl, rfl, ⟨Nat.le_of_ble_eq_true rfl, Nat.le_of_ble_eq_true rfl⟩, ⟨Nat.le_of_ble_eq_true rfl, Nat.le_of_ble_eq_true rfl⟩⟩) ?_))
      intro r2 h3 hp
      obtain ⟨rfl, w⟩ := hp
      refine r_land C dX1_setGroup_13 (r_lconst C (v := 0) dX1_setGroup_14 (by decide) (r_lcmp C dX1_setGroup_15 (r_if_eq C 26 dX1_setGroup_16 (by decide) (fun c4 => ?_) (fun c4 => ?_))))
      · have w := w.1 c4
        exact r_sub [0, 1, 2] rfl (t_X1_setGroup_26 C hn hQ ih _ _ w)
      · have w := w.2 c4
        obtain ⟨i5, w⟩ := w
        obtain ⟨o6, e7⟩ : ∃ z, z = sB o 6 x3.toNatClampNeg p0 := ⟨_, rfl⟩
        have w := w o6 e7
        exact r_aload_n C 0 dX1_setGroup_19 rfl (rg_X1_X1_groups C dX1_setGroup_20 hu_s (r_iload_n C 2 dX1_setGroup_23 rfl (r_lload_n C 1 dX1_setGroup_24 rfl (r_last (ci := 2) (k := 6) C dX1_setGroup_25 rfl rfl hu_s i5 e7 hu_hu.symm (r_sub [0, 1, 2] rfl (t_X1_setGroup_26 C hn hQ ih _ _ w))))))
set_option maxHeartbeats 4000000 in
set_option maxRecDepth 100000 in
theorem m_X1_setGroup {Y : gWx} {a : Nat}  {p0 : Int64} {post : FO → Prop} {g : GH}  {o : FO} (hg : g a = some (2, o))    (w : wp_X1_setGroup p0 o post) : gMet Y yX1_setGroup cX1_setGroup 4 none rm_X1_setGroup [.ref a, .long p0] g (gQv Y (fun  g9 => ∃ o9, g9 = hu g a (2, o9) ∧ post  o9)) 0 0 := by
  refine gm_of rfl (Nat.le_of_ble_eq_true rfl) ?_
  intro X hY hn C hnm hQ
  subst hY
  have hQ : gRet X (gQv (xY X) (fun  g9 => ∃ o9, g9 = hu g a (2, o9) ∧ post  o9)) 0 0 ∨ gRex X (gQv (xY X) (fun  g9 => ∃ o9, g9 = hu g a (2, o9) ∧ post  o9)) (fun _ _ => False) 0 0 := Or.inl hQ
  have C : gC X cX1_setGroup RX1 none rm_X1_setGroup := C
  refine gX_eq (hu_id hg).symm ?_
  show gX X 0 0 0 [(0, .ref a), (1, .long p0)] [] (hu g a (2, o))
  unfold wp_X1_setGroup at w
  exact r_iconst C (v := 0) dX1_setGroup_0 (by decide) (r_istore_n C dX1_setGroup_1 (nlt hn (by decide)) rfl (r_sub [1, 2, 0] rfl (t_X1_setGroup_2 C hn hQ 1000 _ _ w)))
def rm_X1_uniteGroups : Room := { frames := 2, cells := 0, slots := 0, locals := 43 }
theorem mt_X1_uniteGroups : gMt yX1_uniteGroups cX1_uniteGroups 3 none 2 := ⟨tw503, tw63, by decide +kernel, by decide +kernel, by decide +kernel⟩
def wp_X1_uniteGroups (p0 : Int32) (p1 : Int32) (o : FO) (post : FO → Prop) : Prop :=
wp_X1_has p0 o (fun r1 =>
((r1 = 0 → post o) ∧ (¬ r1 = 0 → wp_X1_has p1 o (fun r4 =>
((r4 = 0 → post o) ∧ (¬ r4 = 0 → vp_in p0 40 ∧
vp_in p1 40 ∧
wp_X1_setGroup ((fB o 6 p0.toNatClampNeg) ||| (fB o 6 p1.toNatClampNeg)) o (fun o9 =>
post o9)))))))
set_option maxHeartbeats 4000000 in
set_option maxRecDepth 100000 in
theorem m_X1_uniteGroups {Y : gWx} {a : Nat}  {p0 : Int32} {p1 : Int32} {post : FO → Prop} {g : GH}  {o : FO} (hg : g a = some (2, o))    (w : wp_X1_uniteGroups p0 p1 o post) : gMet Y yX1_uniteGroups cX1_uniteGroups 3 none rm_X1_uniteGroups [.ref a, .int p0, .int p1] g (gQv Y (fun  g9 => ∃ o9, g9 = hu g a (2, o9) ∧ post  o9)) 0 0 := by
  refine gm_of rfl (Nat.le_of_ble_eq_true rfl) ?_
  intro X hY hn C hnm hQ
  subst hY
  have hQ : gRet X (gQv (xY X) (fun  g9 => ∃ o9, g9 = hu g a (2, o9) ∧ post  o9)) 0 0 ∨ gRex X (gQv (xY X) (fun  g9 => ∃ o9, g9 = hu g a (2, o9) ∧ post  o9)) (fun _ _ => False) 0 0 := Or.inl hQ
  have C : gC X cX1_uniteGroups RX1 none rm_X1_uniteGroups := C
  refine gX_eq (hu_id hg).symm ?_
  show gX X 0 0 0 [(0, .ref a), (1, .int p0), (2, .int p1)] [] (hu g a (2, o))
  unfold wp_X1_uniteGroups at w
  refine r_aload_n C 0 dX1_uniteGroups_0 rfl (r_iload_n C 1 dX1_uniteGroups_1 rfl (r_goi (r_runV C dX1_uniteGroups_2 (m_X1_has hu_s w) mt_X1_has tw489 tw490 tw491 gcl_2.1 hu_s rfl (stk := []) rfl (Nat.le_of_ble_eq_true rfl) ⟨rfl, rfl, ⟨Nat.le_of_ble_eq_true rfl, Nat.le_of_ble_eq_true rfl⟩, ⟨Nat.le_of_ble_eq_true rfl, Nat.le_of_ble_eq_true rfl⟩⟩) ?_))
  intro r1 h2 hp
  obtain ⟨rfl, w⟩ := hp
  refine r_if_eq C 33 dX1_uniteGroups_5 (by decide) (fun c3 => ?_) (fun c3 => ?_)
  · have w := w.1 c3
    exact r_vret C hQ dX1_uniteGroups_33 rfl ⟨Nat.le_of_ble_eq_true rfl, Nat.le_of_ble_eq_true rfl⟩ ⟨_, rfl, w⟩
  · have w := w.2 c3
    refine r_aload_n C 0 dX1_uniteGroups_8 rfl (r_iload_n C 2 dX1_uniteGroups_9 rfl (r_goi (r_runV C dX1_uniteGroups_10 (m_X1_has hu_s w) mt_X1_has tw489 tw490 tw491 gcl_2.1 hu_s rfl (stk := []) rfl (Nat.le_of_ble_eq_true rfl) ⟨rfl, rfl, ⟨Nat.le_of_ble_eq_true rfl, Nat.le_of_ble_eq_true rfl⟩, ⟨Nat.le_of_ble_eq_true rfl, Nat.le_of_ble_eq_true rfl⟩⟩) ?_))
    intro r4 h5 hp
    obtain ⟨rfl, w⟩ := hp
    refine r_if_eq C 33 dX1_uniteGroups_13 (by decide) (fun c6 => ?_) (fun c6 => ?_)
    · have w := w.1 c6
      exact r_vret C hQ dX1_uniteGroups_33 rfl ⟨Nat.le_of_ble_eq_true rfl, Nat.le_of_ble_eq_true rfl⟩ ⟨_, rfl, w⟩
    · have w := w.2 c6
      obtain ⟨i7, w⟩ := w
      obtain ⟨i8, w⟩ := w
      refine r_aload_n C 0 dX1_uniteGroups_16 rfl (r_aload_n C 0 dX1_uniteGroups_17 rfl (rg_X1_X1_groups C dX1_uniteGroups_18 hu_s (r_iload_n C 1 dX1_uniteGroups_21 rfl (r_lald (ci := 2) (k := 6) C dX1_uniteGroups_22 rfl rfl hu_s i7 (r_aload_n C 0 dX1_uniteGroups_23 rfl (rg_X1_X1_groups C dX1_uniteGroups_24 hu_s (r_iload_n C 2 dX1_uniteGroups_27 rfl (r_lald (ci := 2) (k := 6) C dX1_uniteGroups_28 rfl rfl hu_s i8 (r_lor C dX1_uniteGroups_29 (r_gov (r_runV C dX1_uniteGroups_30 (m_X1_setGroup hu_s w) mt_X1_setGroup tw504 tw506 tw8 gcl_2.1 hu_s rfl (stk := []) rfl (Nat.le_of_ble_eq_true rfl) ⟨rfl, rfl, ⟨Nat.le_of_ble_eq_true rfl, Nat.le_of_ble_eq_true rfl⟩, ⟨Nat.le_of_ble_eq_true rfl, Nat.le_of_ble_eq_true rfl⟩⟩) ?_))))))))))
      intro  h10 hp
      obtain ⟨o9, rfl, w⟩ := hp
      refine gX_eq hu_hu ?_
      exact r_vret C hQ dX1_uniteGroups_33 rfl ⟨Nat.le_of_ble_eq_true rfl, Nat.le_of_ble_eq_true rfl⟩ ⟨_, rfl, w⟩
def rm_X1_leaveGroup : Room := { frames := 2, cells := 0, slots := 0, locals := 43 }
theorem mt_X1_leaveGroup : gMt yX1_leaveGroup cX1_leaveGroup 2 none 1 := ⟨tw511, tw63, by decide +kernel, by decide +kernel, by decide +kernel⟩
def wp_X1_leaveGroup (p0 : Int32) (o : FO) (post : FO → Prop) : Prop :=
vp_in p0 40 ∧
wp_X7_bit p0 (fun r2 =>
wp_X1_setGroup ((fB o 6 p0.toNatClampNeg) &&& (r2 ^^^ ((-1)))) o (fun o4 =>
wp_X7_bit p0 (fun r6 =>
vp_in p0 40 ∧
∀ o9, o9 = sB o4 6 p0.toNatClampNeg r6 →
post o9)))
set_option maxHeartbeats 4000000 in
set_option maxRecDepth 100000 in
theorem m_X1_leaveGroup {Y : gWx} {a : Nat}  {p0 : Int32} {post : FO → Prop} {g : GH}  {o : FO} (hg : g a = some (2, o))    (w : wp_X1_leaveGroup p0 o post) : gMet Y yX1_leaveGroup cX1_leaveGroup 2 none rm_X1_leaveGroup [.ref a, .int p0] g (gQv Y (fun  g9 => ∃ o9, g9 = hu g a (2, o9) ∧ post  o9)) 0 0 := by
  refine gm_of rfl (Nat.le_of_ble_eq_true rfl) ?_
  intro X hY hn C hnm hQ
  subst hY
  have hQ : gRet X (gQv (xY X) (fun  g9 => ∃ o9, g9 = hu g a (2, o9) ∧ post  o9)) 0 0 ∨ gRex X (gQv (xY X) (fun  g9 => ∃ o9, g9 = hu g a (2, o9) ∧ post  o9)) (fun _ _ => False) 0 0 := Or.inl hQ
  have C : gC X cX1_leaveGroup RX1 none rm_X1_leaveGroup := C
  refine gX_eq (hu_id hg).symm ?_
  show gX X 0 0 0 [(0, .ref a), (1, .int p0)] [] (hu g a (2, o))
  unfold wp_X1_leaveGroup at w
  obtain ⟨i1, w⟩ := w
  refine r_aload_n C 0 dX1_leaveGroup_0 rfl (r_aload_n C 0 dX1_leaveGroup_1 rfl (rg_X1_X1_groups C dX1_leaveGroup_2 hu_s (r_iload_n C 1 dX1_leaveGroup_5 rfl (r_lald (ci := 2) (k := 6) C dX1_leaveGroup_6 rfl rfl hu_s i1 (r_iload_n C 1 dX1_leaveGroup_7 rfl (r_gol (r_runSN C dX1_leaveGroup_8 (m_X7_bit w) mt_X7_bit tw493 tw494 rfl (stk := [.long (fB o 6 p0.toNatClampNeg), .ref a]) rfl (Nat.le_of_ble_eq_true rfl) ⟨rfl, rfl, ⟨Nat.le_of_ble_eq_true rfl, Nat.le_of_ble_eq_true rfl⟩, ⟨Nat.le_of_ble_eq_true rfl, Nat.le_of_ble_eq_true rfl⟩⟩) ?_))))))
  intro r2 h3 hp
  obtain ⟨rfl, w⟩ := hp
  refine r_ldc2 C dX1_leaveGroup_11 tw512 (r_lxor C dX1_leaveGroup_14 (r_land C dX1_leaveGroup_15 (r_gov (r_runV C dX1_leaveGroup_16 (m_X1_setGroup hu_s w) mt_X1_setGroup tw504 tw506 tw8 gcl_2.1 hu_s rfl (stk := []) rfl (Nat.le_of_ble_eq_true rfl) ⟨rfl, rfl, ⟨Nat.le_of_ble_eq_true rfl, Nat.le_of_ble_eq_true rfl⟩, ⟨Nat.le_of_ble_eq_true rfl, Nat.le_of_ble_eq_true rfl⟩⟩) ?_)))
  intro  h5 hp
  obtain ⟨o4, rfl, w⟩ := hp
  refine gX_eq hu_hu ?_
  refine r_aload_n C 0 dX1_leaveGroup_19 rfl (rg_X1_X1_groups C dX1_leaveGroup_20 hu_s (r_iload_n C 1 dX1_leaveGroup_23 rfl (r_iload_n C 1 dX1_leaveGroup_24 rfl (r_gol (r_runSN C dX1_leaveGroup_25 (m_X7_bit w) mt_X7_bit tw493 tw494 rfl (stk := [.int p0, .ref (a + 7)]) rfl (Nat.le_of_ble_eq_true rfl) ⟨rfl, rfl, ⟨Nat.le_of_ble_eq_true rfl, Nat.le_of_ble_eq_true rfl⟩, ⟨Nat.le_of_ble_eq_true rfl, Nat.le_of_ble_eq_true rfl⟩⟩) ?_))))
  intro r6 h7 hp
  obtain ⟨rfl, w⟩ := hp
  obtain ⟨i8, w⟩ := w
  obtain ⟨o9, e10⟩ : ∃ z, z = sB o4 6 p0.toNatClampNeg r6 := ⟨_, rfl⟩
  have w := w o9 e10
  exact r_last (ci := 2) (k := 6) C dX1_leaveGroup_28 rfl rfl hu_s i8 e10 hu_hu.symm (r_vret C hQ dX1_leaveGroup_29 rfl ⟨Nat.le_of_ble_eq_true rfl, Nat.le_of_ble_eq_true rfl⟩ ⟨_, rfl, w⟩)
def rm_X1_change : Room := { frames := 3, cells := 0, slots := 0, locals := 65 }
theorem mt_X1_change : gMt yX1_change cX1_change 3 none 1 := ⟨tw488, tw63, by decide +kernel, by decide +kernel, by decide +kernel⟩
def wp_X1_change (a : Nat) (p0 : Nat) (g : GH) (post : GH → Prop) : Prop :=
∃ o1, g p0 = some (1, o1) ∧
∃ o4, g a = some (2, o4) ∧
wp_X1_has (fI o1 2) o4 (fun r3 =>
((¬ r3 = 0 → ∃ o8, g p0 = some (1, o8) ∧
(((fI o8 1) = 1 → ∃ o11, g a = some (2, o11) ∧
∃ o13, g a = some (2, o13) ∧
vp_in (fI o1 2) 40 ∧
∃ o16, g p0 = some (1, o16) ∧
∃ o18, g p0 = some (1, o18) ∧
∃ o20, g a = some (2, o20) ∧
wp_X1_moveGroup (fB o13 6 (fI o1 2).toNatClampNeg) (fI o16 3) (fI o18 4) o20 (fun o22 => ∀ g23, g23 = hu g a (2, o22) →
post g23)) ∧ (¬ (fI o8 1) = 1 → (((fI o8 1) = 2 → ∃ o26, g a = some (2, o26) ∧
∃ o28, g p0 = some (1, o28) ∧
∃ o30, g a = some (2, o30) ∧
vp_in (fI o1 2) 40 ∧
∀ g33, g33 = hu g a (2, sA o30 4 (fI o1 2).toNatClampNeg (fI o28 3)) →
post g33) ∧ (¬ (fI o8 1) = 2 → (((fI o8 1) = 3 → ∃ o36, g a = some (2, o36) ∧
∃ o38, g a = some (2, o38) ∧
∃ o40, g a = some (2, o40) ∧
∀ g42, g42 = hu g a (2, sI o40 8 ((fI o38 8) + 1)) →
∃ o44, g42 a = some (2, o44) ∧
vp_in (fI o1 2) 40 ∧
∀ g47, g47 = hu g42 a (2, sA o44 5 (fI o1 2).toNatClampNeg ((fI o38 8) + 1)) →
post g47) ∧ (¬ (fI o8 1) = 3 → (((fI o8 1) = 4 → ∃ o50, g a = some (2, o50) ∧
∃ o52, g a = some (2, o52) ∧
∃ o54, g a = some (2, o54) ∧
∀ g56, g56 = hu g a (2, sI o54 9 ((fI o52 9) - 1)) →
∃ o58, g56 a = some (2, o58) ∧
vp_in (fI o1 2) 40 ∧
∀ g61, g61 = hu g56 a (2, sA o58 5 (fI o1 2).toNatClampNeg ((fI o52 9) - 1)) →
post g61) ∧ (¬ (fI o8 1) = 4 → (((fI o8 1) = 5 → ∃ o64, g p0 = some (1, o64) ∧
∃ o66, g a = some (2, o66) ∧
wp_X1_uniteGroups (fI o1 2) (fI o64 3) o66 (fun o68 => ∀ g69, g69 = hu g a (2, o68) →
post g69)) ∧ (¬ (fI o8 1) = 5 → (((fI o8 1) = 6 → ∃ o72, g a = some (2, o72) ∧
wp_X1_leaveGroup (fI o1 2) o72 (fun o74 => ∀ g75, g75 = hu g a (2, o74) →
post g75)) ∧ (¬ (fI o8 1) = 6 → (((fI o8 1) = 7 → ∃ o78, g a = some (2, o78) ∧
wp_X1_leaveGroup (fI o1 2) o78 (fun o80 => ∀ g81, g81 = hu g a (2, o80) →
∃ o83, g81 a = some (2, o83) ∧
wp_X7_bit (fI o1 2) (fun r85 =>
∃ o87, g81 a = some (2, o87) ∧
∀ g89, g89 = hu g81 a (2, sL o87 7 ((fL o83 7) &&& (r85 ^^^ ((-1))))) →
post g89))) ∧ (¬ (fI o8 1) = 7 → post g))))))))))))))) ∧ (r3 = 0 → post g)))
set_option maxHeartbeats 4000000 in
set_option maxRecDepth 100000 in
theorem m_X1_change {Y : gWx} {a : Nat}  {p0 : Nat} {post : GH → Prop} {g : GH}     (w : wp_X1_change a p0 g post) : gMet Y yX1_change cX1_change 3 none rm_X1_change [.ref a, .ref p0] g (gQv Y post) 0 0 := by
  refine gm_of rfl (Nat.le_of_ble_eq_true rfl) ?_
  intro X hY hn C hnm hQ
  subst hY
  have hQ : gRet X (gQv (xY X) post) 0 0 ∨ gRex X (gQv (xY X) post) (fun _ _ => False) 0 0 := Or.inl hQ
  have C : gC X cX1_change RX1 none rm_X1_change := C
  show gX X 0 0 0 [(0, .ref a), (1, .ref p0)] [] g
  unfold wp_X1_change at w
  obtain ⟨o1, e2, w⟩ := w
  obtain ⟨o4, e5, w⟩ := w
  refine r_aload_n C 1 dX1_change_0 rfl (rg_X1_X0_shape C dX1_change_1 e2 (r_istore_n C dX1_change_4 (nlt hn (by decide)) rfl (r_aload_n C 1 dX1_change_5 rfl (r_iload_n C 0 dX1_change_6 rfl (r_goi (r_runV C dX1_change_7 (m_X1_has e5 w) mt_X1_has tw489 tw490 tw491 gcl_2.1 e5 rfl (stk := []) rfl (Nat.le_of_ble_eq_true rfl) ⟨rfl, rfl, ⟨Nat.le_of_ble_eq_true rfl, Nat.le_of_ble_eq_true rfl⟩, ⟨Nat.le_of_ble_eq_true rfl, Nat.le_of_ble_eq_true rfl⟩⟩) ?_)))))
  intro r3 h6 hp
  obtain ⟨e9, w⟩ := hp
  rw [e9]
  refine r_if_ne C 14 dX1_change_10 (by decide) (fun c7 => ?_) (fun c7 => ?_)
  · have w := w.1 c7
    obtain ⟨o8, e9, w⟩ := w
    by_cases c10 : fI o8 1 = 1
    · have w := w.1 c10
      refine r_aload_n C 2 dX1_change_14 rfl (rg_X1_X0_kind C dX1_change_15 e9 (r_tsIn C 60 c10 dX1_change_18 (by decide) (by decide) rfl (by decide) ?_))
      obtain ⟨o11, e12, w⟩ := w
      obtain ⟨o13, e14, w⟩ := w
      obtain ⟨i15, w⟩ := w
      obtain ⟨o16, e17, w⟩ := w
      obtain ⟨o18, e19, w⟩ := w
      obtain ⟨o20, e21, w⟩ := w
      refine r_aload_n C 1 dX1_change_60 rfl (r_aload_n C 1 dX1_change_61 rfl (rg_X1_X1_groups C dX1_change_62 e12 (r_iload_n C 0 dX1_change_65 rfl (r_lald (ci := 2) (k := 6) C dX1_change_66 rfl rfl e14 i15 (r_aload_n C 2 dX1_change_67 rfl (rg_X1_X0_first C dX1_change_68 e17 (r_aload_n C 2 dX1_change_71 rfl (rg_X1_X0_second C dX1_change_72 e19 (r_gov (r_runV C dX1_change_75 (m_X1_moveGroup e21 w) mt_X1_moveGroup tw496 tw498 tw6 gcl_2.1 e21 rfl (stk := []) rfl (Nat.le_of_ble_eq_true rfl) ⟨rfl, rfl, ⟨Nat.le_of_ble_eq_true rfl, Nat.le_of_ble_eq_true rfl⟩, ⟨Nat.le_of_ble_eq_true rfl, Nat.le_of_ble_eq_true rfl⟩⟩) ?_)))))))))
      intro  h24 hp
      obtain ⟨o22, e9, w⟩ := hp
      obtain ⟨g23, rfl⟩ : ∃ z, z = h24 := ⟨_, rfl⟩
      have w := w _ e9
      exact r_goto C 179 dX1_change_78 (by decide) (r_vret C hQ dX1_change_179 rfl ⟨Nat.le_of_ble_eq_true rfl, Nat.le_of_ble_eq_true rfl⟩ w)
    · have w := w.2 c10
      by_cases c25 : fI o8 1 = 2
      · have w := w.1 c25
        refine r_aload_n C 2 dX1_change_14 rfl (rg_X1_X0_kind C dX1_change_15 e9 (r_tsIn C 81 c25 dX1_change_18 (by decide) (by decide) rfl (by decide) ?_))
        obtain ⟨o26, e27, w⟩ := w
        obtain ⟨o28, e29, w⟩ := w
        obtain ⟨o30, e31, w⟩ := w
        obtain ⟨i32, w⟩ := w
        obtain ⟨g33, e34⟩ : ∃ z, z = hu g a (2, sA o30 4 (fI o1 2).toNatClampNeg (fI o28 3)) := ⟨_, rfl⟩
        have w := w g33 e34
        exact r_aload_n C 1 dX1_change_81 rfl (rg_X1_X1_colours C dX1_change_82 e27 (r_iload_n C 0 dX1_change_85 rfl (r_aload_n C 2 dX1_change_86 rfl (rg_X1_X0_first C dX1_change_87 e29 (r_iast (ci := 2) (k := 4) C dX1_change_90 rfl rfl e31 i32 rfl e34 (r_goto C 179 dX1_change_91 (by decide) (r_vret C hQ dX1_change_179 rfl ⟨Nat.le_of_ble_eq_true rfl, Nat.le_of_ble_eq_true rfl⟩ w)))))))
      · have w := w.2 c25
        by_cases c35 : fI o8 1 = 3
        · have w := w.1 c35
          refine r_aload_n C 2 dX1_change_14 rfl (rg_X1_X0_kind C dX1_change_15 e9 (r_tsIn C 94 c35 dX1_change_18 (by decide) (by decide) rfl (by decide) ?_))
          obtain ⟨o36, e37, w⟩ := w
          obtain ⟨o38, e39, w⟩ := w
          obtain ⟨o40, e41, w⟩ := w
          obtain ⟨g42, e43⟩ : ∃ z, z = hu g a (2, sI o40 8 ((fI o38 8) + 1)) := ⟨_, rfl⟩
          have w := w g42 e43
          obtain ⟨o44, e45, w⟩ := w
          obtain ⟨i46, w⟩ := w
          obtain ⟨g47, e48⟩ : ∃ z, z = hu g42 a (2, sA o44 5 (fI o1 2).toNatClampNeg ((fI o38 8) + 1)) := ⟨_, rfl⟩
          have w := w g47 e48
          exact r_aload_n C 1 dX1_change_94 rfl (rg_X1_X1_layers C dX1_change_95 e37 (r_iload_n C 0 dX1_change_98 rfl (r_aload_n C 1 dX1_change_99 rfl (r_dup C dX1_change_100 rfl (rg_X1_X1_highestLayer C dX1_change_101 e39 (r_iconst C (v := 1) dX1_change_104 (by decide) (r_iadd C dX1_change_105 (r_dup_x1 C dX1_change_106 rfl rfl (rp_X1_X1_highestLayer C dX1_change_107 e41 rfl e43 (r_iast (ci := 2) (k := 5) C dX1_change_110 rfl rfl e45 i46 rfl e48 (r_goto C 179 dX1_change_111 (by decide) (r_vret C hQ dX1_change_179 rfl ⟨Nat.le_of_ble_eq_true rfl, Nat.le_of_ble_eq_true rfl⟩ w))))))))))))
        · have w := w.2 c35
          by_cases c49 : fI o8 1 = 4
          · have w := w.1 c49
            refine r_aload_n C 2 dX1_change_14 rfl (rg_X1_X0_kind C dX1_change_15 e9 (r_tsIn C 114 c49 dX1_change_18 (by decide) (by decide) rfl (by decide) ?_))
            obtain ⟨o50, e51, w⟩ := w
            obtain ⟨o52, e53, w⟩ := w
            obtain ⟨o54, e55, w⟩ := w
            obtain ⟨g56, e57⟩ : ∃ z, z = hu g a (2, sI o54 9 ((fI o52 9) - 1)) := ⟨_, rfl⟩
            have w := w g56 e57
            obtain ⟨o58, e59, w⟩ := w
            obtain ⟨i60, w⟩ := w
            obtain ⟨g61, e62⟩ : ∃ z, z = hu g56 a (2, sA o58 5 (fI o1 2).toNatClampNeg ((fI o52 9) - 1)) := ⟨_, rfl⟩
            have w := w g61 e62
            exact r_aload_n C 1 dX1_change_114 rfl (rg_X1_X1_layers C dX1_change_115 e51 (r_iload_n C 0 dX1_change_118 rfl (r_aload_n C 1 dX1_change_119 rfl (r_dup C dX1_change_120 rfl (rg_X1_X1_lowestLayer C dX1_change_121 e53 (r_iconst C (v := 1) dX1_change_124 (by decide) (r_isub C dX1_change_125 (r_dup_x1 C dX1_change_126 rfl rfl (rp_X1_X1_lowestLayer C dX1_change_127 e55 rfl e57 (r_iast (ci := 2) (k := 5) C dX1_change_130 rfl rfl e59 i60 rfl e62 (r_goto C 179 dX1_change_131 (by decide) (r_vret C hQ dX1_change_179 rfl ⟨Nat.le_of_ble_eq_true rfl, Nat.le_of_ble_eq_true rfl⟩ w))))))))))))
          · have w := w.2 c49
            by_cases c63 : fI o8 1 = 5
            · have w := w.1 c63
              refine r_aload_n C 2 dX1_change_14 rfl (rg_X1_X0_kind C dX1_change_15 e9 (r_tsIn C 134 c63 dX1_change_18 (by decide) (by decide) rfl (by decide) ?_))
              obtain ⟨o64, e65, w⟩ := w
              obtain ⟨o66, e67, w⟩ := w
              refine r_aload_n C 1 dX1_change_134 rfl (r_iload_n C 0 dX1_change_135 rfl (r_aload_n C 2 dX1_change_136 rfl (rg_X1_X0_first C dX1_change_137 e65 (r_gov (r_runV C dX1_change_140 (m_X1_uniteGroups e67 w) mt_X1_uniteGroups tw500 tw502 tw7 gcl_2.1 e67 rfl (stk := []) rfl (Nat.le_of_ble_eq_true rfl) ⟨rfl, rfl, ⟨Nat.le_of_ble_eq_true rfl, Nat.le_of_ble_eq_true rfl⟩, ⟨Nat.le_of_ble_eq_true rfl, Nat.le_of_ble_eq_true rfl⟩⟩) ?_))))
              intro  h70 hp
              obtain ⟨o68, e9, w⟩ := hp
              obtain ⟨g69, rfl⟩ : ∃ z, z = h70 := ⟨_, rfl⟩
              have w := w _ e9
              exact r_goto C 179 dX1_change_143 (by decide) (r_vret C hQ dX1_change_179 rfl ⟨Nat.le_of_ble_eq_true rfl, Nat.le_of_ble_eq_true rfl⟩ w)
            · have w := w.2 c63
              by_cases c71 : fI o8 1 = 6
              · have w := w.1 c71
                refine r_aload_n C 2 dX1_change_14 rfl (rg_X1_X0_kind C dX1_change_15 e9 (r_tsIn C 146 c71 dX1_change_18 (by decide) (by decide) rfl (by decide) ?_))
                obtain ⟨o72, e73, w⟩ := w
                refine r_aload_n C 1 dX1_change_146 rfl (r_iload_n C 0 dX1_change_147 rfl (r_gov (r_runV C dX1_change_148 (m_X1_leaveGroup e73 w) mt_X1_leaveGroup tw508 tw510 tw9 gcl_2.1 e73 rfl (stk := []) rfl (Nat.le_of_ble_eq_true rfl) ⟨rfl, rfl, ⟨Nat.le_of_ble_eq_true rfl, Nat.le_of_ble_eq_true rfl⟩, ⟨Nat.le_of_ble_eq_true rfl, Nat.le_of_ble_eq_true rfl⟩⟩) ?_))
                intro  h76 hp
                obtain ⟨o74, e9, w⟩ := hp
                obtain ⟨g75, rfl⟩ : ∃ z, z = h76 := ⟨_, rfl⟩
                have w := w _ e9
                exact r_goto C 179 dX1_change_151 (by decide) (r_vret C hQ dX1_change_179 rfl ⟨Nat.le_of_ble_eq_true rfl, Nat.le_of_ble_eq_true rfl⟩ w)
              · have w := w.2 c71
                by_cases c77 : fI o8 1 = 7
                · have w := w.1 c77
                  refine r_aload_n C 2 dX1_change_14 rfl (rg_X1_X0_kind C dX1_change_15 e9 (r_tsIn C 154 c77 dX1_change_18 (by decide) (by decide) rfl (by decide) ?_))
                  obtain ⟨o78, e79, w⟩ := w
                  refine r_aload_n C 1 dX1_change_154 rfl (r_iload_n C 0 dX1_change_155 rfl (r_gov (r_runV C dX1_change_156 (m_X1_leaveGroup e79 w) mt_X1_leaveGroup tw508 tw510 tw9 gcl_2.1 e79 rfl (stk := []) rfl (Nat.le_of_ble_eq_true rfl) ⟨rfl, rfl, ⟨Nat.le_of_ble_eq_true rfl, Nat.le_of_ble_eq_true rfl⟩, ⟨Nat.le_of_ble_eq_true rfl, Nat.le_of_ble_eq_true rfl⟩⟩) ?_))
                  intro  h82 hp
                  obtain ⟨o80, e9, w⟩ := hp
                  obtain ⟨g81, rfl⟩ : ∃ z, z = h82 := ⟨_, rfl⟩
                  have w := w _ e9
                  obtain ⟨o83, e84, w⟩ := w
                  refine r_aload_n C 1 dX1_change_159 rfl (r_dup C dX1_change_160 rfl (rg_X1_X1_present C dX1_change_161 e84 (r_iload_n C 0 dX1_change_164 rfl (r_gol (r_runSN C dX1_change_165 (m_X7_bit w) mt_X7_bit tw493 tw494 rfl (stk := [.long (fL o83 7), .ref a]) rfl (Nat.le_of_ble_eq_true rfl) ⟨rfl, rfl, ⟨Nat.le_of_ble_eq_true rfl, Nat.le_of_ble_eq_true rfl⟩, ⟨Nat.le_of_ble_eq_true rfl, Nat.le_of_ble_eq_true rfl⟩⟩) ?_))))
                  intro r85 h86 hp
                  obtain ⟨e9, w⟩ := hp
                  rw [e9]
                  obtain ⟨o87, e88, w⟩ := w
                  obtain ⟨g89, e90⟩ : ∃ z, z = hu g81 a (2, sL o87 7 ((fL o83 7) &&& (r85 ^^^ ((-1))))) := ⟨_, rfl⟩
                  have w := w g89 e90
                  exact r_ldc2 C dX1_change_168 tw512 (r_lxor C dX1_change_171 (r_land C dX1_change_172 (rp_X1_X1_present C dX1_change_173 e88 rfl e90 (r_goto C 179 dX1_change_176 (by decide) (r_vret C hQ dX1_change_179 rfl ⟨Nat.le_of_ble_eq_true rfl, Nat.le_of_ble_eq_true rfl⟩ w)))))
                · have w := w.2 c77
                  refine r_aload_n C 2 dX1_change_14 rfl (rg_X1_X0_kind C dX1_change_15 e9 (r_tsOut C 179 dX1_change_18 (ts_out (lo := 1) (hi := 7) (fun v9 h9 h8 => by rcases (show v9 = 1 ∨ v9 = 2 ∨ v9 = 3 ∨ v9 = 4 ∨ v9 = 5 ∨ v9 = 6 ∨ v9 = 7 by omega) with rfl | rfl | rfl | rfl | rfl | rfl | rfl <;> first | exact c10 | exact c25 | exact c35 | exact c49 | exact c63 | exact c71 | exact c77)) (by decide) ?_))
                  exact r_vret C hQ dX1_change_179 rfl ⟨Nat.le_of_ble_eq_true rfl, Nat.le_of_ble_eq_true rfl⟩ w
  · have w := w.2 c7
    exact r_vret C hQ dX1_change_13 rfl ⟨Nat.le_of_ble_eq_true rfl, Nat.le_of_ble_eq_true rfl⟩ w
def rm_X7_isShape : Room := { frames := 1, cells := 0, slots := 0, locals := 20 }
theorem mt_X7_isShape : gMt yX7_isShape cX7_isShape 2 (some .boolean) 1 := ⟨tw516, tw59, by decide +kernel, by decide +kernel, by decide +kernel⟩
def wp_X7_isShape (a : Nat) (p0 : Int32) (g : GH)  (post : Int32 → Prop) : Prop :=
((p0 < 0 → post 0) ∧ (¬ p0 < 0 → ∃ o2, g a = some (8, o2) ∧
∃ o4, g (fR o2 0) = some (0, o4) ∧
(((fI o4 2) ≤ p0 → post 0) ∧ (¬ (fI o4 2) ≤ p0 → post 1))))
set_option maxHeartbeats 4000000 in
set_option maxRecDepth 100000 in
theorem m_X7_isShape {Y : gWx} {a : Nat}  {p0 : Int32} {post : Int32 → Prop} {g : GH}     (w : wp_X7_isShape a p0 g post) : gMet Y yX7_isShape cX7_isShape 2 (some .boolean) rm_X7_isShape [.ref a, .int p0] g (gQi Y (fun r9 g9 => g9 = g ∧ post r9)) 0 0 := by
  refine gm_of rfl (Nat.le_of_ble_eq_true rfl) ?_
  intro X hY hn C hnm hQ
  subst hY
  have hQ : gRet X (gQi (xY X) (fun r9 g9 => g9 = g ∧ post r9)) 0 0 ∨ gRex X (gQi (xY X) (fun r9 g9 => g9 = g ∧ post r9)) (fun _ _ => False) 0 0 := Or.inl hQ
  have C : gC X cX7_isShape RX7 (some .boolean) rm_X7_isShape := C
  show gX X 0 0 0 [(0, .ref a), (1, .int p0)] [] g
  unfold wp_X7_isShape at w
  refine r_iload_n C 1 dX7_isShape_0 rfl (r_if_lt C 19 dX7_isShape_1 (by decide) (fun c1 => ?_) (fun c1 => ?_))
  · have w := w.1 c1
    exact r_iconst C (v := 0) dX7_isShape_19 (by decide) (r_iret C hQ dX7_isShape_20 rfl rfl ⟨Nat.le_of_ble_eq_true rfl, Nat.le_of_ble_eq_true rfl⟩ ⟨rfl, w⟩)
  · have w := w.2 c1
    obtain ⟨o2, e3, w⟩ := w
    obtain ⟨o4, e5, w⟩ := w
    refine r_iload_n C 1 dX7_isShape_4 rfl (r_aload_n C 0 dX7_isShape_5 rfl (rg_X7_X7_addedShapes C dX7_isShape_6 e3 (r_goi (r_runV C dX7_isShape_9 (m_lsize e5) mt_Jx4a65c_size_8abf5 tw201 tw202 tw203 (ci := 0) rfl e5 rfl (stk := [.int p0]) rfl (Nat.le_of_ble_eq_true rfl) ⟨rfl, rfl, ⟨Nat.le_of_ble_eq_true rfl, Nat.le_of_ble_eq_true rfl⟩, ⟨Nat.le_of_ble_eq_true rfl, Nat.le_of_ble_eq_true rfl⟩⟩) ?_)))
    intro r7 h6 hp
    obtain ⟨e9, e8⟩ := hp
    rw [e9, e8]
    refine r_icmp_ge C 19 dX7_isShape_12 (by decide) (fun c8 => ?_) (fun c8 => ?_)
    · have w := w.1 c8
      exact r_iconst C (v := 0) dX7_isShape_19 (by decide) (r_iret C hQ dX7_isShape_20 rfl rfl ⟨Nat.le_of_ble_eq_true rfl, Nat.le_of_ble_eq_true rfl⟩ ⟨rfl, w⟩)
    · have w := w.2 c8
      exact r_iconst C (v := 1) dX7_isShape_15 (by decide) (r_goto C 20 dX7_isShape_16 (by decide) (r_iret C hQ dX7_isShape_20 rfl rfl ⟨Nat.le_of_ble_eq_true rfl, Nat.le_of_ble_eq_true rfl⟩ ⟨rfl, w⟩))
def rm_X1_put : Room := { frames := 1, cells := 0, slots := 0, locals := 20 }
theorem mt_X1_put : gMt yX1_put cX1_put 3 none 2 := ⟨tw520, tw63, by decide +kernel, by decide +kernel, by decide +kernel⟩
def wp_X1_put (a : Nat) (p0 : Int32) (p1 : Nat) (g : GH) (post : GH → Prop) : Prop :=
((p0 < 0 → post g) ∧ (¬ p0 < 0 → ((p0 < 40 → ∃ o3, g a = some (2, o3) ∧
∃ o5, g p1 = some (6, o5) ∧
∃ o7, g a = some (2, o7) ∧
vp_in p0 40 ∧
∀ g10, g10 = hu g a (2, sA o7 0 p0.toNatClampNeg (fI o5 1)) →
∃ o12, g10 a = some (2, o12) ∧
∃ o14, g10 p1 = some (6, o14) ∧
∃ o16, g10 a = some (2, o16) ∧
vp_in p0 40 ∧
∀ g19, g19 = hu g10 a (2, sA o16 1 p0.toNatClampNeg (fI o14 2)) →
∃ o21, g19 a = some (2, o21) ∧
∃ o23, g19 p1 = some (6, o23) ∧
∃ o25, g19 a = some (2, o25) ∧
vp_in p0 40 ∧
∀ g28, g28 = hu g19 a (2, sA o25 2 p0.toNatClampNeg (fI o23 3)) →
∃ o30, g28 a = some (2, o30) ∧
∃ o32, g28 p1 = some (6, o32) ∧
∃ o34, g28 a = some (2, o34) ∧
vp_in p0 40 ∧
∀ g37, g37 = hu g28 a (2, sA o34 3 p0.toNatClampNeg (fI o32 4)) →
∃ o39, g37 a = some (2, o39) ∧
∃ o41, g37 p1 = some (6, o41) ∧
∃ o43, g37 a = some (2, o43) ∧
vp_in p0 40 ∧
∀ g46, g46 = hu g37 a (2, sA o43 4 p0.toNatClampNeg (fI o41 5)) →
∃ o48, g46 a = some (2, o48) ∧
∃ o50, g46 a = some (2, o50) ∧
∃ o52, g46 a = some (2, o52) ∧
∀ g54, g54 = hu g46 a (2, sI o52 8 ((fI o50 8) + 1)) →
∃ o56, g54 a = some (2, o56) ∧
vp_in p0 40 ∧
∀ g59, g59 = hu g54 a (2, sA o56 5 p0.toNatClampNeg ((fI o50 8) + 1)) →
∃ o61, g59 a = some (2, o61) ∧
wp_X7_bit p0 (fun r63 =>
∃ o65, g59 a = some (2, o65) ∧
vp_in p0 40 ∧
∀ g68, g68 = hu g59 a (2, sB o65 6 p0.toNatClampNeg r63) →
∃ o70, g68 a = some (2, o70) ∧
wp_X7_bit p0 (fun r72 =>
∃ o74, g68 a = some (2, o74) ∧
∀ g76, g76 = hu g68 a (2, sL o74 7 ((fL o70 7) ||| r72)) →
post g76))) ∧ (¬ p0 < 40 → post g))))
set_option maxHeartbeats 4000000 in
set_option maxRecDepth 100000 in
theorem m_X1_put {Y : gWx} {a : Nat}  {p0 : Int32} {p1 : Nat} {post : GH → Prop} {g : GH}     (w : wp_X1_put a p0 p1 g post) : gMet Y yX1_put cX1_put 3 none rm_X1_put [.ref a, .int p0, .ref p1] g (gQv Y post) 0 0 := by
  refine gm_of rfl (Nat.le_of_ble_eq_true rfl) ?_
  intro X hY hn C hnm hQ
  subst hY
  have hQ : gRet X (gQv (xY X) post) 0 0 ∨ gRex X (gQv (xY X) post) (fun _ _ => False) 0 0 := Or.inl hQ
  have C : gC X cX1_put RX1 none rm_X1_put := C
  show gX X 0 0 0 [(0, .ref a), (1, .int p0), (2, .ref p1)] [] g
  unfold wp_X1_put at w
  refine r_iload_n C 1 dX1_put_0 rfl (r_if_lt C 10 dX1_put_1 (by decide) (fun c1 => ?_) (fun c1 => ?_))
  · have w := w.1 c1
    exact r_vret C hQ dX1_put_10 rfl ⟨Nat.le_of_ble_eq_true rfl, Nat.le_of_ble_eq_true rfl⟩ w
  · have w := w.2 c1
    refine r_iload_n C 1 dX1_put_4 rfl (r_bipush C (v := 40) dX1_put_5 (by decide) (r_icmp_lt C 11 dX1_put_7 (by decide) (fun c2 => ?_) (fun c2 => ?_)))
    · have w := w.1 c2
      obtain ⟨o3, e4, w⟩ := w
      obtain ⟨o5, e6, w⟩ := w
      obtain ⟨o7, e8, w⟩ := w
      obtain ⟨i9, w⟩ := w
      obtain ⟨g10, e11⟩ : ∃ z, z = hu g a (2, sA o7 0 p0.toNatClampNeg (fI o5 1)) := ⟨_, rfl⟩
      have w := w g10 e11
      obtain ⟨o12, e13, w⟩ := w
      obtain ⟨o14, e15, w⟩ := w
      obtain ⟨o16, e17, w⟩ := w
      obtain ⟨i18, w⟩ := w
      obtain ⟨g19, e20⟩ : ∃ z, z = hu g10 a (2, sA o16 1 p0.toNatClampNeg (fI o14 2)) := ⟨_, rfl⟩
      have w := w g19 e20
      obtain ⟨o21, e22, w⟩ := w
      obtain ⟨o23, e24, w⟩ := w
      obtain ⟨o25, e26, w⟩ := w
      obtain ⟨i27, w⟩ := w
      obtain ⟨g28, e29⟩ : ∃ z, z = hu g19 a (2, sA o25 2 p0.toNatClampNeg (fI o23 3)) := ⟨_, rfl⟩
      have w := w g28 e29
      obtain ⟨o30, e31, w⟩ := w
      obtain ⟨o32, e33, w⟩ := w
      obtain ⟨o34, e35, w⟩ := w
      obtain ⟨i36, w⟩ := w
      obtain ⟨g37, e38⟩ : ∃ z, z = hu g28 a (2, sA o34 3 p0.toNatClampNeg (fI o32 4)) := ⟨_, rfl⟩
      have w := w g37 e38
      obtain ⟨o39, e40, w⟩ := w
      obtain ⟨o41, e42, w⟩ := w
      obtain ⟨o43, e44, w⟩ := w
      obtain ⟨i45, w⟩ := w
      obtain ⟨g46, e47⟩ : ∃ z, z = hu g37 a (2, sA o43 4 p0.toNatClampNeg (fI o41 5)) := ⟨_, rfl⟩
      have w := w g46 e47
      obtain ⟨o48, e49, w⟩ := w
      obtain ⟨o50, e51, w⟩ := w
      obtain ⟨o52, e53, w⟩ := w
      obtain ⟨g54, e55⟩ : ∃ z, z = hu g46 a (2, sI o52 8 ((fI o50 8) + 1)) := ⟨_, rfl⟩
      have w := w g54 e55
      obtain ⟨o56, e57, w⟩ := w
      obtain ⟨i58, w⟩ := w
      obtain ⟨g59, e60⟩ : ∃ z, z = hu g54 a (2, sA o56 5 p0.toNatClampNeg ((fI o50 8) + 1)) := ⟨_, rfl⟩
      have w := w g59 e60
      obtain ⟨o61, e62, w⟩ := w
      refine r_aload_n C 0 dX1_put_11 rfl (rg_X1_X1_columns C dX1_put_12 e4 (r_iload_n C 1 dX1_put_15 rfl (r_aload_n C 2 dX1_put_16 rfl (rg_X1_X5_column C dX1_put_17 e6 (r_iast (ci := 2) (k := 0) C dX1_put_20 rfl rfl e8 i9 rfl e11 (r_aload_n C 0 dX1_put_21 rfl (rg_X1_X1_rows C dX1_put_22 e13 (r_iload_n C 1 dX1_put_25 rfl (r_aload_n C 2 dX1_put_26 rfl (rg_X1_X5_row C dX1_put_27 e15 (r_iast (ci := 2) (k := 1) C dX1_put_30 rfl rfl e17 i18 rfl e20 (r_aload_n C 0 dX1_put_31 rfl (rg_X1_X1_widths C dX1_put_32 e22 (r_iload_n C 1 dX1_put_35 rfl (r_aload_n C 2 dX1_put_36 rfl (rg_X1_X5_width C dX1_put_37 e24 (r_iast (ci := 2) (k := 2) C dX1_put_40 rfl rfl e26 i27 rfl e29 (r_aload_n C 0 dX1_put_41 rfl (rg_X1_X1_heights C dX1_put_42 e31 (r_iload_n C 1 dX1_put_45 rfl (r_aload_n C 2 dX1_put_46 rfl (rg_X1_X5_height C dX1_put_47 e33 (r_iast (ci := 2) (k := 3) C dX1_put_50 rfl rfl e35 i36 rfl e38 (r_aload_n C 0 dX1_put_51 rfl (rg_X1_X1_colours C dX1_put_52 e40 (r_iload_n C 1 dX1_put_55 rfl (r_aload_n C 2 dX1_put_56 rfl (rg_X1_X5_colour C dX1_put_57 e42 (r_iast (ci := 2) (k := 4) C dX1_put_60 rfl rfl e44 i45 rfl e47 (r_aload_n C 0 dX1_put_61 rfl (rg_X1_X1_layers C dX1_put_62 e49 (r_iload_n C 1 dX1_put_65 rfl (r_aload_n C 0 dX1_put_66 rfl (r_dup C dX1_put_67 rfl (rg_X1_X1_highestLayer C dX1_put_68 e51 (r_iconst C (v := 1) dX1_put_71 (by decide) (r_iadd C dX1_put_72 (r_dup_x1 C dX1_put_73 rfl rfl (rp_X1_X1_highestLayer C dX1_put_74 e53 rfl e55 (r_iast (ci := 2) (k := 5) C dX1_put_77 rfl rfl e57 i58 rfl e60 (r_aload_n C 0 dX1_put_78 rfl (rg_X1_X1_groups C dX1_put_79 e62 (r_iload_n C 1 dX1_put_82 rfl (r_iload_n C 1 dX1_put_83 rfl (r_gol (r_runSN C dX1_put_84 (m_X7_bit w) mt_X7_bit tw493 tw494 rfl (stk := [.int p0, .ref (a + 7)]) rfl (Nat.le_of_ble_eq_true rfl) ⟨rfl, rfl, ⟨Nat.le_of_ble_eq_true rfl, Nat.le_of_ble_eq_true rfl⟩, ⟨Nat.le_of_ble_eq_true rfl, Nat.le_of_ble_eq_true rfl⟩⟩) ?_)))))))))))))))))))))))))))))))))))))))))))))
      intro r63 h64 hp
      obtain ⟨e9, w⟩ := hp
      rw [e9]
      obtain ⟨o65, e66, w⟩ := w
      obtain ⟨i67, w⟩ := w
      obtain ⟨g68, e69⟩ : ∃ z, z = hu g59 a (2, sB o65 6 p0.toNatClampNeg r63) := ⟨_, rfl⟩
      have w := w g68 e69
      obtain ⟨o70, e71, w⟩ := w
      refine r_last (ci := 2) (k := 6) C dX1_put_87 rfl rfl e66 i67 rfl e69 (r_aload_n C 0 dX1_put_88 rfl (r_dup C dX1_put_89 rfl (rg_X1_X1_present C dX1_put_90 e71 (r_iload_n C 1 dX1_put_93 rfl (r_gol (r_runSN C dX1_put_94 (m_X7_bit w) mt_X7_bit tw493 tw494 rfl (stk := [.long (fL o70 7), .ref a]) rfl (Nat.le_of_ble_eq_true rfl) ⟨rfl, rfl, ⟨Nat.le_of_ble_eq_true rfl, Nat.le_of_ble_eq_true rfl⟩, ⟨Nat.le_of_ble_eq_true rfl, Nat.le_of_ble_eq_true rfl⟩⟩) ?_)))))
      intro r72 h73 hp
      obtain ⟨e9, w⟩ := hp
      rw [e9]
      obtain ⟨o74, e75, w⟩ := w
      obtain ⟨g76, e77⟩ : ∃ z, z = hu g68 a (2, sL o74 7 ((fL o70 7) ||| r72)) := ⟨_, rfl⟩
      have w := w g76 e77
      exact r_lor C dX1_put_97 (rp_X1_X1_present C dX1_put_98 e75 rfl e77 (r_vret C hQ dX1_put_101 rfl ⟨Nat.le_of_ble_eq_true rfl, Nat.le_of_ble_eq_true rfl⟩ w))
    · have w := w.2 c2
      exact r_vret C hQ dX1_put_10 rfl ⟨Nat.le_of_ble_eq_true rfl, Nat.le_of_ble_eq_true rfl⟩ w
def rm_X7_perform : Room := { frames := 4, cells := 0, slots := 0, locals := 101 }
theorem mt_X7_perform : gMt yX7_perform cX7_perform 3 none 2 := ⟨tw484, tw59, by decide +kernel, by decide +kernel, by decide +kernel⟩
def wp_X7_perform (a : Nat) (p0 : Nat) (p1 : Nat) (g : GH) (post : GH → Prop) : Prop :=
∃ o1, g p0 = some (1, o1) ∧
(((fI o1 1) = 0 → ∃ o4, g p0 = some (1, o4) ∧
∃ o7, g a = some (8, o7) ∧
wp_X7_isShape a (fI o4 2) g (fun r6 =>
((r6 = 0 → post g) ∧ (¬ r6 = 0 → ∃ o11, g p0 = some (1, o11) ∧
∃ o13, g a = some (8, o13) ∧
∃ o15, g p0 = some (1, o15) ∧
∃ o17, g (fR o13 0) = some (0, o17) ∧
vp_in (fI o15 2) (fI o17 2).toNatClampNeg ∧
∃ o22, g (fR o17 (fI o15 2).toNatClampNeg) = some (6, o22) ∧
∃ o24, g p1 = some (2, o24) ∧
wp_X1_put p1 (fI o11 2) (fR o17 (fI o15 2).toNatClampNeg) g (fun g26 =>
post g26))))) ∧ (¬ (fI o1 1) = 0 → ∃ o28, g p1 = some (2, o28) ∧
wp_X1_change p1 p0 g (fun g30 =>
post g30)))
set_option maxHeartbeats 4000000 in
set_option maxRecDepth 100000 in
theorem m_X7_perform {Y : gWx} {a : Nat}  {p0 : Nat} {p1 : Nat} {post : GH → Prop} {g : GH}     (w : wp_X7_perform a p0 p1 g post) : gMet Y yX7_perform cX7_perform 3 none rm_X7_perform [.ref a, .ref p0, .ref p1] g (gQv Y post) 0 0 := by
  refine gm_of rfl (Nat.le_of_ble_eq_true rfl) ?_
  intro X hY hn C hnm hQ
  subst hY
  have hQ : gRet X (gQv (xY X) post) 0 0 ∨ gRex X (gQv (xY X) post) (fun _ _ => False) 0 0 := Or.inl hQ
  have C : gC X cX7_perform RX7 none rm_X7_perform := C
  show gX X 0 0 0 [(0, .ref a), (1, .ref p0), (2, .ref p1)] [] g
  unfold wp_X7_perform at w
  obtain ⟨o1, e2, w⟩ := w
  refine r_aload_n C 1 dX7_perform_0 rfl (rg_X7_X0_kind C dX7_perform_1 e2 (r_if_eq C 15 dX7_perform_4 (by decide) (fun c3 => ?_) (fun c3 => ?_)))
  · have w := w.1 c3
    obtain ⟨o4, e5, w⟩ := w
    obtain ⟨o7, e8, w⟩ := w
    refine r_aload_n C 0 dX7_perform_15 rfl (r_aload_n C 1 dX7_perform_16 rfl (rg_X7_X0_shape C dX7_perform_17 e5 (r_goi (r_runV C dX7_perform_20 (m_X7_isShape w) mt_X7_isShape tw513 tw515 tw10 gcl_8.1 e8 rfl (stk := []) rfl (Nat.le_of_ble_eq_true rfl) ⟨rfl, rfl, ⟨Nat.le_of_ble_eq_true rfl, Nat.le_of_ble_eq_true rfl⟩, ⟨Nat.le_of_ble_eq_true rfl, Nat.le_of_ble_eq_true rfl⟩⟩) ?_)))
    intro r6 h9 hp
    obtain ⟨e9, w⟩ := hp
    rw [e9]
    refine r_if_eq C 48 dX7_perform_23 (by decide) (fun c10 => ?_) (fun c10 => ?_)
    · have w := w.1 c10
      exact r_vret C hQ dX7_perform_48 rfl ⟨Nat.le_of_ble_eq_true rfl, Nat.le_of_ble_eq_true rfl⟩ w
    · have w := w.2 c10
      obtain ⟨o11, e12, w⟩ := w
      obtain ⟨o13, e14, w⟩ := w
      obtain ⟨o15, e16, w⟩ := w
      obtain ⟨o17, e18, w⟩ := w
      obtain ⟨i20, w⟩ := w
      refine r_aload_n C 2 dX7_perform_26 rfl (r_aload_n C 1 dX7_perform_27 rfl (rg_X7_X0_shape C dX7_perform_28 e12 (r_aload_n C 0 dX7_perform_31 rfl (rg_X7_X7_addedShapes C dX7_perform_32 e14 (r_aload_n C 1 dX7_perform_35 rfl (rg_X7_X0_shape C dX7_perform_36 e16 (r_gor (r_runV C dX7_perform_39 (m_lget e18 i20) mt_Jx4a65c_get_915e3 tw467 tw468 tw469 (ci := 0) rfl e18 rfl (stk := [.int (fI o11 2), .ref p1]) rfl (Nat.le_of_ble_eq_true rfl) ⟨rfl, rfl, ⟨Nat.le_of_ble_eq_true rfl, Nat.le_of_ble_eq_true rfl⟩, ⟨Nat.le_of_ble_eq_true rfl, Nat.le_of_ble_eq_true rfl⟩⟩) ?_)))))))
      intro r21 h19 hp
      obtain ⟨e9, e8⟩ := hp
      rw [e9, e8]
      obtain ⟨o22, e23, w⟩ := w
      obtain ⟨o24, e25, w⟩ := w
      refine r_cast C gcl_6 dX7_perform_42 tw336 e23 (r_gov (r_runV C dX7_perform_45 (m_X1_put w) mt_X1_put tw517 tw518 tw519 gcl_2.1 e25 rfl (stk := []) rfl (Nat.le_of_ble_eq_true rfl) ⟨rfl, rfl, ⟨Nat.le_of_ble_eq_true rfl, Nat.le_of_ble_eq_true rfl⟩, ⟨Nat.le_of_ble_eq_true rfl, Nat.le_of_ble_eq_true rfl⟩⟩) ?_)
      intro  h27 hp
      obtain ⟨g26, rfl⟩ : ∃ z, z = h27 := ⟨_, rfl⟩
      have w := hp
      exact r_vret C hQ dX7_perform_48 rfl ⟨Nat.le_of_ble_eq_true rfl, Nat.le_of_ble_eq_true rfl⟩ w
  · have w := w.2 c3
    obtain ⟨o28, e29, w⟩ := w
    refine r_aload_n C 2 dX7_perform_7 rfl (r_aload_n C 1 dX7_perform_8 rfl (r_gov (r_runV C dX7_perform_9 (m_X1_change w) mt_X1_change tw485 tw486 tw487 gcl_2.1 e29 rfl (stk := []) rfl (Nat.le_of_ble_eq_true rfl) ⟨rfl, rfl, ⟨Nat.le_of_ble_eq_true rfl, Nat.le_of_ble_eq_true rfl⟩, ⟨Nat.le_of_ble_eq_true rfl, Nat.le_of_ble_eq_true rfl⟩⟩) ?_))
    intro  h31 hp
    obtain ⟨g30, rfl⟩ : ∃ z, z = h31 := ⟨_, rfl⟩
    have w := hp
    exact r_goto C 48 dX7_perform_12 (by decide) (r_vret C hQ dX7_perform_48 rfl ⟨Nat.le_of_ble_eq_true rfl, Nat.le_of_ble_eq_true rfl⟩ w)
def rm_X7_tell : Room := { frames := 7, cells := 1, slots := 310, locals := 301 }
theorem mt_X7_tell : gMt yX7_tell cX7_tell 4 none 1 := ⟨tw466, tw59, by decide +kernel, by decide +kernel, by decide +kernel⟩
def wp_X7_tell_41 (a : Nat) (p0 : Nat) (post : GH → Prop) (k2 : Int32 → GH → Prop) (x2 : Int32) (g : GH) : Prop :=
k2 (x2 + 1) g
def wp_X7_tell_2 (a : Nat) (p0 : Nat) (post : GH → Prop) : Nat → Int32 → GH → Prop
  | 0, _, _ => False
  | n + 1, x2, g =>
    ∃ o1, g a = some (8, o1) ∧
    ∃ o3, g (fR o1 1) = some (0, o3) ∧
    (((fI o3 2) ≤ x2 → ∃ o8, g a = some (8, o8) ∧
    ∃ o10, g (fR o8 1) = some (0, o10) ∧
    vp_in (fI o10 2) 200 ∧ (∀ j, j < (fI o10 2).toNatClampNeg → ∃ c oo, c < 10 ∧ g (fR o10 j) = some (c, oo)) ∧ (∃ c oo, c < 10 ∧ g p0 = some (c, oo)) ∧ ∀ g13, g13 = hu g (fR o8 1) (0, lAdd o10 p0) →
    ∃ o16, g13 a = some (8, o16) ∧
    ∃ o18, g13 a = some (8, o18) ∧
    wp_X7_perform a p0 (fR o16 4) g13 (fun g20 =>
    post g20)) ∧ (¬ (fI o3 2) ≤ x2 → ∃ o22, g a = some (8, o22) ∧
    ∃ o24, g (fR o22 1) = some (0, o24) ∧
    vp_in x2 (fI o24 2).toNatClampNeg ∧
    ∃ o29, g (fR o24 x2.toNatClampNeg) = some (1, o29) ∧
    ∃ o31, g (fR o24 x2.toNatClampNeg) = some (1, o31) ∧
    ∃ o33, g p0 = some (1, o33) ∧
    ((¬ (fI o31 0) = (fI o33 0) → wp_X7_tell_41 a p0 post (fun x2 g => wp_X7_tell_2 a p0 post n x2 g) x2 g) ∧ ((fI o31 0) = (fI o33 0) → ∃ o36, g (fR o24 x2.toNatClampNeg) = some (1, o36) ∧
    ∀ g38, g38 = hu g (fR o24 x2.toNatClampNeg) (1, sI o36 6 0) →
    wp_X7_tell_41 a p0 post (fun x2 g => wp_X7_tell_2 a p0 post n x2 g) x2 g38))))
def wp_X7_tell (a : Nat) (p0 : Nat) (g : GH) (post : GH → Prop) : Prop :=
wp_X7_tell_2 a p0 post 1000 0 g
set_option maxHeartbeats 4000000 in
set_option maxRecDepth 100000 in
theorem t_X7_tell_41 {X : gCx} {a : Nat}  {p0 : Nat} {post : GH → Prop}   {k2 : Int32 → GH → Prop} (C : gC X cX7_tell RX7 none rm_X7_tell) (hn : xn X = 4) (hQ : gRet X (gQv (xY X) post) 1 310 ∨ gRex X (gQv (xY X) post) (fun _ _ => False) 1 310)   (hk2 : ∀ (x2 : Int32) (g : GH), k2 x2 g → gX X 0 0 2 [(0, .ref a), (1, .ref p0), (2, .int x2)] [] g) : ∀ (x2 : Int32) (g : GH), wp_X7_tell_41 a p0 post k2 x2 g → gX X 0 0 41 [(0, .ref a), (1, .ref p0), (2, .int x2)] [] g := by
  intro x2 g w
  unfold wp_X7_tell_41 at w
  exact r_iinc C (v := x2 + 1) 2 dX7_tell_41 rfl rfl (nlt hn (by decide)) rfl (r_goto C 2 dX7_tell_44 (by decide) (r_widen (Nat.le_of_ble_eq_true rfl) (Nat.le_of_ble_eq_true rfl) <| r_sub [1, 2, 0] rfl (hk2 _ _ w)))
set_option maxHeartbeats 4000000 in
set_option maxRecDepth 100000 in
theorem t_X7_tell_2 {X : gCx} {a : Nat}  {p0 : Nat} {post : GH → Prop}    (C : gC X cX7_tell RX7 none rm_X7_tell) (hn : xn X = 4) (hQ : gRet X (gQv (xY X) post) 1 310 ∨ gRex X (gQv (xY X) post) (fun _ _ => False) 1 310)    : ∀ (n : Nat) (x2 : Int32) (g : GH), wp_X7_tell_2 a p0 post n x2 g → gX X 0 0 2 [(0, .ref a), (1, .ref p0), (2, .int x2)] [] g := by
  intro n
  induction n with
  | zero => intro x2 g w; exact w.elim
  | succ n ih =>
    intro x2 g w
    unfold wp_X7_tell_2 at w
    obtain ⟨o1, e2, w⟩ := w
    obtain ⟨o3, e4, w⟩ := w
    refine r_iload_n C 2 dX7_tell_2 rfl (r_aload_n C 0 dX7_tell_3 rfl (rg_X7_X7_toldActs C dX7_tell_4 e2 (r_goi (r_runV C dX7_tell_7 (m_lsize e4) mt_Jx4a65c_size_8abf5 tw201 tw202 tw203 (ci := 0) rfl e4 rfl (stk := [.int x2]) rfl (Nat.le_of_ble_eq_true rfl) ⟨rfl, rfl, ⟨Nat.le_of_ble_eq_true rfl, Nat.le_of_ble_eq_true rfl⟩, ⟨Nat.le_of_ble_eq_true rfl, Nat.le_of_ble_eq_true rfl⟩⟩) ?_)))
    intro r6 h5 hp
    obtain ⟨e9, e8⟩ := hp
    rw [e9, e8]
    refine r_icmp_ge C 47 dX7_tell_10 (by decide) (fun c7 => ?_) (fun c7 => ?_)
    · have w := w.1 c7
      obtain ⟨o8, e9, w⟩ := w
      obtain ⟨o10, e11, w⟩ := w
      obtain ⟨q141, q142, ⟨q145, q146, q143, q144⟩, w⟩ := w
      refine r_aload_n C 0 dX7_tell_47 rfl (rg_X7_X7_toldActs C dX7_tell_48 e9 (r_aload_n C 1 dX7_tell_51 rfl (r_goi (r_runV C dX7_tell_52 (m_ladd (N := 200) (B := 310) e11 (by decide) (by decide) q141 q142 q143 q144) mt_Jx4a65c_add_9ea2d tw367 tw368 tw369 (ci := 0) rfl e11 rfl (stk := []) rfl (Nat.le_of_ble_eq_true rfl) ⟨rfl, rfl, ⟨Nat.le_of_ble_eq_true rfl, Nat.le_of_ble_eq_true rfl⟩, ⟨Nat.le_of_ble_eq_true rfl, Nat.le_of_ble_eq_true rfl⟩⟩) ?_)))
      intro r15 h12 hp
      obtain ⟨rfl, e9⟩ := hp
      obtain ⟨g13, rfl⟩ : ∃ z, z = h12 := ⟨_, rfl⟩
      have w := w _ e9
      obtain ⟨o16, e17, w⟩ := w
      obtain ⟨o18, e19, w⟩ := w
      refine r_pop C dX7_tell_55 rfl (r_aload_n C 0 dX7_tell_56 rfl (r_aload_n C 1 dX7_tell_57 rfl (r_aload_n C 0 dX7_tell_58 rfl (rg_X7_X7_board C dX7_tell_59 e17 (r_gov (r_runV C dX7_tell_62 (m_X7_perform w) mt_X7_perform tw481 tw483 tw5 gcl_8.1 e19 rfl (stk := []) rfl (Nat.le_of_ble_eq_true rfl) ⟨rfl, rfl, ⟨Nat.le_of_ble_eq_true rfl, Nat.le_of_ble_eq_true rfl⟩, ⟨Nat.le_of_ble_eq_true rfl, Nat.le_of_ble_eq_true rfl⟩⟩) ?_)))))
      intro  h21 hp
      obtain ⟨g20, rfl⟩ : ∃ z, z = h21 := ⟨_, rfl⟩
      have w := hp
      exact r_vret C hQ dX7_tell_65 rfl ⟨Nat.le_of_ble_eq_true rfl, Nat.le_of_ble_eq_true rfl⟩ w
    · have w := w.2 c7
      obtain ⟨o22, e23, w⟩ := w
      obtain ⟨o24, e25, w⟩ := w
      obtain ⟨i27, w⟩ := w
      refine r_aload_n C 0 dX7_tell_13 rfl (rg_X7_X7_toldActs C dX7_tell_14 e23 (r_iload_n C 2 dX7_tell_17 rfl (r_gor (r_runV C dX7_tell_18 (m_lget e25 i27) mt_Jx4a65c_get_915e3 tw467 tw468 tw469 (ci := 0) rfl e25 rfl (stk := []) rfl (Nat.le_of_ble_eq_true rfl) ⟨rfl, rfl, ⟨Nat.le_of_ble_eq_true rfl, Nat.le_of_ble_eq_true rfl⟩, ⟨Nat.le_of_ble_eq_true rfl, Nat.le_of_ble_eq_true rfl⟩⟩) ?_)))
      intro r28 h26 hp
      obtain ⟨e9, e8⟩ := hp
      rw [e9, e8]
      obtain ⟨o29, e30, w⟩ := w
      obtain ⟨o31, e32, w⟩ := w
      obtain ⟨o33, e34, w⟩ := w
      refine r_cast C gcl_1 dX7_tell_21 tw427 e30 (r_astore_n C dX7_tell_24 (nlt hn (by decide)) rfl (r_aload_n C 0 dX7_tell_25 rfl (rg_X7_X0_hand C dX7_tell_26 e32 (r_aload_n C 2 dX7_tell_29 rfl (rg_X7_X0_hand C dX7_tell_30 e34 (r_icmp_ne C 41 dX7_tell_33 (by decide) (fun c35 => ?_) (fun c35 => ?_)))))))
      · have w := w.1 c35
        exact r_widen (Nat.le_of_ble_eq_true rfl) (Nat.le_of_ble_eq_true rfl) <| r_sub [1, 2, 3] rfl (t_X7_tell_41 C hn hQ ih _ _ w)
      · have w := w.2 c35
        obtain ⟨o36, e37, w⟩ := w
        obtain ⟨g38, e39⟩ : ∃ z, z = hu g (fR o24 x2.toNatClampNeg) (1, sI o36 6 0) := ⟨_, rfl⟩
        have w := w g38 e39
        exact r_aload_n C 0 dX7_tell_36 rfl (r_iconst C (v := 0) dX7_tell_37 (by decide) (rp_X7_X0_isRedoable C dX7_tell_38 rfl e37 rfl e39 (r_widen (Nat.le_of_ble_eq_true rfl) (Nat.le_of_ble_eq_true rfl) <| r_sub [1, 2, 3] rfl (t_X7_tell_41 C hn hQ ih _ _ w))))
set_option maxHeartbeats 4000000 in
set_option maxRecDepth 100000 in
theorem m_X7_tell {Y : gWx} {a : Nat}  {p0 : Nat} {post : GH → Prop} {g : GH}     (w : wp_X7_tell a p0 g post) : gMet Y yX7_tell cX7_tell 4 none rm_X7_tell [.ref a, .ref p0] g (gQv Y post) 1 310 := by
  refine gm_of rfl (Nat.le_of_ble_eq_true rfl) ?_
  intro X hY hn C hnm hQ
  subst hY
  have hQ : gRet X (gQv (xY X) post) 1 310 ∨ gRex X (gQv (xY X) post) (fun _ _ => False) 1 310 := Or.inl hQ
  have C : gC X cX7_tell RX7 none rm_X7_tell := C
  show gX X 0 0 0 [(0, .ref a), (1, .ref p0)] [] g
  unfold wp_X7_tell at w
  exact r_iconst C (v := 0) dX7_tell_0 (by decide) (r_istore_n C dX7_tell_1 (nlt hn (by decide)) rfl (r_sub [1, 2, 0] rfl (t_X7_tell_2 C hn hQ 1000 _ _ w)))
def rm_X7_add : Room := { frames := 8, cells := 10, slots := 429, locals := 324 }
theorem mt_X7_add : gMt yX7_add cX7_add 8 (some .int) 6 := ⟨tw226, tw59, by decide +kernel, by decide +kernel, by decide +kernel⟩
def wp_X7_add_46 (a : Nat) (p0 : Int32) (p1 : Int32) (p2 : Int32) (p3 : Int32) (p4 : Int32) (p5 : Int32) (post : Int32 → GH → Prop) (px : String → GH → Prop)  (g : GH) : Prop :=
px "java/lang/IllegalStateException" g
def wp_X7_add (a : Nat) (p0 : Int32) (p1 : Int32) (p2 : Int32) (p3 : Int32) (p4 : Int32) (p5 : Int32) (g : GH) (post : Int32 → GH → Prop) (px : String → GH → Prop) : Prop :=
wp_X7_checkHand p0 (
wp_X7_checkRectangle p1 p2 p3 p4 (
wp_X7_checkRange p5 1 9 (
∃ o4, g a = some (8, o4) ∧
∃ o6, g (fR o4 0) = some (0, o6) ∧
((40 ≤ (fI o6 2) → wp_X7_add_46 a p0 p1 p2 p3 p4 p5 post px g) ∧ (¬ 40 ≤ (fI o6 2) → ∃ o11, g a = some (8, o11) ∧
∃ o13, g (fR o11 1) = some (0, o13) ∧
(((fI o13 2) < 200 → ∃ o18, g a = some (8, o18) ∧
∃ o20, g (fR o18 0) = some (0, o20) ∧
∃ o24, g a = some (8, o24) ∧
∀ a26, g a26 = none → ∀ g27, g27 = hu g a26 (6, fo0) →
∃ o30, g27 a26 = some (6, o30) ∧
wp_X5_init p0 p1 p2 p3 p4 p5 o30 (fun o32 => ∀ g33, g33 = hu g27 a26 (6, o32) →
∃ o35, g33 (fR o24 0) = some (0, o35) ∧
vp_in (fI o35 2) 40 ∧ (∀ j, j < (fI o35 2).toNatClampNeg → ∃ c oo, c < 10 ∧ g33 (fR o35 j) = some (c, oo)) ∧ (∃ c oo, c < 10 ∧ g33 a26 = some (c, oo)) ∧ ∀ g38, g38 = hu g33 (fR o24 0) (0, lAdd o35 a26) →
∀ a41, g38 a41 = none → ∀ g42, g42 = hu g38 a41 (1, fo0) →
∃ o45, g42 a41 = some (1, o45) ∧
wp_X0_init p0 0 (fI o20 2) ((-1)) ((-1)) o45 (fun o47 => ∀ g48, g48 = hu g42 a41 (1, o47) →
∃ o50, g48 a = some (8, o50) ∧
wp_X7_tell a a41 g48 (fun g52 =>
post (fI o20 2) g52)))) ∧ (¬ (fI o13 2) < 200 → wp_X7_add_46 a p0 p1 p2 p3 p4 p5 post px g))))) (fun E => px E g)) (fun E => px E g)) (fun E => px E g)
set_option maxHeartbeats 4000000 in
set_option maxRecDepth 100000 in
theorem t_X7_add_46 {X : gCx} {a : Nat}  {p0 : Int32} {p1 : Int32} {p2 : Int32} {p3 : Int32} {p4 : Int32} {p5 : Int32} {post : Int32 → GH → Prop} {px : String → GH → Prop}    (C : gC X cX7_add RX7 (some .int) rm_X7_add) (hn : xn X = 8) (hQ : gRet X (gQi (xY X) post) 10 429 ∨ gRex X (gQi (xY X) post) px 10 429) (hQx : gRex X (gQi (xY X) post) px 10 429) (hl : (yl (xY X)).stackTraces = false) (hno : ∀ x ∈ (xc X).exceptionTable.toList, False)    : ∀ (g : GH), wp_X7_add_46 a p0 p1 p2 p3 p4 p5 post px g → gX X 6 36 46 [] [] g := by
  intro g w
  unfold wp_X7_add_46 at w
  exact r_throw (text := "no room for another shape or act") C hQx hl (fun x hx => (hno x hx).elim) thx_65.1 thx_65.2.1 thx_65.2.2.1 thx_65.2.2.2.1 (by decide +kernel) thx_65.2.2.2.2.1 thx_65.2.2.2.2.2 dX7_add_46 dX7_add_49 dX7_add_50 dX7_add_52 dX7_add_55 ⟨Nat.le_of_ble_eq_true rfl, Nat.le_of_ble_eq_true rfl, Nat.le_of_ble_eq_true rfl, Nat.le_of_ble_eq_true rfl⟩ ⟨Nat.le_of_ble_eq_true rfl, Nat.le_of_ble_eq_true rfl⟩ w
set_option maxHeartbeats 4000000 in
set_option maxRecDepth 100000 in
theorem m_X7_add {Y : gWx} {a : Nat}  {p0 : Int32} {p1 : Int32} {p2 : Int32} {p3 : Int32} {p4 : Int32} {p5 : Int32} {post : Int32 → GH → Prop} {px : String → GH → Prop} {g : GH}    (hl : (yl Y).stackTraces = false) (w : wp_X7_add a p0 p1 p2 p3 p4 p5 g post px) : gMex Y yX7_add cX7_add 8 (some .int) rm_X7_add [.ref a, .int p0, .int p1, .int p2, .int p3, .int p4, .int p5] g (gQi Y post) px 10 429 := by
  refine gm_ofx rfl (Nat.le_of_ble_eq_true rfl) ?_
  intro X hY hn C hno hQx
  subst hY
  have hQ := Or.inr (a := gRet X (gQi (xY X) post) 10 429) hQx
  have C : gC X cX7_add RX7 (some .int) rm_X7_add := C
  show gX X 0 0 0 [(0, .ref a), (1, .int p0), (2, .int p1), (3, .int p2), (4, .int p3), (5, .int p4), (6, .int p5)] [] g
  unfold wp_X7_add at w
  refine r_iload_n C 1 dX7_add_0 rfl (r_gxv (r_ruxS C dX7_add_1 (m_X7_checkHand hl w) mt_X7_checkHand tw227 tw228 rfl (stk := []) rfl (Nat.le_of_ble_eq_true rfl) ⟨rfl, rfl, ⟨Nat.le_of_ble_eq_true rfl, Nat.le_of_ble_eq_true rfl⟩, ⟨Nat.le_of_ble_eq_true rfl, Nat.le_of_ble_eq_true rfl⟩⟩) (fun E h1 hp => by obtain ⟨rfl, hp⟩ := hp; exact r_out C hQx (fun x hx => (hno x hx).elim) ⟨Nat.le_of_ble_eq_true rfl, Nat.le_of_ble_eq_true rfl⟩ hp) ?_)
  intro  h1 hp
  obtain ⟨e9, w⟩ := hp
  rw [e9]
  refine r_iload_n C 2 dX7_add_4 rfl (r_iload_n C 3 dX7_add_5 rfl (r_iload C 4 dX7_add_6 rfl (r_iload C 5 dX7_add_8 rfl (r_gxv (r_ruxS C dX7_add_10 (m_X7_checkRectangle hl w) mt_X7_checkRectangle tw298 tw299 rfl (stk := []) rfl (Nat.le_of_ble_eq_true rfl) ⟨rfl, rfl, ⟨Nat.le_of_ble_eq_true rfl, Nat.le_of_ble_eq_true rfl⟩, ⟨Nat.le_of_ble_eq_true rfl, Nat.le_of_ble_eq_true rfl⟩⟩) (fun E h2 hp => by obtain ⟨rfl, hp⟩ := hp; exact r_out C hQx (fun x hx => (hno x hx).elim) ⟨Nat.le_of_ble_eq_true rfl, Nat.le_of_ble_eq_true rfl⟩ hp) ?_))))
  intro  h2 hp
  obtain ⟨e9, w⟩ := hp
  rw [e9]
  refine r_iload C 6 dX7_add_13 rfl (r_iconst C (v := 1) dX7_add_15 (by decide) (r_bipush C (v := 9) dX7_add_16 (by decide) (r_gxv (r_ruxS C dX7_add_18 (m_X7_checkRange hl w) mt_X7_checkRange tw301 tw302 rfl (stk := []) rfl (Nat.le_of_ble_eq_true rfl) ⟨rfl, rfl, ⟨Nat.le_of_ble_eq_true rfl, Nat.le_of_ble_eq_true rfl⟩, ⟨Nat.le_of_ble_eq_true rfl, Nat.le_of_ble_eq_true rfl⟩⟩) (fun E h3 hp => by obtain ⟨rfl, hp⟩ := hp; exact r_out C hQx (fun x hx => (hno x hx).elim) ⟨Nat.le_of_ble_eq_true rfl, Nat.le_of_ble_eq_true rfl⟩ hp) ?_)))
  intro  h3 hp
  obtain ⟨e9, w⟩ := hp
  rw [e9]
  obtain ⟨o4, e5, w⟩ := w
  obtain ⟨o6, e7, w⟩ := w
  refine r_aload_n C 0 dX7_add_21 rfl (rg_X7_X7_addedShapes C dX7_add_22 e5 (r_goi (r_runV C dX7_add_25 (m_lsize e7) mt_Jx4a65c_size_8abf5 tw201 tw202 tw203 (ci := 0) rfl e7 rfl (stk := []) rfl (Nat.le_of_ble_eq_true rfl) ⟨rfl, rfl, ⟨Nat.le_of_ble_eq_true rfl, Nat.le_of_ble_eq_true rfl⟩, ⟨Nat.le_of_ble_eq_true rfl, Nat.le_of_ble_eq_true rfl⟩⟩) ?_))
  intro r9 h8 hp
  obtain ⟨e9, e8⟩ := hp
  rw [e9, e8]
  refine r_bipush C (v := 40) dX7_add_28 (by decide) (r_icmp_ge C 46 dX7_add_30 (by decide) (fun c10 => ?_) (fun c10 => ?_))
  · have w := w.1 c10
    exact r_widen (Nat.le_of_ble_eq_true rfl) (Nat.le_of_ble_eq_true rfl) <| r_sub [] rfl (t_X7_add_46 C hn hQ hQx hl hno _ w)
  · have w := w.2 c10
    obtain ⟨o11, e12, w⟩ := w
    obtain ⟨o13, e14, w⟩ := w
    refine r_aload_n C 0 dX7_add_33 rfl (rg_X7_X7_toldActs C dX7_add_34 e12 (r_goi (r_runV C dX7_add_37 (m_lsize e14) mt_Jx4a65c_size_8abf5 tw201 tw202 tw203 (ci := 0) rfl e14 rfl (stk := []) rfl (Nat.le_of_ble_eq_true rfl) ⟨rfl, rfl, ⟨Nat.le_of_ble_eq_true rfl, Nat.le_of_ble_eq_true rfl⟩, ⟨Nat.le_of_ble_eq_true rfl, Nat.le_of_ble_eq_true rfl⟩⟩) ?_))
    intro r16 h15 hp
    obtain ⟨e9, e8⟩ := hp
    rw [e9, e8]
    refine r_sipush C (v := 200) dX7_add_40 (by decide) (r_icmp_lt C 56 dX7_add_43 (by decide) (fun c17 => ?_) (fun c17 => ?_))
    · have w := w.1 c17
      obtain ⟨o18, e19, w⟩ := w
      obtain ⟨o20, e21, w⟩ := w
      refine r_aload_n C 0 dX7_add_56 rfl (rg_X7_X7_addedShapes C dX7_add_57 e19 (r_goi (r_runV C dX7_add_60 (m_lsize e21) mt_Jx4a65c_size_8abf5 tw201 tw202 tw203 (ci := 0) rfl e21 rfl (stk := []) rfl (Nat.le_of_ble_eq_true rfl) ⟨rfl, rfl, ⟨Nat.le_of_ble_eq_true rfl, Nat.le_of_ble_eq_true rfl⟩, ⟨Nat.le_of_ble_eq_true rfl, Nat.le_of_ble_eq_true rfl⟩⟩) ?_))
      intro r23 h22 hp
      obtain ⟨e9, e8⟩ := hp
      rw [e9, e8]
      obtain ⟨o24, e25, w⟩ := w
      refine r_istore C dX7_add_63 (nlt hn (by decide)) rfl (r_aload_n C 1 dX7_add_65 rfl (rg_X7_X7_addedShapes C dX7_add_66 e25 (r_new C gcl_6 dX7_add_69 ⟨tw336, tw337, tw71⟩ hsm_6 ⟨Nat.le_of_ble_eq_true rfl, Nat.le_of_ble_eq_true rfl⟩ (fun a26 n29 _ => ?_))))
      obtain ⟨g27, e28⟩ : ∃ z, z = hu g a26 (6, fo0) := ⟨_, rfl⟩
      have w := w a26 n29 g27 e28
      refine gX_eq e28.symm ?_
      obtain ⟨o30, e31, w⟩ := w
      refine r_dup C dX7_add_72 rfl (r_iload_n C 2 dX7_add_73 rfl (r_iload_n C 3 dX7_add_74 rfl (r_iload_n C 4 dX7_add_75 rfl (r_iload C 5 dX7_add_76 rfl (r_iload C 6 dX7_add_78 rfl (r_iload C 7 dX7_add_80 rfl (r_gov (r_runI C dX7_add_82 (m_X5_init e31 w) mt_X5_init tw338 tw339 rfl rfl (stk := [.ref a26, .ref (fR o24 0)]) rfl (Nat.le_of_ble_eq_true rfl) ⟨rfl, rfl, ⟨Nat.le_of_ble_eq_true rfl, Nat.le_of_ble_eq_true rfl⟩, ⟨Nat.le_of_ble_eq_true rfl, Nat.le_of_ble_eq_true rfl⟩⟩) ?_)))))))
      intro  h34 hp
      obtain ⟨o32, e9, w⟩ := hp
      obtain ⟨g33, rfl⟩ : ∃ z, z = h34 := ⟨_, rfl⟩
      have w := w _ e9
      obtain ⟨o35, e36, w⟩ := w
      obtain ⟨q391, q392, ⟨q395, q396, q393, q394⟩, w⟩ := w
      refine r_goi (r_runV C dX7_add_85 (m_ladd (N := 40) (B := 70) e36 (by decide) (by decide) q391 q392 q393 q394) mt_Jx4a65c_add_9ea2d tw367 tw368 tw369 (ci := 0) rfl e36 rfl (stk := []) rfl (Nat.le_of_ble_eq_true rfl) ⟨rfl, rfl, ⟨Nat.le_of_ble_eq_true rfl, Nat.le_of_ble_eq_true rfl⟩, ⟨Nat.le_of_ble_eq_true rfl, Nat.le_of_ble_eq_true rfl⟩⟩) ?_
      intro r40 h37 hp
      obtain ⟨rfl, e9⟩ := hp
      obtain ⟨g38, rfl⟩ : ∃ z, z = h37 := ⟨_, rfl⟩
      have w := w _ e9
      refine r_pop C dX7_add_88 rfl (r_aload_n C 1 dX7_add_89 rfl (r_new C gcl_1 dX7_add_90 ⟨tw427, tw428, tw76⟩ hsm_1 ⟨Nat.le_of_ble_eq_true rfl, Nat.le_of_ble_eq_true rfl⟩ (fun a41 n44 _ => ?_)))
      obtain ⟨g42, e43⟩ : ∃ z, z = hu g38 a41 (1, fo0) := ⟨_, rfl⟩
      have w := w a41 n44 g42 e43
      refine gX_eq e43.symm ?_
      obtain ⟨o45, e46, w⟩ := w
      refine r_dup C dX7_add_93 rfl (r_iload_n C 2 dX7_add_94 rfl (r_iconst C (v := 0) dX7_add_95 (by decide) (r_iload C 0 dX7_add_96 rfl (r_iconst C (v := (-1)) dX7_add_98 (by decide) (r_iconst C (v := (-1)) dX7_add_99 (by decide) (r_gov (r_runI C dX7_add_100 (m_X0_init e46 w) mt_X0_init tw429 tw430 rfl rfl (stk := [.ref a41, .ref a]) rfl (Nat.le_of_ble_eq_true rfl) ⟨rfl, rfl, ⟨Nat.le_of_ble_eq_true rfl, Nat.le_of_ble_eq_true rfl⟩, ⟨Nat.le_of_ble_eq_true rfl, Nat.le_of_ble_eq_true rfl⟩⟩) ?_))))))
      intro  h49 hp
      obtain ⟨o47, e9, w⟩ := hp
      obtain ⟨g48, rfl⟩ : ∃ z, z = h49 := ⟨_, rfl⟩
      have w := w _ e9
      obtain ⟨o50, e51, w⟩ := w
      refine r_gov (r_runV C dX7_add_103 (m_X7_tell w) mt_X7_tell tw463 tw465 tw4 gcl_8.1 e51 rfl (stk := []) rfl (Nat.le_of_ble_eq_true rfl) ⟨rfl, rfl, ⟨Nat.le_of_ble_eq_true rfl, Nat.le_of_ble_eq_true rfl⟩, ⟨Nat.le_of_ble_eq_true rfl, Nat.le_of_ble_eq_true rfl⟩⟩) ?_
      intro  h53 hp
      obtain ⟨g52, rfl⟩ : ∃ z, z = h53 := ⟨_, rfl⟩
      have w := hp
      exact r_iload C 0 dX7_add_106 rfl (r_iret C hQ dX7_add_108 rfl (vp_nar_int _) ⟨Nat.le_of_ble_eq_true rfl, Nat.le_of_ble_eq_true rfl⟩ w)
    · have w := w.2 c17
      exact r_widen (Nat.le_of_ble_eq_true rfl) (Nat.le_of_ble_eq_true rfl) <| r_sub [] rfl (t_X7_add_46 C hn hQ hQx hl hno _ w)
def rm_X7_checkShape : Room := { frames := 6, cells := 1, slots := 6, locals := 90 }
theorem mt_X7_checkShape : gMt yX7_checkShape cX7_checkShape 2 none 1 := ⟨tw531, tw59, by decide +kernel, by decide +kernel, by decide +kernel⟩
def wp_X7_checkShape (a : Nat) (p0 : Int32) (g : GH)  (post : Prop) (px : String → Prop) : Prop :=
∃ o2, g a = some (8, o2) ∧
wp_X7_isShape a p0 g (fun r1 =>
((¬ r1 = 0 → post) ∧ (r1 = 0 → px "java/lang/IndexOutOfBoundsException")))
set_option maxHeartbeats 4000000 in
set_option maxRecDepth 100000 in
theorem m_X7_checkShape {Y : gWx} {a : Nat}  {p0 : Int32} {post : Prop} {px : String → Prop} {g : GH}    (hl : (yl Y).stackTraces = false) (w : wp_X7_checkShape a p0 g post px) : gMex Y yX7_checkShape cX7_checkShape 2 none rm_X7_checkShape [.ref a, .int p0] g (gQv Y (fun  g9 => g9 = g ∧ post )) (fun E9 g9 => g9 = g ∧ px E9) 1 6 := by
  refine gm_ofx rfl (Nat.le_of_ble_eq_true rfl) ?_
  intro X hY hn C hno hQx
  subst hY
  have hQ := Or.inr (a := gRet X (gQv (xY X) (fun  g9 => g9 = g ∧ post )) 1 6) hQx
  have C : gC X cX7_checkShape RX7 none rm_X7_checkShape := C
  show gX X 0 0 0 [(0, .ref a), (1, .int p0)] [] g
  unfold wp_X7_checkShape at w
  obtain ⟨o2, e3, w⟩ := w
  refine r_aload_n C 0 dX7_checkShape_0 rfl (r_iload_n C 1 dX7_checkShape_1 rfl (r_goi (r_runV C dX7_checkShape_2 (m_X7_isShape w) mt_X7_isShape tw513 tw515 tw10 gcl_8.1 e3 rfl (stk := []) rfl (Nat.le_of_ble_eq_true rfl) ⟨rfl, rfl, ⟨Nat.le_of_ble_eq_true rfl, Nat.le_of_ble_eq_true rfl⟩, ⟨Nat.le_of_ble_eq_true rfl, Nat.le_of_ble_eq_true rfl⟩⟩) ?_))
  intro r1 h4 hp
  obtain ⟨e9, w⟩ := hp
  rw [e9]
  refine r_if_ne C 19 dX7_checkShape_5 (by decide) (fun c5 => ?_) (fun c5 => ?_)
  · have w := w.1 c5
    exact r_vret C hQ dX7_checkShape_19 rfl ⟨Nat.le_of_ble_eq_true rfl, Nat.le_of_ble_eq_true rfl⟩ ⟨rfl, w⟩
  · have w := w.2 c5
    exact r_throwW (text := "no such shape") C hQx hl (fun x hx => (hno x hx).elim) thx_325.1 thx_325.2.1 thx_325.2.2.1 thx_325.2.2.2.1 (by decide +kernel) thx_325.2.2.2.2.1 thx_325.2.2.2.2.2 dX7_checkShape_8 dX7_checkShape_11 dX7_checkShape_12 dX7_checkShape_15 dX7_checkShape_18 ⟨Nat.le_of_ble_eq_true rfl, Nat.le_of_ble_eq_true rfl, Nat.le_of_ble_eq_true rfl, Nat.le_of_ble_eq_true rfl⟩ ⟨Nat.le_of_ble_eq_true rfl, Nat.le_of_ble_eq_true rfl⟩ ⟨rfl, w⟩
def rm_X7_isTakenDown : Room := { frames := 1, cells := 0, slots := 0, locals := 20 }
theorem mt_X7_isTakenDown : gMt yX7_isTakenDown cX7_isTakenDown 2 (some .boolean) 1 := ⟨tw541, tw59, by decide +kernel, by decide +kernel, by decide +kernel⟩
def wp_X7_isTakenDown (p0 : Int32) (o : FO)  (post : Int32 → Prop) : Prop :=
wp_X7_bit p0 (fun r1 =>
(((lg_cmp ((fL o 6) &&& r1) 0) = 0 → post 0) ∧ (¬ (lg_cmp ((fL o 6) &&& r1) 0) = 0 → post 1)))
set_option maxHeartbeats 4000000 in
set_option maxRecDepth 100000 in
theorem m_X7_isTakenDown {Y : gWx} {a : Nat}  {p0 : Int32} {post : Int32 → Prop} {g : GH} {o : FO} (hg : g a = some (8, o))    (w : wp_X7_isTakenDown p0 o post) : gMet Y yX7_isTakenDown cX7_isTakenDown 2 (some .boolean) rm_X7_isTakenDown [.ref a, .int p0] g (gQi Y (fun r9 g9 => g9 = g ∧ post r9)) 0 0 := by
  refine gm_of rfl (Nat.le_of_ble_eq_true rfl) ?_
  intro X hY hn C hnm hQ
  subst hY
  have hQ : gRet X (gQi (xY X) (fun r9 g9 => g9 = g ∧ post r9)) 0 0 ∨ gRex X (gQi (xY X) (fun r9 g9 => g9 = g ∧ post r9)) (fun _ _ => False) 0 0 := Or.inl hQ
  have C : gC X cX7_isTakenDown RX7 (some .boolean) rm_X7_isTakenDown := C
  show gX X 0 0 0 [(0, .ref a), (1, .int p0)] [] g
  unfold wp_X7_isTakenDown at w
  refine r_aload_n C 0 dX7_isTakenDown_0 rfl (rg_X7_X7_takenDown C dX7_isTakenDown_1 hg (r_iload_n C 1 dX7_isTakenDown_4 rfl (r_gol (r_runS C dX7_isTakenDown_5 (m_X7_bit w) mt_X7_bit tw542 tw494 rfl (stk := [.long (fL o 6)]) rfl (Nat.le_of_ble_eq_true rfl) ⟨rfl, rfl, ⟨Nat.le_of_ble_eq_true rfl, Nat.le_of_ble_eq_true rfl⟩, ⟨Nat.le_of_ble_eq_true rfl, Nat.le_of_ble_eq_true rfl⟩⟩) ?_)))
  intro r1 h2 hp
  obtain ⟨rfl, w⟩ := hp
  refine r_land C dX7_isTakenDown_8 (r_lconst C (v := 0) dX7_isTakenDown_9 (by decide) (r_lcmp C dX7_isTakenDown_10 (r_if_eq C 18 dX7_isTakenDown_11 (by decide) (fun c3 => ?_) (fun c3 => ?_))))
  · have w := w.1 c3
    exact r_iconst C (v := 0) dX7_isTakenDown_18 (by decide) (r_iret C hQ dX7_isTakenDown_19 rfl rfl ⟨Nat.le_of_ble_eq_true rfl, Nat.le_of_ble_eq_true rfl⟩ ⟨rfl, w⟩)
  · have w := w.2 c3
    exact r_iconst C (v := 1) dX7_isTakenDown_14 (by decide) (r_goto C 19 dX7_isTakenDown_15 (by decide) (r_iret C hQ dX7_isTakenDown_19 rfl rfl ⟨Nat.le_of_ble_eq_true rfl, Nat.le_of_ble_eq_true rfl⟩ ⟨rfl, w⟩))
def rm_X7_checkCanAct : Room := { frames := 6, cells := 1, slots := 6, locals := 90 }
theorem mt_X7_checkCanAct : gMt yX7_checkCanAct cX7_checkCanAct 2 none 1 := ⟨tw536, tw59, by decide +kernel, by decide +kernel, by decide +kernel⟩
def wp_X7_checkCanAct_32 (a : Nat) (p0 : Int32) (g : GH) (post : Prop) (px : String → Prop)   : Prop :=
px "java/lang/IllegalStateException"
def wp_X7_checkCanAct (a : Nat) (p0 : Int32) (g : GH)  (post : Prop) (px : String → Prop) : Prop :=
∃ o1, g a = some (8, o1) ∧
∃ o4, g (fR o1 4) = some (2, o4) ∧
wp_X1_has p0 o4 (fun r3 =>
((r3 = 0 → wp_X7_checkCanAct_32 a p0 g post px) ∧ (¬ r3 = 0 → ∃ o9, g a = some (8, o9) ∧
wp_X7_isTakenDown p0 o9 (fun r8 =>
((¬ r8 = 0 → wp_X7_checkCanAct_32 a p0 g post px) ∧ (r8 = 0 → ∃ o13, g a = some (8, o13) ∧
∃ o15, g (fR o13 1) = some (0, o15) ∧
(((fI o15 2) < 200 → post) ∧ (¬ (fI o15 2) < 200 → wp_X7_checkCanAct_32 a p0 g post px))))))))
set_option maxHeartbeats 4000000 in
set_option maxRecDepth 100000 in
theorem t_X7_checkCanAct_32 {X : gCx} {a : Nat}  {p0 : Int32} {post : Prop} {px : String → Prop} {g : GH}   (C : gC X cX7_checkCanAct RX7 none rm_X7_checkCanAct) (hn : xn X = 2) (hQ : gRet X (gQv (xY X) (fun  g9 => g9 = g ∧ post )) 1 6 ∨ gRex X (gQv (xY X) (fun  g9 => g9 = g ∧ post )) (fun E9 g9 => g9 = g ∧ px E9) 1 6) (hQx : gRex X (gQv (xY X) (fun  g9 => g9 = g ∧ post )) (fun E9 g9 => g9 = g ∧ px E9) 1 6) (hl : (yl (xY X)).stackTraces = false) (hno : ∀ x ∈ (xc X).exceptionTable.toList, False)    : wp_X7_checkCanAct_32 a p0 g post px → gX X 0 0 32 [] [] g := by
  intro  w
  unfold wp_X7_checkCanAct_32 at w
  exact r_throwW (text := "not there, taken down, or no room for another act") C hQx hl (fun x hx => (hno x hx).elim) thx_65.1 thx_65.2.1 thx_65.2.2.1 thx_65.2.2.2.1 (by decide +kernel) thx_65.2.2.2.2.1 thx_65.2.2.2.2.2 dX7_checkCanAct_32 dX7_checkCanAct_35 dX7_checkCanAct_36 dX7_checkCanAct_39 dX7_checkCanAct_42 ⟨Nat.le_of_ble_eq_true rfl, Nat.le_of_ble_eq_true rfl, Nat.le_of_ble_eq_true rfl, Nat.le_of_ble_eq_true rfl⟩ ⟨Nat.le_of_ble_eq_true rfl, Nat.le_of_ble_eq_true rfl⟩ ⟨rfl, w⟩
set_option maxHeartbeats 4000000 in
set_option maxRecDepth 100000 in
theorem m_X7_checkCanAct {Y : gWx} {a : Nat}  {p0 : Int32} {post : Prop} {px : String → Prop} {g : GH}    (hl : (yl Y).stackTraces = false) (w : wp_X7_checkCanAct a p0 g post px) : gMex Y yX7_checkCanAct cX7_checkCanAct 2 none rm_X7_checkCanAct [.ref a, .int p0] g (gQv Y (fun  g9 => g9 = g ∧ post )) (fun E9 g9 => g9 = g ∧ px E9) 1 6 := by
  refine gm_ofx rfl (Nat.le_of_ble_eq_true rfl) ?_
  intro X hY hn C hno hQx
  subst hY
  have hQ := Or.inr (a := gRet X (gQv (xY X) (fun  g9 => g9 = g ∧ post )) 1 6) hQx
  have C : gC X cX7_checkCanAct RX7 none rm_X7_checkCanAct := C
  show gX X 0 0 0 [(0, .ref a), (1, .int p0)] [] g
  unfold wp_X7_checkCanAct at w
  obtain ⟨o1, e2, w⟩ := w
  obtain ⟨o4, e5, w⟩ := w
  refine r_aload_n C 0 dX7_checkCanAct_0 rfl (rg_X7_X7_board C dX7_checkCanAct_1 e2 (r_iload_n C 1 dX7_checkCanAct_4 rfl (r_goi (r_runV C dX7_checkCanAct_5 (m_X1_has e5 w) mt_X1_has tw537 tw490 tw491 gcl_2.1 e5 rfl (stk := []) rfl (Nat.le_of_ble_eq_true rfl) ⟨rfl, rfl, ⟨Nat.le_of_ble_eq_true rfl, Nat.le_of_ble_eq_true rfl⟩, ⟨Nat.le_of_ble_eq_true rfl, Nat.le_of_ble_eq_true rfl⟩⟩) ?_)))
  intro r3 h6 hp
  obtain ⟨e9, w⟩ := hp
  rw [e9]
  refine r_if_eq C 32 dX7_checkCanAct_8 (by decide) (fun c7 => ?_) (fun c7 => ?_)
  · have w := w.1 c7
    exact r_sub [] rfl (t_X7_checkCanAct_32 C hn hQ hQx hl hno w)
  · have w := w.2 c7
    obtain ⟨o9, e10, w⟩ := w
    refine r_aload_n C 0 dX7_checkCanAct_11 rfl (r_iload_n C 1 dX7_checkCanAct_12 rfl (r_goi (r_runV C dX7_checkCanAct_13 (m_X7_isTakenDown e10 w) mt_X7_isTakenDown tw538 tw540 tw13 gcl_8.1 e10 rfl (stk := []) rfl (Nat.le_of_ble_eq_true rfl) ⟨rfl, rfl, ⟨Nat.le_of_ble_eq_true rfl, Nat.le_of_ble_eq_true rfl⟩, ⟨Nat.le_of_ble_eq_true rfl, Nat.le_of_ble_eq_true rfl⟩⟩) ?_))
    intro r8 h11 hp
    obtain ⟨e9, w⟩ := hp
    rw [e9]
    refine r_if_ne C 32 dX7_checkCanAct_16 (by decide) (fun c12 => ?_) (fun c12 => ?_)
    · have w := w.1 c12
      exact r_sub [] rfl (t_X7_checkCanAct_32 C hn hQ hQx hl hno w)
    · have w := w.2 c12
      obtain ⟨o13, e14, w⟩ := w
      obtain ⟨o15, e16, w⟩ := w
      refine r_aload_n C 0 dX7_checkCanAct_19 rfl (rg_X7_X7_toldActs C dX7_checkCanAct_20 e14 (r_goi (r_runV C dX7_checkCanAct_23 (m_lsize e16) mt_Jx4a65c_size_8abf5 tw201 tw202 tw203 (ci := 0) rfl e16 rfl (stk := []) rfl (Nat.le_of_ble_eq_true rfl) ⟨rfl, rfl, ⟨Nat.le_of_ble_eq_true rfl, Nat.le_of_ble_eq_true rfl⟩, ⟨Nat.le_of_ble_eq_true rfl, Nat.le_of_ble_eq_true rfl⟩⟩) ?_))
      intro r18 h17 hp
      obtain ⟨e9, e8⟩ := hp
      rw [e9, e8]
      refine r_sipush C (v := 200) dX7_checkCanAct_26 (by decide) (r_icmp_lt C 43 dX7_checkCanAct_29 (by decide) (fun c19 => ?_) (fun c19 => ?_))
      · have w := w.1 c19
        exact r_vret C hQ dX7_checkCanAct_43 rfl ⟨Nat.le_of_ble_eq_true rfl, Nat.le_of_ble_eq_true rfl⟩ ⟨rfl, w⟩
      · have w := w.2 c19
        exact r_sub [] rfl (t_X7_checkCanAct_32 C hn hQ hQx hl hno w)
def rm_J13_bitCount_95d88 : Room := { frames := 0, cells := 0, slots := 0, locals := 0 }
theorem mt_J13_bitCount_95d88 : gMt yJ13_bitCount_95d88 cJ13_bitCount_95d88 2 (some .int) 1 := ⟨tw550, tw79, by decide +kernel, by decide +kernel, by decide +kernel⟩
def wp_J13_bitCount_95d88 (p0 : Int64)  (post : Int32 → Prop) : Prop :=
post ((((((((((p0 - (((p0.toUInt64 >>> ((1 : Int32).toInt64.toUInt64 &&& Int64.toUInt64 63)).toInt64) &&& 6148914691236517205)) &&& 3689348814741910323) + ((((p0 - (((p0.toUInt64 >>> ((1 : Int32).toInt64.toUInt64 &&& Int64.toUInt64 63)).toInt64) &&& 6148914691236517205)).toUInt64 >>> ((2 : Int32).toInt64.toUInt64 &&& Int64.toUInt64 63)).toInt64) &&& 3689348814741910323)) + (((((p0 - (((p0.toUInt64 >>> ((1 : Int32).toInt64.toUInt64 &&& Int64.toUInt64 63)).toInt64) &&& 6148914691236517205)) &&& 3689348814741910323) + ((((p0 - (((p0.toUInt64 >>> ((1 : Int32).toInt64.toUInt64 &&& Int64.toUInt64 63)).toInt64) &&& 6148914691236517205)).toUInt64 >>> ((2 : Int32).toInt64.toUInt64 &&& Int64.toUInt64 63)).toInt64) &&& 3689348814741910323)).toUInt64 >>> ((4 : Int32).toInt64.toUInt64 &&& Int64.toUInt64 63)).toInt64)) &&& 1085102592571150095) + (((((((p0 - (((p0.toUInt64 >>> ((1 : Int32).toInt64.toUInt64 &&& Int64.toUInt64 63)).toInt64) &&& 6148914691236517205)) &&& 3689348814741910323) + ((((p0 - (((p0.toUInt64 >>> ((1 : Int32).toInt64.toUInt64 &&& Int64.toUInt64 63)).toInt64) &&& 6148914691236517205)).toUInt64 >>> ((2 : Int32).toInt64.toUInt64 &&& Int64.toUInt64 63)).toInt64) &&& 3689348814741910323)) + (((((p0 - (((p0.toUInt64 >>> ((1 : Int32).toInt64.toUInt64 &&& Int64.toUInt64 63)).toInt64) &&& 6148914691236517205)) &&& 3689348814741910323) + ((((p0 - (((p0.toUInt64 >>> ((1 : Int32).toInt64.toUInt64 &&& Int64.toUInt64 63)).toInt64) &&& 6148914691236517205)).toUInt64 >>> ((2 : Int32).toInt64.toUInt64 &&& Int64.toUInt64 63)).toInt64) &&& 3689348814741910323)).toUInt64 >>> ((4 : Int32).toInt64.toUInt64 &&& Int64.toUInt64 63)).toInt64)) &&& 1085102592571150095).toUInt64 >>> ((8 : Int32).toInt64.toUInt64 &&& Int64.toUInt64 63)).toInt64)) + ((((((((p0 - (((p0.toUInt64 >>> ((1 : Int32).toInt64.toUInt64 &&& Int64.toUInt64 63)).toInt64) &&& 6148914691236517205)) &&& 3689348814741910323) + ((((p0 - (((p0.toUInt64 >>> ((1 : Int32).toInt64.toUInt64 &&& Int64.toUInt64 63)).toInt64) &&& 6148914691236517205)).toUInt64 >>> ((2 : Int32).toInt64.toUInt64 &&& Int64.toUInt64 63)).toInt64) &&& 3689348814741910323)) + (((((p0 - (((p0.toUInt64 >>> ((1 : Int32).toInt64.toUInt64 &&& Int64.toUInt64 63)).toInt64) &&& 6148914691236517205)) &&& 3689348814741910323) + ((((p0 - (((p0.toUInt64 >>> ((1 : Int32).toInt64.toUInt64 &&& Int64.toUInt64 63)).toInt64) &&& 6148914691236517205)).toUInt64 >>> ((2 : Int32).toInt64.toUInt64 &&& Int64.toUInt64 63)).toInt64) &&& 3689348814741910323)).toUInt64 >>> ((4 : Int32).toInt64.toUInt64 &&& Int64.toUInt64 63)).toInt64)) &&& 1085102592571150095) + (((((((p0 - (((p0.toUInt64 >>> ((1 : Int32).toInt64.toUInt64 &&& Int64.toUInt64 63)).toInt64) &&& 6148914691236517205)) &&& 3689348814741910323) + ((((p0 - (((p0.toUInt64 >>> ((1 : Int32).toInt64.toUInt64 &&& Int64.toUInt64 63)).toInt64) &&& 6148914691236517205)).toUInt64 >>> ((2 : Int32).toInt64.toUInt64 &&& Int64.toUInt64 63)).toInt64) &&& 3689348814741910323)) + (((((p0 - (((p0.toUInt64 >>> ((1 : Int32).toInt64.toUInt64 &&& Int64.toUInt64 63)).toInt64) &&& 6148914691236517205)) &&& 3689348814741910323) + ((((p0 - (((p0.toUInt64 >>> ((1 : Int32).toInt64.toUInt64 &&& Int64.toUInt64 63)).toInt64) &&& 6148914691236517205)).toUInt64 >>> ((2 : Int32).toInt64.toUInt64 &&& Int64.toUInt64 63)).toInt64) &&& 3689348814741910323)).toUInt64 >>> ((4 : Int32).toInt64.toUInt64 &&& Int64.toUInt64 63)).toInt64)) &&& 1085102592571150095).toUInt64 >>> ((8 : Int32).toInt64.toUInt64 &&& Int64.toUInt64 63)).toInt64)).toUInt64 >>> ((16 : Int32).toInt64.toUInt64 &&& Int64.toUInt64 63)).toInt64)) + (((((((((p0 - (((p0.toUInt64 >>> ((1 : Int32).toInt64.toUInt64 &&& Int64.toUInt64 63)).toInt64) &&& 6148914691236517205)) &&& 3689348814741910323) + ((((p0 - (((p0.toUInt64 >>> ((1 : Int32).toInt64.toUInt64 &&& Int64.toUInt64 63)).toInt64) &&& 6148914691236517205)).toUInt64 >>> ((2 : Int32).toInt64.toUInt64 &&& Int64.toUInt64 63)).toInt64) &&& 3689348814741910323)) + (((((p0 - (((p0.toUInt64 >>> ((1 : Int32).toInt64.toUInt64 &&& Int64.toUInt64 63)).toInt64) &&& 6148914691236517205)) &&& 3689348814741910323) + ((((p0 - (((p0.toUInt64 >>> ((1 : Int32).toInt64.toUInt64 &&& Int64.toUInt64 63)).toInt64) &&& 6148914691236517205)).toUInt64 >>> ((2 : Int32).toInt64.toUInt64 &&& Int64.toUInt64 63)).toInt64) &&& 3689348814741910323)).toUInt64 >>> ((4 : Int32).toInt64.toUInt64 &&& Int64.toUInt64 63)).toInt64)) &&& 1085102592571150095) + (((((((p0 - (((p0.toUInt64 >>> ((1 : Int32).toInt64.toUInt64 &&& Int64.toUInt64 63)).toInt64) &&& 6148914691236517205)) &&& 3689348814741910323) + ((((p0 - (((p0.toUInt64 >>> ((1 : Int32).toInt64.toUInt64 &&& Int64.toUInt64 63)).toInt64) &&& 6148914691236517205)).toUInt64 >>> ((2 : Int32).toInt64.toUInt64 &&& Int64.toUInt64 63)).toInt64) &&& 3689348814741910323)) + (((((p0 - (((p0.toUInt64 >>> ((1 : Int32).toInt64.toUInt64 &&& Int64.toUInt64 63)).toInt64) &&& 6148914691236517205)) &&& 3689348814741910323) + ((((p0 - (((p0.toUInt64 >>> ((1 : Int32).toInt64.toUInt64 &&& Int64.toUInt64 63)).toInt64) &&& 6148914691236517205)).toUInt64 >>> ((2 : Int32).toInt64.toUInt64 &&& Int64.toUInt64 63)).toInt64) &&& 3689348814741910323)).toUInt64 >>> ((4 : Int32).toInt64.toUInt64 &&& Int64.toUInt64 63)).toInt64)) &&& 1085102592571150095).toUInt64 >>> ((8 : Int32).toInt64.toUInt64 &&& Int64.toUInt64 63)).toInt64)) + ((((((((p0 - (((p0.toUInt64 >>> ((1 : Int32).toInt64.toUInt64 &&& Int64.toUInt64 63)).toInt64) &&& 6148914691236517205)) &&& 3689348814741910323) + ((((p0 - (((p0.toUInt64 >>> ((1 : Int32).toInt64.toUInt64 &&& Int64.toUInt64 63)).toInt64) &&& 6148914691236517205)).toUInt64 >>> ((2 : Int32).toInt64.toUInt64 &&& Int64.toUInt64 63)).toInt64) &&& 3689348814741910323)) + (((((p0 - (((p0.toUInt64 >>> ((1 : Int32).toInt64.toUInt64 &&& Int64.toUInt64 63)).toInt64) &&& 6148914691236517205)) &&& 3689348814741910323) + ((((p0 - (((p0.toUInt64 >>> ((1 : Int32).toInt64.toUInt64 &&& Int64.toUInt64 63)).toInt64) &&& 6148914691236517205)).toUInt64 >>> ((2 : Int32).toInt64.toUInt64 &&& Int64.toUInt64 63)).toInt64) &&& 3689348814741910323)).toUInt64 >>> ((4 : Int32).toInt64.toUInt64 &&& Int64.toUInt64 63)).toInt64)) &&& 1085102592571150095) + (((((((p0 - (((p0.toUInt64 >>> ((1 : Int32).toInt64.toUInt64 &&& Int64.toUInt64 63)).toInt64) &&& 6148914691236517205)) &&& 3689348814741910323) + ((((p0 - (((p0.toUInt64 >>> ((1 : Int32).toInt64.toUInt64 &&& Int64.toUInt64 63)).toInt64) &&& 6148914691236517205)).toUInt64 >>> ((2 : Int32).toInt64.toUInt64 &&& Int64.toUInt64 63)).toInt64) &&& 3689348814741910323)) + (((((p0 - (((p0.toUInt64 >>> ((1 : Int32).toInt64.toUInt64 &&& Int64.toUInt64 63)).toInt64) &&& 6148914691236517205)) &&& 3689348814741910323) + ((((p0 - (((p0.toUInt64 >>> ((1 : Int32).toInt64.toUInt64 &&& Int64.toUInt64 63)).toInt64) &&& 6148914691236517205)).toUInt64 >>> ((2 : Int32).toInt64.toUInt64 &&& Int64.toUInt64 63)).toInt64) &&& 3689348814741910323)).toUInt64 >>> ((4 : Int32).toInt64.toUInt64 &&& Int64.toUInt64 63)).toInt64)) &&& 1085102592571150095).toUInt64 >>> ((8 : Int32).toInt64.toUInt64 &&& Int64.toUInt64 63)).toInt64)).toUInt64 >>> ((16 : Int32).toInt64.toUInt64 &&& Int64.toUInt64 63)).toInt64)).toUInt64 >>> ((32 : Int32).toInt64.toUInt64 &&& Int64.toUInt64 63)).toInt64)).toInt32) &&& 127)
set_option maxHeartbeats 4000000 in
set_option maxRecDepth 100000 in
theorem m_J13_bitCount_95d88 {Y : gWx}  {p0 : Int64} {post : Int32 → Prop} {g : GH}     (w : wp_J13_bitCount_95d88 p0 post) : gMet Y yJ13_bitCount_95d88 cJ13_bitCount_95d88 2 (some .int) rm_J13_bitCount_95d88 [.long p0] g (gQi Y (fun r9 g9 => g9 = g ∧ post r9)) 0 0 := by
  refine gm_of rfl (Nat.le_of_ble_eq_true rfl) ?_
  intro X hY hn C hnm hQ
  subst hY
  have hQ : gRet X (gQi (xY X) (fun r9 g9 => g9 = g ∧ post r9)) 0 0 ∨ gRex X (gQi (xY X) (fun r9 g9 => g9 = g ∧ post r9)) (fun _ _ => False) 0 0 := Or.inl hQ
  have C : gC X cJ13_bitCount_95d88 RJ13 (some .int) rm_J13_bitCount_95d88 := C
  show gX X 0 0 0 [(0, .long p0)] [] g
  unfold wp_J13_bitCount_95d88 at w
  exact r_lload_n C 0 dJ13_bitCount_95d88_0 rfl (r_lload_n C 0 dJ13_bitCount_95d88_1 rfl (r_iconst C (v := 1) dJ13_bitCount_95d88_2 (by decide) (r_lushr C dJ13_bitCount_95d88_3 (r_ldc2 C dJ13_bitCount_95d88_4 tw551 (r_land C dJ13_bitCount_95d88_7 (r_lsub C dJ13_bitCount_95d88_8 (r_lstore_n C dJ13_bitCount_95d88_9 (nlt hn (by decide)) rfl (r_lload_n C 0 dJ13_bitCount_95d88_10 rfl (r_ldc2 C dJ13_bitCount_95d88_11 tw552 (r_land C dJ13_bitCount_95d88_14 (r_lload_n C 0 dJ13_bitCount_95d88_15 rfl (r_iconst C (v := 2) dJ13_bitCount_95d88_16 (by decide) (r_lushr C dJ13_bitCount_95d88_17 (r_ldc2 C dJ13_bitCount_95d88_18 tw552 (r_land C dJ13_bitCount_95d88_21 (r_ladd C dJ13_bitCount_95d88_22 (r_lstore_n C dJ13_bitCount_95d88_23 (nlt hn (by decide)) rfl (r_lload_n C 0 dJ13_bitCount_95d88_24 rfl (r_lload_n C 0 dJ13_bitCount_95d88_25 rfl (r_iconst C (v := 4) dJ13_bitCount_95d88_26 (by decide) (r_lushr C dJ13_bitCount_95d88_27 (r_ladd C dJ13_bitCount_95d88_28 (r_ldc2 C dJ13_bitCount_95d88_29 tw553 (r_land C dJ13_bitCount_95d88_32 (r_lstore_n C dJ13_bitCount_95d88_33 (nlt hn (by decide)) rfl (r_lload_n C 0 dJ13_bitCount_95d88_34 rfl (r_lload_n C 0 dJ13_bitCount_95d88_35 rfl (r_bipush C (v := 8) dJ13_bitCount_95d88_36 (by decide) (r_lushr C dJ13_bitCount_95d88_38 (r_ladd C dJ13_bitCount_95d88_39 (r_lstore_n C dJ13_bitCount_95d88_40 (nlt hn (by decide)) rfl (r_lload_n C 0 dJ13_bitCount_95d88_41 rfl (r_lload_n C 0 dJ13_bitCount_95d88_42 rfl (r_bipush C (v := 16) dJ13_bitCount_95d88_43 (by decide) (r_lushr C dJ13_bitCount_95d88_45 (r_ladd C dJ13_bitCount_95d88_46 (r_lstore_n C dJ13_bitCount_95d88_47 (nlt hn (by decide)) rfl (r_lload_n C 0 dJ13_bitCount_95d88_48 rfl (r_lload_n C 0 dJ13_bitCount_95d88_49 rfl (r_bipush C (v := 32) dJ13_bitCount_95d88_50 (by decide) (r_lushr C dJ13_bitCount_95d88_52 (r_ladd C dJ13_bitCount_95d88_53 (r_lstore_n C dJ13_bitCount_95d88_54 (nlt hn (by decide)) rfl (r_lload_n C 0 dJ13_bitCount_95d88_55 rfl (r_l2i C dJ13_bitCount_95d88_56 (r_bipush C (v := 127) dJ13_bitCount_95d88_57 (by decide) (r_iand C dJ13_bitCount_95d88_59 (r_iret C hQ dJ13_bitCount_95d88_60 rfl (vp_nar_int _) ⟨Nat.le_of_ble_eq_true rfl, Nat.le_of_ble_eq_true rfl⟩ ⟨rfl, w⟩))))))))))))))))))))))))))))))))))))))))))))))))
def rm_X1_groupSize : Room := { frames := 2, cells := 0, slots := 0, locals := 41 }
theorem mt_X1_groupSize : gMt yX1_groupSize cX1_groupSize 2 (some .int) 1 := ⟨tw547, tw63, by decide +kernel, by decide +kernel, by decide +kernel⟩
def wp_X1_groupSize (p0 : Int32) (o : FO)  (post : Int32 → Prop) : Prop :=
wp_X1_has p0 o (fun r1 =>
((r1 = 0 → post 0) ∧ (¬ r1 = 0 → vp_in p0 40 ∧
wp_J13_bitCount_95d88 (fB o 6 p0.toNatClampNeg) (fun r5 =>
post r5))))
set_option maxHeartbeats 4000000 in
set_option maxRecDepth 100000 in
theorem m_X1_groupSize {Y : gWx} {a : Nat}  {p0 : Int32} {post : Int32 → Prop} {g : GH} {o : FO} (hg : g a = some (2, o))    (w : wp_X1_groupSize p0 o post) : gMet Y yX1_groupSize cX1_groupSize 2 (some .int) rm_X1_groupSize [.ref a, .int p0] g (gQi Y (fun r9 g9 => g9 = g ∧ post r9)) 0 0 := by
  refine gm_of rfl (Nat.le_of_ble_eq_true rfl) ?_
  intro X hY hn C hnm hQ
  subst hY
  have hQ : gRet X (gQi (xY X) (fun r9 g9 => g9 = g ∧ post r9)) 0 0 ∨ gRex X (gQi (xY X) (fun r9 g9 => g9 = g ∧ post r9)) (fun _ _ => False) 0 0 := Or.inl hQ
  have C : gC X cX1_groupSize RX1 (some .int) rm_X1_groupSize := C
  show gX X 0 0 0 [(0, .ref a), (1, .int p0)] [] g
  unfold wp_X1_groupSize at w
  refine r_aload_n C 0 dX1_groupSize_0 rfl (r_iload_n C 1 dX1_groupSize_1 rfl (r_goi (r_runV C dX1_groupSize_2 (m_X1_has hg w) mt_X1_has tw489 tw490 tw491 gcl_2.1 hg rfl (stk := []) rfl (Nat.le_of_ble_eq_true rfl) ⟨rfl, rfl, ⟨Nat.le_of_ble_eq_true rfl, Nat.le_of_ble_eq_true rfl⟩, ⟨Nat.le_of_ble_eq_true rfl, Nat.le_of_ble_eq_true rfl⟩⟩) ?_))
  intro r1 h2 hp
  obtain ⟨rfl, w⟩ := hp
  refine r_if_eq C 20 dX1_groupSize_5 (by decide) (fun c3 => ?_) (fun c3 => ?_)
  · have w := w.1 c3
    exact r_iconst C (v := 0) dX1_groupSize_20 (by decide) (r_iret C hQ dX1_groupSize_21 rfl (vp_nar_int _) ⟨Nat.le_of_ble_eq_true rfl, Nat.le_of_ble_eq_true rfl⟩ ⟨rfl, w⟩)
  · have w := w.2 c3
    obtain ⟨i4, w⟩ := w
    refine r_aload_n C 0 dX1_groupSize_8 rfl (rg_X1_X1_groups C dX1_groupSize_9 hg (r_iload_n C 1 dX1_groupSize_12 rfl (r_lald (ci := 2) (k := 6) C dX1_groupSize_13 rfl rfl hg i4 (r_goi (r_runS C dX1_groupSize_14 (m_J13_bitCount_95d88 w) mt_J13_bitCount_95d88 tw548 tw549 rfl (stk := []) rfl (Nat.le_of_ble_eq_true rfl) ⟨rfl, rfl, ⟨Nat.le_of_ble_eq_true rfl, Nat.le_of_ble_eq_true rfl⟩, ⟨Nat.le_of_ble_eq_true rfl, Nat.le_of_ble_eq_true rfl⟩⟩) ?_))))
    intro r5 h6 hp
    obtain ⟨rfl, w⟩ := hp
    exact r_goto C 21 dX1_groupSize_17 (by decide) (r_iret C hQ dX1_groupSize_21 rfl (vp_nar_int _) ⟨Nat.le_of_ble_eq_true rfl, Nat.le_of_ble_eq_true rfl⟩ ⟨rfl, w⟩)
def rm_X7_move : Room := { frames := 8, cells := 7, slots := 347, locals := 324 }
theorem mt_X7_move : gMt yX7_move cX7_move 5 (some .int) 4 := ⟨tw527, tw59, by decide +kernel, by decide +kernel, by decide +kernel⟩
def wp_X7_move (a : Nat) (p0 : Int32) (p1 : Int32) (p2 : Int32) (p3 : Int32) (g : GH) (post : Int32 → GH → Prop) (px : String → GH → Prop) : Prop :=
wp_X7_checkHand p0 (
∃ o2, g a = some (8, o2) ∧
wp_X7_checkShape a p1 g (
wp_X7_checkRange p2 ((-24)) 24 (
wp_X7_checkRange p3 ((-16)) 16 (
∃ o7, g a = some (8, o7) ∧
wp_X7_checkCanAct a p1 g (
∀ a10, g a10 = none → ∀ g11, g11 = hu g a10 (1, fo0) →
∃ o14, g11 a10 = some (1, o14) ∧
wp_X0_init p0 1 p1 p2 p3 o14 (fun o16 => ∀ g17, g17 = hu g11 a10 (1, o16) →
∃ o19, g17 a = some (8, o19) ∧
wp_X7_tell a a10 g17 (fun g21 =>
∃ o23, g21 a = some (8, o23) ∧
∃ o26, g21 (fR o23 4) = some (2, o26) ∧
wp_X1_groupSize p1 o26 (fun r25 =>
post r25 g21)))) (fun E => px E g)) (fun E => px E g)) (fun E => px E g)) (fun E => px E g)) (fun E => px E g)
set_option maxHeartbeats 4000000 in
set_option maxRecDepth 100000 in
theorem m_X7_move {Y : gWx} {a : Nat}  {p0 : Int32} {p1 : Int32} {p2 : Int32} {p3 : Int32} {post : Int32 → GH → Prop} {px : String → GH → Prop} {g : GH}    (hl : (yl Y).stackTraces = false) (w : wp_X7_move a p0 p1 p2 p3 g post px) : gMex Y yX7_move cX7_move 5 (some .int) rm_X7_move [.ref a, .int p0, .int p1, .int p2, .int p3] g (gQi Y post) px 7 347 := by
  refine gm_ofx rfl (Nat.le_of_ble_eq_true rfl) ?_
  intro X hY hn C hno hQx
  subst hY
  have hQ := Or.inr (a := gRet X (gQi (xY X) post) 7 347) hQx
  have C : gC X cX7_move RX7 (some .int) rm_X7_move := C
  show gX X 0 0 0 [(0, .ref a), (1, .int p0), (2, .int p1), (3, .int p2), (4, .int p3)] [] g
  unfold wp_X7_move at w
  refine r_iload_n C 1 dX7_move_0 rfl (r_gxv (r_ruxS C dX7_move_1 (m_X7_checkHand hl w) mt_X7_checkHand tw227 tw228 rfl (stk := []) rfl (Nat.le_of_ble_eq_true rfl) ⟨rfl, rfl, ⟨Nat.le_of_ble_eq_true rfl, Nat.le_of_ble_eq_true rfl⟩, ⟨Nat.le_of_ble_eq_true rfl, Nat.le_of_ble_eq_true rfl⟩⟩) (fun E h1 hp => by obtain ⟨rfl, hp⟩ := hp; exact r_out C hQx (fun x hx => (hno x hx).elim) ⟨Nat.le_of_ble_eq_true rfl, Nat.le_of_ble_eq_true rfl⟩ hp) ?_)
  intro  h1 hp
  obtain ⟨e9, w⟩ := hp
  rw [e9]
  obtain ⟨o2, e3, w⟩ := w
  refine r_aload_n C 0 dX7_move_4 rfl (r_iload_n C 2 dX7_move_5 rfl (r_gxv (r_ruxV C dX7_move_6 (m_X7_checkShape hl w) mt_X7_checkShape tw528 tw530 tw11 gcl_8.1 e3 rfl (stk := []) rfl (Nat.le_of_ble_eq_true rfl) ⟨rfl, rfl, ⟨Nat.le_of_ble_eq_true rfl, Nat.le_of_ble_eq_true rfl⟩, ⟨Nat.le_of_ble_eq_true rfl, Nat.le_of_ble_eq_true rfl⟩⟩) (fun E h4 hp => by obtain ⟨rfl, hp⟩ := hp; exact r_out C hQx (fun x hx => (hno x hx).elim) ⟨Nat.le_of_ble_eq_true rfl, Nat.le_of_ble_eq_true rfl⟩ hp) ?_))
  intro  h4 hp
  obtain ⟨e9, w⟩ := hp
  rw [e9]
  refine r_iload_n C 3 dX7_move_9 rfl (r_bipush C (v := (-24)) dX7_move_10 (by decide) (r_bipush C (v := 24) dX7_move_12 (by decide) (r_gxv (r_ruxS C dX7_move_14 (m_X7_checkRange hl w) mt_X7_checkRange tw301 tw302 rfl (stk := []) rfl (Nat.le_of_ble_eq_true rfl) ⟨rfl, rfl, ⟨Nat.le_of_ble_eq_true rfl, Nat.le_of_ble_eq_true rfl⟩, ⟨Nat.le_of_ble_eq_true rfl, Nat.le_of_ble_eq_true rfl⟩⟩) (fun E h5 hp => by obtain ⟨rfl, hp⟩ := hp; exact r_out C hQx (fun x hx => (hno x hx).elim) ⟨Nat.le_of_ble_eq_true rfl, Nat.le_of_ble_eq_true rfl⟩ hp) ?_)))
  intro  h5 hp
  obtain ⟨e9, w⟩ := hp
  rw [e9]
  refine r_iload C 4 dX7_move_17 rfl (r_bipush C (v := (-16)) dX7_move_19 (by decide) (r_bipush C (v := 16) dX7_move_21 (by decide) (r_gxv (r_ruxS C dX7_move_23 (m_X7_checkRange hl w) mt_X7_checkRange tw301 tw302 rfl (stk := []) rfl (Nat.le_of_ble_eq_true rfl) ⟨rfl, rfl, ⟨Nat.le_of_ble_eq_true rfl, Nat.le_of_ble_eq_true rfl⟩, ⟨Nat.le_of_ble_eq_true rfl, Nat.le_of_ble_eq_true rfl⟩⟩) (fun E h6 hp => by obtain ⟨rfl, hp⟩ := hp; exact r_out C hQx (fun x hx => (hno x hx).elim) ⟨Nat.le_of_ble_eq_true rfl, Nat.le_of_ble_eq_true rfl⟩ hp) ?_)))
  intro  h6 hp
  obtain ⟨e9, w⟩ := hp
  rw [e9]
  obtain ⟨o7, e8, w⟩ := w
  refine r_aload_n C 0 dX7_move_26 rfl (r_iload_n C 2 dX7_move_27 rfl (r_gxv (r_ruxV C dX7_move_28 (m_X7_checkCanAct hl w) mt_X7_checkCanAct tw533 tw535 tw12 gcl_8.1 e8 rfl (stk := []) rfl (Nat.le_of_ble_eq_true rfl) ⟨rfl, rfl, ⟨Nat.le_of_ble_eq_true rfl, Nat.le_of_ble_eq_true rfl⟩, ⟨Nat.le_of_ble_eq_true rfl, Nat.le_of_ble_eq_true rfl⟩⟩) (fun E h9 hp => by obtain ⟨rfl, hp⟩ := hp; exact r_out C hQx (fun x hx => (hno x hx).elim) ⟨Nat.le_of_ble_eq_true rfl, Nat.le_of_ble_eq_true rfl⟩ hp) ?_))
  intro  h9 hp
  obtain ⟨e9, w⟩ := hp
  rw [e9]
  refine r_aload_n C 0 dX7_move_31 rfl (r_new C gcl_1 dX7_move_32 ⟨tw427, tw428, tw76⟩ hsm_1 ⟨Nat.le_of_ble_eq_true rfl, Nat.le_of_ble_eq_true rfl⟩ (fun a10 n13 _ => ?_))
  obtain ⟨g11, e12⟩ : ∃ z, z = hu g a10 (1, fo0) := ⟨_, rfl⟩
  have w := w a10 n13 g11 e12
  refine gX_eq e12.symm ?_
  obtain ⟨o14, e15, w⟩ := w
  refine r_dup C dX7_move_35 rfl (r_iload_n C 1 dX7_move_36 rfl (r_iconst C (v := 1) dX7_move_37 (by decide) (r_iload_n C 2 dX7_move_38 rfl (r_iload_n C 3 dX7_move_39 rfl (r_iload C 4 dX7_move_40 rfl (r_gov (r_runI C dX7_move_42 (m_X0_init e15 w) mt_X0_init tw429 tw430 rfl rfl (stk := [.ref a10, .ref a]) rfl (Nat.le_of_ble_eq_true rfl) ⟨rfl, rfl, ⟨Nat.le_of_ble_eq_true rfl, Nat.le_of_ble_eq_true rfl⟩, ⟨Nat.le_of_ble_eq_true rfl, Nat.le_of_ble_eq_true rfl⟩⟩) ?_))))))
  intro  h18 hp
  obtain ⟨o16, e9, w⟩ := hp
  obtain ⟨g17, rfl⟩ : ∃ z, z = h18 := ⟨_, rfl⟩
  have w := w _ e9
  obtain ⟨o19, e20, w⟩ := w
  refine r_gov (r_runV C dX7_move_45 (m_X7_tell w) mt_X7_tell tw463 tw465 tw4 gcl_8.1 e20 rfl (stk := []) rfl (Nat.le_of_ble_eq_true rfl) ⟨rfl, rfl, ⟨Nat.le_of_ble_eq_true rfl, Nat.le_of_ble_eq_true rfl⟩, ⟨Nat.le_of_ble_eq_true rfl, Nat.le_of_ble_eq_true rfl⟩⟩) ?_
  intro  h22 hp
  obtain ⟨g21, rfl⟩ : ∃ z, z = h22 := ⟨_, rfl⟩
  have w := hp
  obtain ⟨o23, e24, w⟩ := w
  obtain ⟨o26, e27, w⟩ := w
  refine r_aload_n C 0 dX7_move_48 rfl (rg_X7_X7_board C dX7_move_49 e24 (r_iload_n C 2 dX7_move_52 rfl (r_goi (r_runV C dX7_move_53 (m_X1_groupSize e27 w) mt_X1_groupSize tw544 tw545 tw546 gcl_2.1 e27 rfl (stk := []) rfl (Nat.le_of_ble_eq_true rfl) ⟨rfl, rfl, ⟨Nat.le_of_ble_eq_true rfl, Nat.le_of_ble_eq_true rfl⟩, ⟨Nat.le_of_ble_eq_true rfl, Nat.le_of_ble_eq_true rfl⟩⟩) ?_)))
  intro r25 h28 hp
  obtain ⟨e9, w⟩ := hp
  rw [e9]
  exact r_iret C hQ dX7_move_56 rfl (vp_nar_int _) ⟨Nat.le_of_ble_eq_true rfl, Nat.le_of_ble_eq_true rfl⟩ w
