theorem tw720 : Cond.codeWith ⟨"CanvasRoomLaw","freeze","(LCanvasRoom;IIIIIII[J)I"⟩ method_20_code 10 (some .int) [(0, 20, 23, 13), (0, 20, 27, 15), (0, 20, 31, 17)] ∈ TW := tw_in 720 (by decide +kernel) (by decide +kernel)
theorem tw721 : Cond.methodLink "CanvasRoomLaw" 74 ⟨"CanvasRoom","freeze","(IIIIIII)I"⟩ ∈ TW := tw_in 721 (by decide +kernel) (by decide +kernel)
theorem tw722 : Cond.instanceMethod ⟨"CanvasRoom","freeze","(IIIIIII)I"⟩ ∈ TW := tw_in 722 (by decide +kernel) (by decide +kernel)
theorem tw723 : Cond.selects "CanvasRoom" ⟨"CanvasRoom","freeze","(IIIIIII)I"⟩ ⟨"CanvasRoom","freeze","(IIIIIII)I"⟩ ∈ TW := tw_in 723 (by decide +kernel) (by decide +kernel)
def rm_L_freeze : Room := { frames := 9, cells := 65, slots := 1545, locals := 352 }
theorem mt_L_freeze : gMtw yL_freeze cL_freeze 10 (some .int) [(0, 20, 23, 13), (0, 20, 27, 15), (0, 20, 31, 17)] 9 := ⟨tw720, tw58, by decide +kernel, by decide +kernel, by decide +kernel⟩
def wp_L_freeze (p0 : Nat) (p1 : Int32) (p2 : Int32) (p3 : Int32) (p4 : Int32) (p5 : Int32) (p6 : Int32) (p7 : Int32) (p8 : Nat) (g : GH) (post : Int32 → GH → Prop) : Prop :=
∃ o2, g p0 = some (8, o2) ∧
wp_X7_freeze p0 p1 p2 p3 p4 p5 p6 p7 g (fun r1 g5 =>
∃ o7, g5 p8 = some (10, o7) ∧
∀ g9, g9 = hu g5 p8 (10, sB o7 0 0 r1.toInt64) →
post 0 g9) (fun E9 g4 => (E9 = "java/lang/IndexOutOfBoundsException" ∧ post 1 g4) ∨ (E9 = "java/lang/IllegalArgumentException" ∧ post 2 g4) ∨ (E9 = "java/lang/IllegalStateException" ∧ post 3 g4))
set_option maxHeartbeats 4000000 in
set_option maxRecDepth 100000 in
theorem m_L_freeze {Y : gWx}  {p0 : Nat} {p1 : Int32} {p2 : Int32} {p3 : Int32} {p4 : Int32} {p5 : Int32} {p6 : Int32} {p7 : Int32} {p8 : Nat} {post : Int32 → GH → Prop} {g : GH}    (hlt : (yl Y).stackTraces = false) (w : wp_L_freeze p0 p1 p2 p3 p4 p5 p6 p7 p8 g post) : gMew Y yL_freeze cL_freeze 10 (some .int) [(0, 20, 23, 13), (0, 20, 27, 15), (0, 20, 31, 17)] rm_L_freeze [.ref p0, .int p1, .int p2, .int p3, .int p4, .int p5, .int p6, .int p7, .ref p8] g (gQi Y post) 65 1545 := by
  refine gm_ofh rfl (Nat.le_of_ble_eq_true rfl) tw720 ?_
  intro X hY hn C htab hQ
  subst hY
  have hQ : gRet X (gQi (xY X) post) 65 1545 ∨ gRex X (gQi (xY X) post) (fun _ _ => False) 65 1545 := Or.inl hQ
  have C : gC X cL_freeze RL (some .int) rm_L_freeze := C
  show gX X 0 0 0 [(0, .ref p0), (1, .int p1), (2, .int p2), (3, .int p3), (4, .int p4), (5, .int p5), (6, .int p6), (7, .int p7), (8, .ref p8)] [] g
  unfold wp_L_freeze at w
  obtain ⟨o2, e3, w⟩ := w
  refine r_aload C 8 dL_freeze_0 rfl (r_iconst C (v := 0) dL_freeze_2 (by decide) (r_aload_n C 0 dL_freeze_3 rfl (r_iload_n C 1 dL_freeze_4 rfl (r_iload_n C 2 dL_freeze_5 rfl (r_iload_n C 3 dL_freeze_6 rfl (r_iload C 4 dL_freeze_7 rfl (r_iload C 5 dL_freeze_9 rfl (r_iload C 6 dL_freeze_11 rfl (r_iload C 7 dL_freeze_13 rfl (r_gxi (r_ruxV C dL_freeze_15 (m_X7_freeze hlt w) mt_X7_freeze tw721 tw722 tw723 gcl_8.1 e3 rfl (stk := [.int 0, .ref p8]) rfl (Nat.le_of_ble_eq_true rfl) ⟨rfl, rfl, ⟨Nat.le_of_ble_eq_true rfl, Nat.le_of_ble_eq_true rfl⟩, ⟨Nat.le_of_ble_eq_true rfl, Nat.le_of_ble_eq_true rfl⟩⟩) (fun E9 h6 hp => ?_) ?_))))))))))
  · obtain ⟨g4, rfl⟩ : ∃ z, z = h6 := ⟨_, rfl⟩
    rcases hp with ⟨rfl, w⟩ | ⟨rfl, w⟩ | ⟨rfl, w⟩
    · refine r_catch C htab [] (0, 20, 23, 13) [(0, 20, 27, 15), (0, 20, 31, 17)] rfl (fun z hz => by cases hz) (by decide) (by decide) tw220 tw232 rfl (fun q9 => ?_)
      exact r_astore C dL_freeze_23 (nlt hn (by decide)) rfl (r_iconst C (v := 1) dL_freeze_25 (by decide) (r_iret C hQ dL_freeze_26 rfl (vp_nar_int _) ⟨Nat.le_of_ble_eq_true rfl, Nat.le_of_ble_eq_true rfl⟩ w))
    · refine r_catch C htab [(0, 20, 23, 13)] (0, 20, 27, 15) [(0, 20, 31, 17)] rfl (fun z hz => by simp only [List.mem_cons, List.not_mem_nil, or_false] at hz; rcases hz with rfl <;> first | exact ⟨by decide, "java/lang/IndexOutOfBoundsException", tw220, by decide +kernel⟩) (by decide) (by decide) tw221 tw306 rfl (fun q9 => ?_)
      exact r_astore C dL_freeze_27 (nlt hn (by decide)) rfl (r_iconst C (v := 2) dL_freeze_29 (by decide) (r_iret C hQ dL_freeze_30 rfl (vp_nar_int _) ⟨Nat.le_of_ble_eq_true rfl, Nat.le_of_ble_eq_true rfl⟩ w))
    · refine r_catch C htab [(0, 20, 23, 13), (0, 20, 27, 15)] (0, 20, 31, 17) [] rfl (fun z hz => by simp only [List.mem_cons, List.not_mem_nil, or_false] at hz; rcases hz with rfl | rfl <;> first | exact ⟨by decide, "java/lang/IndexOutOfBoundsException", tw220, by decide +kernel⟩ | exact ⟨by decide, "java/lang/IllegalArgumentException", tw221, by decide +kernel⟩) (by decide) (by decide) tw222 tw322 rfl (fun q9 => ?_)
      exact r_astore C dL_freeze_31 (nlt hn (by decide)) rfl (r_iconst C (v := 3) dL_freeze_33 (by decide) (r_iret C hQ dL_freeze_34 rfl (vp_nar_int _) ⟨Nat.le_of_ble_eq_true rfl, Nat.le_of_ble_eq_true rfl⟩ w))
  intro r1 h6 hp
  obtain ⟨g5, rfl⟩ : ∃ z, z = h6 := ⟨_, rfl⟩
  have w := hp
  obtain ⟨o7, e8, w⟩ := w
  obtain ⟨g9, e10⟩ : ∃ z, z = hu g5 p8 (10, sB o7 0 0 r1.toInt64) := ⟨_, rfl⟩
  have w := w g9 e10
  exact r_i2l C dL_freeze_18 (r_last10 C dL_freeze_19 e8 e10 (r_goto C 35 dL_freeze_20 (by decide) (r_iconst C (v := 0) dL_freeze_35 (by decide) (r_iret C hQ dL_freeze_36 rfl (vp_nar_int _) ⟨Nat.le_of_ble_eq_true rfl, Nat.le_of_ble_eq_true rfl⟩ w))))
