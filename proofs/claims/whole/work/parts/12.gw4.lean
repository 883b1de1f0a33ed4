theorem nlt {a b c : Nat} (h : a = b) (k : c < b) : c < a := by rw [h]; exact k
theorem gX_eq {X : gCx} {mc ms pc : Nat} {loc : List (Nat × Value)} {stk : List Value} {h h' : GH} (e : h = h') (k : gX X mc ms pc loc stk h') : gX X mc ms pc loc stk h := by rw [e]; exact k
theorem z_01 {x : Int32} (h : x &&& 1 = x) : x = 0 ∨ x = 1 := by
  have h3 := pk_and x (m := 1) 1 (by decide)
  rw [h] at h3
  rcases Nat.mod_two_eq_zero_or_one x.toBitVec.toNat with q | q
  · left; rw [h3]; simp only [Nat.pow_one, q]; rfl
  · right; rw [h3]; simp only [Nat.pow_one, q]; rfl
theorem fits_z {x : Int32} (h : narrow .boolean (.int x) = .int x) : fits .boolean (.int x) = true := by
  have h2 : x &&& 1 = x := by simpa [narrow] using h
  rcases z_01 h2 with rfl | rfl <;> rfl
section GROWS5
variable {X : gCx} {cc : ByteArray} {own : String} {ret : Option FieldType} {rm : Room} {mc ms pc : Nat} {loc : List (Nat × Value)} {stk : List Value} {h : GH}
theorem r_ldc (C : gC X cc own ret rm) {ix : Nat} {v : Int32} (hd : decode cc pc = .ok (.ldc ix, 2)) (hw : Cond.constant own ix v ∈ TW) (kk : gX X mc ms (pc + 2) loc (.int v :: stk) h) : gX X mc ms pc loc stk h := fun H locs ls hS hG hl => lv_ldc C.1 C.2.1 C.2.2.2.1 (C.ht hw) hd (kk H locs ls hS hG hl)
theorem r_ldcw (C : gC X cc own ret rm) {ix : Nat} {v : Int32} (hd : decode cc pc = .ok (.ldc_w ix, 3)) (hw : Cond.constant own ix v ∈ TW) (kk : gX X mc ms (pc + 3) loc (.int v :: stk) h) : gX X mc ms pc loc stk h := fun H locs ls hS hG hl => lv_ldcw C.1 C.2.1 C.2.2.2.1 (C.ht hw) hd (kk H locs ls hS hG hl)
theorem r_ldc2 (C : gC X cc own ret rm) {ix : Nat} {v : Int64} (hd : decode cc pc = .ok (.ldc2_w ix, 3)) (hw : Cond.constantLong own ix v ∈ TW) (kk : gX X mc ms (pc + 3) loc (.long v :: stk) h) : gX X mc ms pc loc stk h := fun H locs ls hS hG hl => lv_ldc2 C.1 C.2.1 C.2.2.2.1 (C.ht hw) hd (kk H locs ls hS hG hl)
theorem r_lcmp (C : gC X cc own ret rm) {x y : Int64} (hd : decode cc pc = .ok (.lcmp, 1)) (kk : gX X mc ms (pc + 1) loc (.int (lg_cmp x y) :: stk) h) : gX X mc ms pc loc (.long y :: .long x :: stk) h := fun H locs ls hS hG hl => W.lcmp C.1 C.2.1 hd (kk H locs ls hS hG hl)
theorem r_dup2 (C : gC X cc own ret rm) {v u : Value} (hd : decode cc pc = .ok (.dup2, 1)) (h1 : v.category = 1) (h2 : u.category = 1) (kk : gX X mc ms (pc + 1) loc (v :: u :: v :: u :: stk) h) : gX X mc ms pc loc (v :: u :: stk) h := fun H locs ls hS hG hl => lv_dup2_11 C.1 C.2.1 hd h1 h2 (kk H locs ls hS hG hl)
theorem r_dup_x1 (C : gC X cc own ret rm) {v u : Value} (hd : decode cc pc = .ok (.dup_x1, 1)) (h1 : v.category = 1) (h2 : u.category = 1) (kk : gX X mc ms (pc + 1) loc (v :: u :: v :: stk) h) : gX X mc ms pc loc (v :: u :: stk) h := fun H locs ls hS hG hl => lv_dup_x1 C.1 C.2.1 hd h1 h2 (kk H locs ls hS hG hl)
end GROWS5

set_option maxRecDepth 100000 in
theorem gcl_1 : gCl 1 RX0 TX0 7 tyX0 := ⟨rfl, rfl, by decide +kernel, tyX0_ok, nmX0, rfl⟩
set_option maxRecDepth 100000 in
theorem gcl_2 : gCl 2 RX1 TX1 10 tyX1 := ⟨rfl, rfl, by decide +kernel, tyX1_ok, nmX1, rfl⟩
set_option maxRecDepth 100000 in
theorem gcl_3 : gCl 3 RX2 TX2 4 tyX2 := ⟨rfl, rfl, by decide +kernel, tyX2_ok, nmX2, rfl⟩
set_option maxRecDepth 100000 in
theorem gcl_4 : gCl 4 RX3 TX3 10 tyX3 := ⟨rfl, rfl, by decide +kernel, tyX3_ok, nmX3, rfl⟩
set_option maxRecDepth 100000 in
theorem gcl_5 : gCl 5 RX4 TX4 3 tyX4 := ⟨rfl, rfl, by decide +kernel, tyX4_ok, nmX4, rfl⟩
set_option maxRecDepth 100000 in
theorem gcl_6 : gCl 6 RX5 TX5 6 tyX5 := ⟨rfl, rfl, by decide +kernel, tyX5_ok, nmX5, rfl⟩
set_option maxRecDepth 100000 in
theorem gcl_7 : gCl 7 RX6 TX6 4 tyX6 := ⟨rfl, rfl, by decide +kernel, tyX6_ok, nmX6, rfl⟩
set_option maxRecDepth 100000 in
theorem gcl_8 : gCl 8 RX7 TX7 11 tyX7 := ⟨rfl, rfl, by decide +kernel, tyX7_ok, nmX7, rfl⟩
set_option maxRecDepth 100000 in
theorem gcl_9 : gCl 9 RX8 TX8 49 tyX8 := ⟨rfl, rfl, by decide +kernel, tyX8_ok, nmX8, rfl⟩
