/-! The constructors that make no loop, laid by wip/whole/tool/gen82.py. -/
theorem own_of {ci : Nat} {Cn0 : String} {T0 : u_T} {N0 : Nat} (h0 : vwCl[ci]? = some (Cn0, T0, N0)) {j : Nat} {own : String} (hj : (T0 j).1 = own) : ∀ (Cn : String) (T : u_T) (N : Nat), vwCl[ci]? = some (Cn, T, N) → (T j).1 = own := by
  intro Cn T N h
  rw [h0] at h
  cases h
  exact hj
theorem up2_z {f : IVt} {k j : Nat} {v : Int} (h : f k j = v) : up2 f k j v = f := by rw [← h, up2_self]
section SCtor
variable {Y : Gl} {e : Nat} {rv : RVt} {iv av : IVt}
set_option maxHeartbeats 4000000 in
set_option maxRecDepth 100000 in
theorem k_X2_init {k : Nat} (h0 : kc k = 2) (h1 : kc (k + 1) = 101) {x : Int} (hx : x = kl (k + 1)) (hz : ∀ j, av (k + 1) j = 0) (hi : iv k 1 = 0) : OkW Y (e + 1) 1 (kl (k + 1)) mX2_init [.ref (gl_b Y + k), .int (i32 x)] rv iv av (k + 1) (fun r rv' iv' av' n' => rv' = upR rv k 0 (k + 1 + 1) ∧ iv' = iv ∧ av' = av ∧ n' = k + 2) := by
  refine OkW.of rfl (by show _ ≤ 2; exact Nat.le_of_ble_eq_true rfl) fun X C0 hR => ?_
  have C : CX Y X RX2 "<init>" cX2_init 2 none (e + 1) 1 (kl (k + 1)) := C0
  have hkl := kl_le (k + 1)
  show Wa Y X 2 (g_MQ Y X 0 _ 1 (kl (k + 1))) 0 0 0 [(0, .ref (gl_b Y + k)), (1, .int (i32 x))] [] rv iv av (k + 1)
  refine r_aload_n (pc' := 1) C 0 rfl rfl dX2_init_0 rfl ?_
  refine r_objInit (pc' := 4) C ml_X2_1 wd_obj_i wd_obj_c (by omega) (Nat.le_of_ble_eq_true rfl) dX2_init_1 rfl ?_
  refine r_aload_n (pc' := 5) C 0 rfl rfl dX2_init_4 rfl ?_
  refine r_iload_n (pc' := 6) C 1 rfl rfl dX2_init_5 rfl ?_
  refine r_if_ge (pc' := 9) (tgt := 13) C (by omega) dX2_init_6 (by decide) rfl (fun _ => ?_) (fun c => absurd (show 0 ≤ x by omega) c)
  refine r_iload_n (pc' := 14) C 1 rfl rfl dX2_init_13 rfl ?_
  refine r_newB (pc' := 16) C wd_abyte h1 hx hz (by omega) (by omega) dX2_init_14 rfl ?_
  refine r_putr (pc' := 19) (k := k) (r := k + 1) C fl_X2_7 rfl (own_of rfl rfl) (by omega) h0 (by decide) fr_2_0 (fun _ => ⟨rfl, rfl⟩) dX2_init_16 rfl ?_
  refine r_aload_n (pc' := 20) C 0 rfl rfl dX2_init_19 rfl ?_
  refine r_iconst (pc' := 21) C dX2_init_20 rfl ?_
  refine r_puti (pc' := 24) (k := k) C fl_X2_13 (by omega) h0 (by decide) fr_2_1 (by decide) dX2_init_21 rfl ?_
  refine Wa.wide (ce' := 1) (sl' := kl (k + 1)) (by omega) (by omega) ?_
  exact r_vret C ⟨rfl, up2_z hi, rfl, rfl⟩ dX2_init_24
set_option maxHeartbeats 4000000 in
set_option maxRecDepth 100000 in
theorem k_X3_init {k : Nat} (h0 : kc k = 3) (h1 : kc (k + 1) = 100) (h2 : kc (k + 2) = 100) (h3 : kc (k + 3) = 100) {x : Int} (e1 : x = kl (k + 1)) (e2 : x = kl (k + 2)) (e3 : x = kl (k + 3)) (z1 : ∀ j, av (k + 1) j = 0) (z2 : ∀ j, av (k + 2) j = 0) (z3 : ∀ j, av (k + 3) j = 0) : OkW Y (e + 1) 3 (kl (k + 1) + kl (k + 2) + kl (k + 3)) mX3_init [.ref (gl_b Y + k), .int (i32 x)] rv iv av (k + 1) (fun r rv' iv' av' n' => rv' = upR (upR (upR rv k 0 (k + 1 + 1)) k 1 (k + 2 + 1)) k 2 (k + 3 + 1) ∧ iv' = iv ∧ av' = av ∧ n' = k + 4) := by
  refine OkW.of rfl (by show _ ≤ 3; exact Nat.le_of_ble_eq_true rfl) fun X C0 hR => ?_
  have C : CX Y X RX3 "<init>" cX3_init 3 none (e + 1) 3 (kl (k + 1) + kl (k + 2) + kl (k + 3)) := C0
  have hkl := kl_le (k + 1)
  have q2 : kl (k + 1 + 1) = kl (k + 2) := rfl
  have q3 : kl (k + 1 + 1 + 1) = kl (k + 3) := rfl
  show Wa Y X 3 (g_MQ Y X 0 _ 3 (kl (k + 1) + kl (k + 2) + kl (k + 3))) 0 0 0 [(0, .ref (gl_b Y + k)), (1, .int (i32 x))] [] rv iv av (k + 1)
  refine r_aload_n (pc' := 1) C 0 rfl rfl dX3_init_0 rfl ?_
  refine r_objInit (pc' := 4) C ml_X3_3 wd_obj_i wd_obj_c (by omega) (Nat.le_of_ble_eq_true rfl) dX3_init_1 rfl ?_
  refine r_iload_n (pc' := 5) C 1 rfl rfl dX3_init_4 rfl ?_
  refine r_iconst (pc' := 6) C dX3_init_5 rfl ?_
  refine r_max (pc' := 9) C ml_X3_9 wd_max_s wd_math wd_max_c (by omega) (Nat.le_of_ble_eq_true rfl) (by omega) (by omega) (by omega) (by decide) dX3_init_6 rfl ?_
  rw [show max x 0 = x by omega]
  refine r_istore_n (pc' := 10) (ls' := [(0, .ref (gl_b Y + k)), (1, .int (i32 x)), (2, .int (i32 x))]) C (by decide) rfl rfl dX3_init_9 rfl ?_
  refine r_aload_n (pc' := 11) C 0 rfl rfl dX3_init_10 rfl ?_
  refine r_iload_n (pc' := 12) C 2 rfl rfl dX3_init_11 rfl ?_
  refine r_newI (pc' := 14) C wd_aint h1 e1 z1 (by omega) (by omega) dX3_init_12 rfl ?_
  refine r_putr (pc' := 17) (k := k) (r := k + 1) C fl_X3_15 rfl (own_of rfl rfl) (by omega) h0 (by decide) fr_3_0 (fun _ => ⟨rfl, rfl⟩) dX3_init_14 rfl ?_
  refine r_aload_n (pc' := 18) C 0 rfl rfl dX3_init_17 rfl ?_
  refine r_iload_n (pc' := 19) C 2 rfl rfl dX3_init_18 rfl ?_
  refine r_newI (pc' := 21) C wd_aint h2 e2 z2 (by omega) (by omega) dX3_init_19 rfl ?_
  refine r_putr (pc' := 24) (k := k) (r := k + 2) C fl_X3_21 rfl (own_of rfl rfl) (by omega) h0 (by decide) fr_3_1 (fun _ => ⟨rfl, rfl⟩) dX3_init_21 rfl ?_
  refine r_aload_n (pc' := 25) C 0 rfl rfl dX3_init_24 rfl ?_
  refine r_iload_n (pc' := 26) C 2 rfl rfl dX3_init_25 rfl ?_
  refine r_newI (pc' := 28) C wd_aint h3 e3 z3 (by omega) (by omega) dX3_init_26 rfl ?_
  refine r_putr (pc' := 31) (k := k) (r := k + 3) C fl_X3_24 rfl (own_of rfl rfl) (by omega) h0 (by decide) fr_3_2 (fun _ => ⟨rfl, rfl⟩) dX3_init_28 rfl ?_
  refine Wa.wide (ce' := 3) (sl' := kl (k + 1) + kl (k + 2) + kl (k + 3)) (by omega) (by omega) ?_
  exact r_vret C ⟨rfl, rfl, rfl, rfl⟩ dX3_init_31
set_option maxHeartbeats 4000000 in
set_option maxRecDepth 100000 in
theorem k_X9_init {k : Nat} (h0 : kc k = 9) (h1 : kc (k + 1) = 100) (h2 : kc (k + 2) = 100) (h3 : kc (k + 3) = 100) (e1 : kl (k + 1) = 16) (e2 : kl (k + 2) = 288) (e3 : kl (k + 3) = 16) (z1 : ∀ j, av (k + 1) j = 0) (z2 : ∀ j, av (k + 2) j = 0) (z3 : ∀ j, av (k + 3) j = 0) : OkW Y (e + 1) 3 320 mX9_init [.ref (gl_b Y + k)] rv iv av (k + 1) (fun r rv' iv' av' n' => rv' = upR (upR (upR rv k 0 (k + 1 + 1)) k 1 (k + 2 + 1)) k 2 (k + 3 + 1) ∧ iv' = iv ∧ av' = av ∧ n' = k + 4) := by
  refine OkW.of rfl (by show _ ≤ 1; exact Nat.le_of_ble_eq_true rfl) fun X C0 hR => ?_
  have C : CX Y X RX9 "<init>" cX9_init 1 none (e + 1) 3 320 := C0
  have q2 : kl (k + 1 + 1) = kl (k + 2) := rfl
  have q3 : kl (k + 1 + 1 + 1) = kl (k + 3) := rfl
  show Wa Y X 1 (g_MQ Y X 0 _ 3 320) 0 0 0 [(0, .ref (gl_b Y + k))] [] rv iv av (k + 1)
  refine r_aload_n (pc' := 1) C 0 rfl rfl dX9_init_0 rfl ?_
  refine r_objInit (pc' := 4) C ml_X9_3 wd_obj_i wd_obj_c (by omega) (Nat.le_of_ble_eq_true rfl) dX9_init_1 rfl ?_
  refine r_aload_n (pc' := 5) C 0 rfl rfl dX9_init_4 rfl ?_
  refine r_bipush (pc' := 7) C dX9_init_5 (by decide) rfl ?_
  refine r_newI (pc' := 9) C wd_aint h1 (by omega) z1 (by omega) (by omega) dX9_init_7 rfl ?_
  refine r_putr (pc' := 12) (k := k) (r := k + 1) C fl_X9_9 rfl (own_of rfl rfl) (by omega) h0 (by decide) fr_9_0 (fun _ => ⟨rfl, rfl⟩) dX9_init_9 rfl ?_
  refine r_aload_n (pc' := 13) C 0 rfl rfl dX9_init_12 rfl ?_
  refine r_sipush (pc' := 16) C dX9_init_13 (by decide) rfl ?_
  refine r_newI (pc' := 18) C wd_aint h2 (by omega) z2 (by omega) (by omega) dX9_init_16 rfl ?_
  refine r_putr (pc' := 21) (k := k) (r := k + 2) C fl_X9_15 rfl (own_of rfl rfl) (by omega) h0 (by decide) fr_9_1 (fun _ => ⟨rfl, rfl⟩) dX9_init_18 rfl ?_
  refine r_aload_n (pc' := 22) C 0 rfl rfl dX9_init_21 rfl ?_
  refine r_bipush (pc' := 24) C dX9_init_22 (by decide) rfl ?_
  refine r_newI (pc' := 26) C wd_aint h3 (by omega) z3 (by omega) (by omega) dX9_init_24 rfl ?_
  refine r_putr (pc' := 29) (k := k) (r := k + 3) C fl_X9_18 rfl (own_of rfl rfl) (by omega) h0 (by decide) fr_9_2 (fun _ => ⟨rfl, rfl⟩) dX9_init_26 rfl ?_
  refine Wa.wide (ce' := 3) (sl' := 320) (by omega) (by omega) ?_
  exact r_vret C ⟨rfl, rfl, rfl, rfl⟩ dX9_init_29
set_option maxHeartbeats 4000000 in
set_option maxRecDepth 100000 in
theorem k_X12_init {k : Nat} (h0 : kc k = 12) (h1 : kc (k + 1) = 100) (e1 : kl (k + 1) = 1300) (z1 : ∀ j, av (k + 1) j = 0) : OkW Y (e + 1) 1 1300 mX12_init [.ref (gl_b Y + k)] rv iv av (k + 1) (fun r rv' iv' av' n' => rv' = upR rv k 0 (k + 1 + 1) ∧ iv' = iv ∧ av' = av ∧ n' = k + 2) := by
  refine OkW.of rfl (by show _ ≤ 1; exact Nat.le_of_ble_eq_true rfl) fun X C0 hR => ?_
  have C : CX Y X RX12 "<init>" cX12_init 1 none (e + 1) 1 1300 := C0
  show Wa Y X 1 (g_MQ Y X 0 _ 1 1300) 0 0 0 [(0, .ref (gl_b Y + k))] [] rv iv av (k + 1)
  refine r_aload_n (pc' := 1) C 0 rfl rfl dX12_init_0 rfl ?_
  refine r_objInit (pc' := 4) C ml_X12_1 wd_obj_i wd_obj_c (by omega) (Nat.le_of_ble_eq_true rfl) dX12_init_1 rfl ?_
  refine r_aload_n (pc' := 5) C 0 rfl rfl dX12_init_4 rfl ?_
  refine r_sipush (pc' := 8) C dX12_init_5 (by decide) rfl ?_
  refine r_newI (pc' := 10) C wd_aint h1 (by omega) z1 (by omega) (by omega) dX12_init_8 rfl ?_
  refine r_putr (pc' := 13) (k := k) (r := k + 1) C fl_X12_7 rfl (own_of rfl rfl) (by omega) h0 (by decide) fr_12_0 (fun _ => ⟨rfl, rfl⟩) dX12_init_10 rfl ?_
  refine Wa.wide (ce' := 1) (sl' := 1300) (by omega) (by omega) ?_
  exact r_vret C ⟨rfl, rfl, rfl, rfl⟩ dX12_init_13
set_option maxHeartbeats 4000000 in
set_option maxRecDepth 100000 in
theorem k_X4_init (hr : ∀ k, 2 ≤ k → ∀ j, rv k j = 0) (hi : ∀ k, 2 ≤ k → ∀ j, iv k j = 0) (ha : ∀ k, 2 ≤ k → ∀ j, av k j = 0) : OkW Y (e + 2) 3 65603 mX4_init [.ref (gl_b Y + 1)] rv iv av 2 (fun r rv' iv' av' n' => rv' = upR (upR (upR rv 2 0 4) 1 0 3) 1 1 5 ∧ iv' = iv ∧ av' = av ∧ n' = 5) := by
  refine OkW.of rfl (by show _ ≤ 1; exact Nat.le_of_ble_eq_true rfl) fun X C0 hR => ?_
  have C : CX Y X RX4 "<init>" cX4_init 1 none (e + 2) 3 65603 := C0
  show Wa Y X 1 (g_MQ Y X 0 _ 3 65603) 0 0 0 [(0, .ref (gl_b Y + 1))] [] rv iv av 2
  refine r_aload_n (pc' := 1) C 0 rfl rfl dX4_init_0 rfl ?_
  refine r_objInit (pc' := 4) C ml_X4_3 wd_obj_i wd_obj_c (by omega) (Nat.le_of_ble_eq_true rfl) dX4_init_1 rfl ?_
  refine r_aload_n (pc' := 5) C 0 rfl rfl dX4_init_4 rfl ?_
  refine r_new (pc' := 8) C nw_X4_9 rfl kc_2 (by decide) (fun j => hr 2 (by decide) j) (fun j => hi 2 (by decide) j) (Nat.le_of_ble_eq_true rfl) (Nat.le_of_ble_eq_true rfl) dX4_init_5 rfl ?_
  refine r_dup (pc' := 9) C rfl dX4_init_8 rfl ?_
  refine r_ldc (pc' := 11) (x := 65536) C ct_X4_11 (by decide) dX4_init_9 rfl ?_
  refine r_callI (k := 2) (as := [.int (i32 65536)]) (st := [.ref (gl_b Y + 2), .ref (gl_b Y + 1)]) C (k_X2_init (e := e) (k := 2) kc_2 kc_3 rfl (fun j => ha 3 (by decide) j) (hi 2 (by decide) 1)) cl_X2_init rfl ml_X4_12 im_X2_init (by omega) (Nat.le_of_ble_eq_true rfl) (Nat.le_of_ble_eq_true rfl) rfl rfl (Nat.le_of_ble_eq_true rfl) dX4_init_11 (fun r rv' iv' av' n' hp => ?_)
  obtain ⟨rfl, e1, e2, rfl⟩ := hp; rw [e1, e2]; clear e1 e2
  refine r_putr (pc' := 17) (k := 1) (r := 2) C fl_X4_15 rfl (own_of rfl rfl) (by decide) kc_1 (by decide) fr_4_0 (fun _ => ⟨rfl, rfl⟩) dX4_init_14 rfl ?_
  refine r_aload_n (pc' := 18) C 0 rfl rfl dX4_init_17 rfl ?_
  refine r_bipush (pc' := 20) C dX4_init_18 (by decide) rfl ?_
  refine r_newI (pc' := 22) C wd_aint kc_4 rfl (fun j => ha 4 (by decide) j) (Nat.le_of_ble_eq_true rfl) (Nat.le_of_ble_eq_true rfl) dX4_init_20 rfl ?_
  refine r_putr (pc' := 25) (k := 1) (r := 4) C fl_X4_21 rfl (own_of rfl rfl) (by decide) kc_1 (by decide) fr_4_1 (fun _ => ⟨rfl, rfl⟩) dX4_init_22 rfl ?_
  refine Wa.wide (ce' := 3) (sl' := 65603) (Nat.le_of_ble_eq_true rfl) (Nat.le_of_ble_eq_true rfl) ?_
  exact r_vret C ⟨rfl, rfl, rfl, rfl⟩ dX4_init_25
set_option maxHeartbeats 4000000 in
set_option maxRecDepth 100000 in
theorem k_X7_init (hr : ∀ k, 24 ≤ k → ∀ j, rv k j = 0) (hi : ∀ k, 24 ≤ k → ∀ j, iv k j = 0) (ha : ∀ k, 24 ≤ k → ∀ j, av k j = 0) : OkW Y (e + 1) 2 98304 mX7_init [.ref (gl_b Y + 23)] rv iv av 24 (fun r rv' iv' av' n' => rv' = upR (upR rv 23 0 25) 23 1 26 ∧ iv' = up2 iv 23 2 1 ∧ av' = av ∧ n' = 26) := by
  refine OkW.of rfl (by show _ ≤ 1; exact Nat.le_of_ble_eq_true rfl) fun X C0 hR => ?_
  have C : CX Y X RX7 "<init>" cX7_init 1 none (e + 1) 2 98304 := C0
  show Wa Y X 1 (g_MQ Y X 0 _ 2 98304) 0 0 0 [(0, .ref (gl_b Y + 23))] [] rv iv av 24
  refine r_aload_n (pc' := 1) C 0 rfl rfl dX7_init_0 rfl ?_
  refine r_objInit (pc' := 4) C ml_X7_3 wd_obj_i wd_obj_c (by omega) (Nat.le_of_ble_eq_true rfl) dX7_init_1 rfl ?_
  refine r_aload_n (pc' := 5) C 0 rfl rfl dX7_init_4 rfl ?_
  refine r_ldc (pc' := 7) (x := 32768) C ct_X7_11 (by decide) dX7_init_5 rfl ?_
  refine r_newI (pc' := 9) C wd_aint kc_24 rfl (fun j => ha 24 (by decide) j) (Nat.le_of_ble_eq_true rfl) (Nat.le_of_ble_eq_true rfl) dX7_init_7 rfl ?_
  refine r_putr (pc' := 12) (k := 23) (r := 24) C fl_X7_12 rfl (own_of rfl rfl) (by decide) kc_23 (by decide) fr_7_0 (fun _ => ⟨rfl, rfl⟩) dX7_init_9 rfl ?_
  refine r_aload_n (pc' := 13) C 0 rfl rfl dX7_init_12 rfl ?_
  refine r_ldc (pc' := 15) (x := 65536) C ct_X7_16 (by decide) dX7_init_13 rfl ?_
  refine r_newI (pc' := 17) C wd_aint kc_25 rfl (fun j => ha 25 (by decide) j) (Nat.le_of_ble_eq_true rfl) (Nat.le_of_ble_eq_true rfl) dX7_init_15 rfl ?_
  refine r_putr (pc' := 20) (k := 23) (r := 25) C fl_X7_17 rfl (own_of rfl rfl) (by decide) kc_23 (by decide) fr_7_1 (fun _ => ⟨rfl, rfl⟩) dX7_init_17 rfl ?_
  refine r_aload_n (pc' := 21) C 0 rfl rfl dX7_init_20 rfl ?_
  refine r_iconst (pc' := 22) C dX7_init_21 rfl ?_
  refine r_puti (pc' := 25) (k := 23) C fl_X7_20 (by decide) kc_23 (by decide) fr_7_2 (by decide) dX7_init_22 rfl ?_
  refine Wa.wide (ce' := 2) (sl' := 98304) (Nat.le_of_ble_eq_true rfl) (Nat.le_of_ble_eq_true rfl) ?_
  exact r_vret C ⟨rfl, rfl, rfl, rfl⟩ dX7_init_25
set_option maxHeartbeats 4000000 in
set_option maxRecDepth 100000 in
theorem k_X6_init (hr : ∀ k, 27 ≤ k → ∀ j, rv k j = 0) (hi : ∀ k, 27 ≤ k → ∀ j, iv k j = 0) (ha : ∀ k, 27 ≤ k → ∀ j, av k j = 0) : OkW Y (e + 1) 6 10656 mX6_init [.ref (gl_b Y + 26)] rv iv av 27 (fun r rv' iv' av' n' => rv' = upR (upR (upR (upR (upR (upR rv 26 0 28) 26 1 29) 26 2 30) 26 3 31) 26 4 32) 26 5 33 ∧ iv' = iv ∧ av' = av ∧ n' = 33) := by
  refine OkW.of rfl (by show _ ≤ 1; exact Nat.le_of_ble_eq_true rfl) fun X C0 hR => ?_
  have C : CX Y X RX6 "<init>" cX6_init 1 none (e + 1) 6 10656 := C0
  show Wa Y X 1 (g_MQ Y X 0 _ 6 10656) 0 0 0 [(0, .ref (gl_b Y + 26))] [] rv iv av 27
  refine r_aload_n (pc' := 1) C 0 rfl rfl dX6_init_0 rfl ?_
  refine r_objInit (pc' := 4) C ml_X6_3 wd_obj_i wd_obj_c (by omega) (Nat.le_of_ble_eq_true rfl) dX6_init_1 rfl ?_
  refine r_aload_n (pc' := 5) C 0 rfl rfl dX6_init_4 rfl ?_
  refine r_sipush (pc' := 8) C dX6_init_5 (by decide) rfl ?_
  refine r_newI (pc' := 10) C wd_aint kc_27 rfl (fun j => ha 27 (by decide) j) (Nat.le_of_ble_eq_true rfl) (Nat.le_of_ble_eq_true rfl) dX6_init_8 rfl ?_
  refine r_putr (pc' := 13) (k := 26) (r := 27) C fl_X6_9 rfl (own_of rfl rfl) (by decide) kc_26 (by decide) fr_6_0 (fun _ => ⟨rfl, rfl⟩) dX6_init_10 rfl ?_
  refine r_aload_n (pc' := 14) C 0 rfl rfl dX6_init_13 rfl ?_
  refine r_sipush (pc' := 17) C dX6_init_14 (by decide) rfl ?_
  refine r_newI (pc' := 19) C wd_aint kc_28 rfl (fun j => ha 28 (by decide) j) (Nat.le_of_ble_eq_true rfl) (Nat.le_of_ble_eq_true rfl) dX6_init_17 rfl ?_
  refine r_putr (pc' := 22) (k := 26) (r := 28) C fl_X6_15 rfl (own_of rfl rfl) (by decide) kc_26 (by decide) fr_6_1 (fun _ => ⟨rfl, rfl⟩) dX6_init_19 rfl ?_
  refine r_aload_n (pc' := 23) C 0 rfl rfl dX6_init_22 rfl ?_
  refine r_sipush (pc' := 26) C dX6_init_23 (by decide) rfl ?_
  refine r_newI (pc' := 28) C wd_aint kc_29 rfl (fun j => ha 29 (by decide) j) (Nat.le_of_ble_eq_true rfl) (Nat.le_of_ble_eq_true rfl) dX6_init_26 rfl ?_
  refine r_putr (pc' := 31) (k := 26) (r := 29) C fl_X6_18 rfl (own_of rfl rfl) (by decide) kc_26 (by decide) fr_6_2 (fun _ => ⟨rfl, rfl⟩) dX6_init_28 rfl ?_
  refine r_aload_n (pc' := 32) C 0 rfl rfl dX6_init_31 rfl ?_
  refine r_sipush (pc' := 35) C dX6_init_32 (by decide) rfl ?_
  refine r_newI (pc' := 37) C wd_aint kc_30 rfl (fun j => ha 30 (by decide) j) (Nat.le_of_ble_eq_true rfl) (Nat.le_of_ble_eq_true rfl) dX6_init_35 rfl ?_
  refine r_putr (pc' := 40) (k := 26) (r := 30) C fl_X6_21 rfl (own_of rfl rfl) (by decide) kc_26 (by decide) fr_6_3 (fun _ => ⟨rfl, rfl⟩) dX6_init_37 rfl ?_
  refine r_aload_n (pc' := 41) C 0 rfl rfl dX6_init_40 rfl ?_
  refine r_sipush (pc' := 44) C dX6_init_41 (by decide) rfl ?_
  refine r_newI (pc' := 46) C wd_aint kc_31 rfl (fun j => ha 31 (by decide) j) (Nat.le_of_ble_eq_true rfl) (Nat.le_of_ble_eq_true rfl) dX6_init_44 rfl ?_
  refine r_putr (pc' := 49) (k := 26) (r := 31) C fl_X6_24 rfl (own_of rfl rfl) (by decide) kc_26 (by decide) fr_6_4 (fun _ => ⟨rfl, rfl⟩) dX6_init_46 rfl ?_
  refine r_aload_n (pc' := 50) C 0 rfl rfl dX6_init_49 rfl ?_
  refine r_sipush (pc' := 53) C dX6_init_50 (by decide) rfl ?_
  refine r_newZ (pc' := 55) C wd_aboolean kc_32 rfl (fun j => ha 32 (by decide) j) (Nat.le_of_ble_eq_true rfl) (Nat.le_of_ble_eq_true rfl) dX6_init_53 rfl ?_
  refine r_putr (pc' := 58) (k := 26) (r := 32) C fl_X6_27 rfl (own_of rfl rfl) (by decide) kc_26 (by decide) fr_6_5 (fun _ => ⟨rfl, rfl⟩) dX6_init_55 rfl ?_
  refine Wa.wide (ce' := 6) (sl' := 10656) (Nat.le_of_ble_eq_true rfl) (Nat.le_of_ble_eq_true rfl) ?_
  exact r_vret C ⟨rfl, rfl, rfl, rfl⟩ dX6_init_58
set_option maxHeartbeats 4000000 in
set_option maxRecDepth 100000 in
theorem k_X0_init (h1 : iv 57 1 = 0) (h2 : iv 57 2 = 0) : OkW Y (e + 1) 0 0 mX0_init [.ref (gl_b Y + 57), .ref (gl_b Y + 12)] rv iv av 58 (fun r rv' iv' av' n' => rv' = upR rv 57 0 13 ∧ iv' = iv ∧ av' = av ∧ n' = 58) := by
  refine OkW.of rfl (by show _ ≤ 2; exact Nat.le_of_ble_eq_true rfl) fun X C0 hR => ?_
  have C : CX Y X RX0 "<init>" cX0_init 2 none (e + 1) 0 0 := C0
  show Wa Y X 2 (g_MQ Y X 0 _ 0 0) 0 0 0 [(0, .ref (gl_b Y + 57)), (1, .ref (gl_b Y + 12))] [] rv iv av 58
  refine r_aload_n (pc' := 1) C 0 rfl rfl dX0_init_0 rfl ?_
  refine r_objInit (pc' := 4) C ml_X0_1 wd_obj_i wd_obj_c (by omega) (Nat.le_of_ble_eq_true rfl) dX0_init_1 rfl ?_
  refine r_aload_n (pc' := 5) C 0 rfl rfl dX0_init_4 rfl ?_
  refine r_aload_n (pc' := 6) C 1 rfl rfl dX0_init_5 rfl ?_
  refine r_putr (pc' := 9) (k := 57) (r := 12) C fl_X0_7 rfl (own_of rfl rfl) (by decide) kc_57 (by decide) fr_0_0 (fun _ => ⟨rfl, rfl⟩) dX0_init_6 rfl ?_
  refine r_aload_n (pc' := 10) C 0 rfl rfl dX0_init_9 rfl ?_
  refine r_iconst (pc' := 11) C dX0_init_10 rfl ?_
  refine r_puti (pc' := 14) (k := 57) C fl_X0_13 (by decide) kc_57 (by decide) fr_0_1 (by decide) dX0_init_11 rfl ?_
  refine r_aload_n (pc' := 15) C 0 rfl rfl dX0_init_14 rfl ?_
  refine r_iconst (pc' := 16) C dX0_init_15 rfl ?_
  refine r_puti (pc' := 19) (k := 57) C fl_X0_17 (by decide) kc_57 (by decide) fr_0_2 (by decide) dX0_init_16 rfl ?_
  exact r_vret C ⟨rfl, by rw [up2_z h1, up2_z h2], rfl, rfl⟩ dX0_init_19
set_option maxHeartbeats 4000000 in
set_option maxRecDepth 100000 in
theorem k_X1_init : OkW Y (e + 1) 0 0 mX1_init [.ref (gl_b Y + 72), .ref (gl_b Y + 12)] rv iv av 73 (fun r rv' iv' av' n' => rv' = upR rv 72 0 13 ∧ iv' = iv ∧ av' = av ∧ n' = 73) := by
  refine OkW.of rfl (by show _ ≤ 2; exact Nat.le_of_ble_eq_true rfl) fun X C0 hR => ?_
  have C : CX Y X RX1 "<init>" cX1_init 2 none (e + 1) 0 0 := C0
  show Wa Y X 2 (g_MQ Y X 0 _ 0 0) 0 0 0 [(0, .ref (gl_b Y + 72)), (1, .ref (gl_b Y + 12))] [] rv iv av 73
  refine r_aload_n (pc' := 1) C 0 rfl rfl dX1_init_0 rfl ?_
  refine r_objInit (pc' := 4) C ml_X1_1 wd_obj_i wd_obj_c (by omega) (Nat.le_of_ble_eq_true rfl) dX1_init_1 rfl ?_
  refine r_aload_n (pc' := 5) C 0 rfl rfl dX1_init_4 rfl ?_
  refine r_aload_n (pc' := 6) C 1 rfl rfl dX1_init_5 rfl ?_
  refine r_putr (pc' := 9) (k := 72) (r := 12) C fl_X1_7 rfl (own_of rfl rfl) (by decide) kc_72 (by decide) fr_1_0 (fun _ => ⟨rfl, rfl⟩) dX1_init_6 rfl ?_
  exact r_vret C ⟨rfl, rfl, rfl, rfl⟩ dX1_init_9
set_option maxHeartbeats 4000000 in
set_option maxRecDepth 100000 in
theorem k_X10_init (hr : ∀ k, 59 ≤ k → ∀ j, rv k j = 0) (hi : ∀ k, 59 ≤ k → ∀ j, iv k j = 0) (ha : ∀ k, 59 ≤ k → ∀ j, av k j = 0) : OkW Y (e + 2) 14 1294 mX10_init [.ref (gl_b Y + 58), .ref (gl_b Y + 12), .ref (gl_b Y + 16)] rv iv av 59 (fun r rv' iv' av' n' => rv' = upR (upR (upR (upR (upR (upR (upR (upR (upR (upR (upR (upR (upR (upR (upR (upR rv 59 0 61) 59 1 62) 59 2 63) 58 2 60) 63 0 65) 63 1 66) 63 2 67) 58 3 64) 67 0 69) 67 1 70) 67 2 71) 58 4 68) 58 5 72) 72 0 13) 58 0 73) 58 1 17 ∧ iv' = iv ∧ av' = av ∧ n' = 73) := by
  refine OkW.of rfl (by show _ ≤ 3; exact Nat.le_of_ble_eq_true rfl) fun X C0 hR => ?_
  have C : CX Y X RX10 "<init>" cX10_init 3 none (e + 2) 14 1294 := C0
  show Wa Y X 3 (g_MQ Y X 0 _ 14 1294) 0 0 0 [(0, .ref (gl_b Y + 58)), (1, .ref (gl_b Y + 12)), (2, .ref (gl_b Y + 16))] [] rv iv av 59
  refine r_aload_n (pc' := 1) C 0 rfl rfl dX10_init_0 rfl ?_
  refine r_objInit (pc' := 4) C ml_X10_3 wd_obj_i wd_obj_c (by omega) (Nat.le_of_ble_eq_true rfl) dX10_init_1 rfl ?_
  refine r_aload_n (pc' := 5) C 0 rfl rfl dX10_init_4 rfl ?_
  refine r_new (pc' := 8) C nw_X10_9 rfl kc_59 (by decide) (fun j => hr 59 (by decide) j) (fun j => hi 59 (by decide) j) (Nat.le_of_ble_eq_true rfl) (Nat.le_of_ble_eq_true rfl) dX10_init_5 rfl ?_
  refine r_dup (pc' := 9) C rfl dX10_init_8 rfl ?_
  refine r_callIN (k := 59) (as := []) (st := [.ref (gl_b Y + 59), .ref (gl_b Y + 58)]) C (k_X9_init (e := e) (k := 59) kc_59 kc_60 kc_61 kc_62 rfl rfl rfl (fun j => ha 60 (by decide) j) (fun j => ha 61 (by decide) j) (fun j => ha 62 (by decide) j)) cl_X9_init rfl nl_X10_11 im_X9_init (by omega) (Nat.le_of_ble_eq_true rfl) (Nat.le_of_ble_eq_true rfl) rfl rfl (Nat.le_of_ble_eq_true rfl) dX10_init_9 (fun r rv' iv' av' n' hp => ?_)
  obtain ⟨rfl, e1, e2, rfl⟩ := hp; rw [e1, e2]; clear e1 e2
  refine r_putr (pc' := 15) (k := 58) (r := 59) C fl_X10_12 rfl (own_of rfl rfl) (by decide) kc_58 (by decide) fr_10_2 (fun _ => ⟨rfl, rfl⟩) dX10_init_12 rfl ?_
  refine r_aload_n (pc' := 16) C 0 rfl rfl dX10_init_15 rfl ?_
  refine r_new (pc' := 19) C nw_X10_9 rfl kc_63 (by decide) (fun j => hr 63 (by decide) j) (fun j => hi 63 (by decide) j) (Nat.le_of_ble_eq_true rfl) (Nat.le_of_ble_eq_true rfl) dX10_init_16 rfl ?_
  refine r_dup (pc' := 20) C rfl dX10_init_19 rfl ?_
  refine r_callIN (k := 63) (as := []) (st := [.ref (gl_b Y + 63), .ref (gl_b Y + 58)]) C (k_X9_init (e := e) (k := 63) kc_63 kc_64 kc_65 kc_66 rfl rfl rfl (fun j => ha 64 (by decide) j) (fun j => ha 65 (by decide) j) (fun j => ha 66 (by decide) j)) cl_X9_init rfl nl_X10_11 im_X9_init (by omega) (Nat.le_of_ble_eq_true rfl) (Nat.le_of_ble_eq_true rfl) rfl rfl (Nat.le_of_ble_eq_true rfl) dX10_init_20 (fun r rv' iv' av' n' hp => ?_)
  obtain ⟨rfl, e1, e2, rfl⟩ := hp; rw [e1, e2]; clear e1 e2
  refine r_putr (pc' := 26) (k := 58) (r := 63) C fl_X10_18 rfl (own_of rfl rfl) (by decide) kc_58 (by decide) fr_10_3 (fun _ => ⟨rfl, rfl⟩) dX10_init_23 rfl ?_
  refine r_aload_n (pc' := 27) C 0 rfl rfl dX10_init_26 rfl ?_
  refine r_new (pc' := 30) C nw_X10_9 rfl kc_67 (by decide) (fun j => hr 67 (by decide) j) (fun j => hi 67 (by decide) j) (Nat.le_of_ble_eq_true rfl) (Nat.le_of_ble_eq_true rfl) dX10_init_27 rfl ?_
  refine r_dup (pc' := 31) C rfl dX10_init_30 rfl ?_
  refine r_callIN (k := 67) (as := []) (st := [.ref (gl_b Y + 67), .ref (gl_b Y + 58)]) C (k_X9_init (e := e) (k := 67) kc_67 kc_68 kc_69 kc_70 rfl rfl rfl (fun j => ha 68 (by decide) j) (fun j => ha 69 (by decide) j) (fun j => ha 70 (by decide) j)) cl_X9_init rfl nl_X10_11 im_X9_init (by omega) (Nat.le_of_ble_eq_true rfl) (Nat.le_of_ble_eq_true rfl) rfl rfl (Nat.le_of_ble_eq_true rfl) dX10_init_31 (fun r rv' iv' av' n' hp => ?_)
  obtain ⟨rfl, e1, e2, rfl⟩ := hp; rw [e1, e2]; clear e1 e2
  refine r_putr (pc' := 37) (k := 58) (r := 67) C fl_X10_21 rfl (own_of rfl rfl) (by decide) kc_58 (by decide) fr_10_4 (fun _ => ⟨rfl, rfl⟩) dX10_init_34 rfl ?_
  refine r_aload_n (pc' := 38) C 0 rfl rfl dX10_init_37 rfl ?_
  refine r_sipush (pc' := 41) C dX10_init_38 (by decide) rfl ?_
  refine r_newI (pc' := 43) C wd_aint kc_71 rfl (fun j => ha 71 (by decide) j) (Nat.le_of_ble_eq_true rfl) (Nat.le_of_ble_eq_true rfl) dX10_init_41 rfl ?_
  refine r_putr (pc' := 46) (k := 58) (r := 71) C fl_X10_24 rfl (own_of rfl rfl) (by decide) kc_58 (by decide) fr_10_5 (fun _ => ⟨rfl, rfl⟩) dX10_init_43 rfl ?_
  refine r_aload_n (pc' := 47) C 0 rfl rfl dX10_init_46 rfl ?_
  refine r_new (pc' := 50) C nw_X10_28 rfl kc_72 (by decide) (fun j => hr 72 (by decide) j) (fun j => hi 72 (by decide) j) (Nat.le_of_ble_eq_true rfl) (Nat.le_of_ble_eq_true rfl) dX10_init_47 rfl ?_
  refine r_dup (pc' := 51) C rfl dX10_init_50 rfl ?_
  refine r_aload_n (pc' := 52) C 1 rfl rfl dX10_init_51 rfl ?_
  refine r_callI (k := 72) (as := [.ref (gl_b Y + 12)]) (st := [.ref (gl_b Y + 72), .ref (gl_b Y + 58)]) C (k_X1_init (e := e)) cl_X1_init rfl ml_X10_30 im_X1_init (by omega) (Nat.le_of_ble_eq_true rfl) (Nat.le_of_ble_eq_true rfl) rfl rfl (Nat.le_of_ble_eq_true rfl) dX10_init_52 (fun r rv' iv' av' n' hp => ?_)
  obtain ⟨rfl, e1, e2, rfl⟩ := hp; rw [e1, e2]; clear e1 e2
  refine r_putr (pc' := 58) (k := 58) (r := 72) C fl_X10_33 rfl (own_of rfl rfl) (by decide) kc_58 (by decide) fr_10_0 (fun _ => ⟨rfl, rfl⟩) dX10_init_55 rfl ?_
  refine r_aload_n (pc' := 59) C 0 rfl rfl dX10_init_58 rfl ?_
  refine r_aload_n (pc' := 60) C 2 rfl rfl dX10_init_59 rfl ?_
  refine r_putr (pc' := 63) (k := 58) (r := 16) C fl_X10_37 rfl (own_of rfl rfl) (by decide) kc_58 (by decide) fr_10_1 (fun _ => ⟨rfl, rfl⟩) dX10_init_60 rfl ?_
  refine Wa.wide (ce' := 14) (sl' := 1294) (Nat.le_of_ble_eq_true rfl) (Nat.le_of_ble_eq_true rfl) ?_
  exact r_vret C ⟨rfl, rfl, rfl, rfl⟩ dX10_init_63
end SCtor
