/-! The constructors with loops, and of both classes, laid by wip/whole/tool/gen83.py. -/
theorem fxL_ge (s : Nat) : 7 ≤ fxL s := by
  unfold fxL
  split
  · omega
  · split
    · omega
    · split <;> omega
def RV8 (rv : RVt) : RVt := upR (upR (upR (upR (upR (upR (upR (upR (upR (upR (upR (upR (upR (upR (upR (upR (upR (upR (upR (upR (upR (upR (upR (upR (upR (upR (upR (upR (upR (upR (upR (upR (upR (upR (upR (upR rv 23 0 25) 23 1 26) 22 1 24) 26 0 28) 26 1 29) 26 2 30) 26 3 31) 26 4 32) 26 5 33) 22 2 27) 33 0 35) 33 1 36) 33 2 37) 22 3 34) 37 0 39) 37 1 40) 37 2 41) 22 4 38) 41 0 43) 41 1 44) 41 2 45) 22 5 42) 45 0 47) 45 1 48) 45 2 49) 22 6 46) 49 0 51) 49 1 52) 49 2 53) 22 7 50) 22 8 54) 22 9 55) 22 12 56) 22 13 57) 57 0 13) 22 0 58
def RV11 (rv : RVt) : RVt := upR (upR (upR (upR (upR (upR (upR (upR (upR (upR (upR (upR (upR (upR (upR (upR (upR ((upR (RV8 (upR (upR (upR (upR (upR (upR (upR (upR (upR (upR (upR (upR (upR (upR (upR (upR (upR (upR (upR (upR (upR rv 2 0 4) 1 0 3) 1 1 5) 0 0 2) 5 0 7) 5 1 8) 5 2 9) 5 3 10) 0 1 6) 10 0 12) 0 2 11) 12 0 14) 0 3 13) 14 0 16) 0 4 15) 16 0 18) 0 5 17) 18 0 20) 0 6 19) 20 0 22) 0 7 21)) 0 8 23)) 59 0 61) 59 1 62) 59 2 63) 58 2 60) 63 0 65) 63 1 66) 63 2 67) 58 3 64) 67 0 69) 67 1 70) 67 2 71) 58 4 68) 58 5 72) 72 0 13) 58 0 73) 58 1 17) 0 9 59
def RV13 (rv : RVt) : RVt := upR (upR (upR (upR (upR (upR (upR (upR (upR (upR (upR (upR (upR (upR (upR (upR (upR (upR (upR (upR (upR (upR (upR (upR (upR (upR (upR (upR (upR (upR (upR (upR (upR (upR (upR (upR (upR (upR (upR (upR (upR (upR rv 73 1 75) 73 2 76) 73 3 77) 73 4 78) 73 9 79) 73 10 80) 73 11 81) 73 12 82) 73 13 83) 73 14 84) 73 15 85) 73 17 86) 73 19 87) 73 20 88) 73 21 89) 73 24 90) 73 26 91) 73 27 92) 73 29 93) 73 30 94) 73 32 95) 73 33 96) 73 35 97) 73 36 98) 73 37 99) 73 38 100) 73 39 101) 73 40 102) 73 41 103) 73 42 104) 73 43 105) 73 44 106) 73 46 107) 73 47 108) 73 48 109) 109 0 111) 73 49 110) 111 0 113) 73 50 112) 113 0 115) 73 51 114) 73 52 116
section SCtor2
variable {Y : Gl} {e : Nat} {rv : RVt} {iv av : IVt}
set_option maxHeartbeats 4000000 in
set_option maxRecDepth 100000 in
theorem k_X5_init (hr : ∀ k, 6 ≤ k → ∀ j, rv k j = 0) (hi : ∀ k, 6 ≤ k → ∀ j, iv k j = 0) (ha : ∀ k, 6 ≤ k → ∀ j, av k j = 0) : OkW Y (e + 1) 4 720 mX5_init [.ref (gl_b Y + 5)] rv iv av 6 (fun r rv' iv' av' n' => rv' = upR (upR (upR (upR rv 5 0 7) 5 1 8) 5 2 9) 5 3 10 ∧ iv' = up2 (up2 (up2 iv 5 4 12) 5 5 0) 5 6 0 ∧ (Off [6] av av' ∧ ∀ i, av' 6 i = if i % 8 = 4 ∧ i < 512 then -2 else 0) ∧ n' = 10) := by
  refine OkW.of rfl (by show _ ≤ 2; exact Nat.le_of_ble_eq_true rfl) fun X C0 hR => ?_
  have C : CX Y X RX5 "<init>" cX5_init 2 none (e + 1) 4 720 := C0
  show Wa Y X 2 (g_MQ Y X 0 (fun r rv' iv' av' n' => rv' = upR (upR (upR (upR rv 5 0 7) 5 1 8) 5 2 9) 5 3 10 ∧ iv' = up2 (up2 (up2 iv 5 4 12) 5 5 0) 5 6 0 ∧ (Off [6] av av' ∧ ∀ i, av' 6 i = if i % 8 = 4 ∧ i < 512 then -2 else 0) ∧ n' = 10) 4 720) 0 0 0 [(0, .ref (gl_b Y + 5))] [] rv iv av 6
  refine r_aload_n (pc' := 1) C 0 rfl rfl dX5_init_0 rfl ?_
  refine r_objInit (pc' := 4) C ml_X5_3 wd_obj_i wd_obj_c (by omega) (Nat.le_of_ble_eq_true rfl) dX5_init_1 rfl ?_
  refine r_aload_n (pc' := 5) C 0 rfl rfl dX5_init_4 rfl ?_
  refine r_sipush (pc' := 8) C dX5_init_5 (by decide) rfl ?_
  refine r_newI (pc' := 10) C wd_aint kc_6 rfl (fun j => ha 6 (by decide) j) (Nat.le_of_ble_eq_true rfl) (Nat.le_of_ble_eq_true rfl) dX5_init_8 rfl ?_
  refine r_putr (pc' := 13) (k := 5) (r := 6) C fl_X5_11 rfl (own_of rfl rfl) (by decide) kc_5 (by decide) fr_5_0 (fun _ => ⟨rfl, rfl⟩) dX5_init_10 rfl ?_
  refine r_aload_n (pc' := 14) C 0 rfl rfl dX5_init_13 rfl ?_
  refine r_bipush (pc' := 16) C dX5_init_14 (by decide) rfl ?_
  refine r_newI (pc' := 18) C wd_aint kc_7 rfl (fun j => ha 7 (by decide) j) (Nat.le_of_ble_eq_true rfl) (Nat.le_of_ble_eq_true rfl) dX5_init_16 rfl ?_
  refine r_putr (pc' := 21) (k := 5) (r := 7) C fl_X5_15 rfl (own_of rfl rfl) (by decide) kc_5 (by decide) fr_5_1 (fun _ => ⟨rfl, rfl⟩) dX5_init_18 rfl ?_
  refine r_aload_n (pc' := 22) C 0 rfl rfl dX5_init_21 rfl ?_
  refine r_bipush (pc' := 24) C dX5_init_22 (by decide) rfl ?_
  refine r_newI (pc' := 26) C wd_aint kc_8 rfl (fun j => ha 8 (by decide) j) (Nat.le_of_ble_eq_true rfl) (Nat.le_of_ble_eq_true rfl) dX5_init_24 rfl ?_
  refine r_putr (pc' := 29) (k := 5) (r := 8) C fl_X5_18 rfl (own_of rfl rfl) (by decide) kc_5 (by decide) fr_5_2 (fun _ => ⟨rfl, rfl⟩) dX5_init_26 rfl ?_
  refine r_aload_n (pc' := 30) C 0 rfl rfl dX5_init_29 rfl ?_
  refine r_bipush (pc' := 32) C dX5_init_30 (by decide) rfl ?_
  refine r_newI (pc' := 34) C wd_aint kc_9 rfl (fun j => ha 9 (by decide) j) (Nat.le_of_ble_eq_true rfl) (Nat.le_of_ble_eq_true rfl) dX5_init_32 rfl ?_
  refine r_putr (pc' := 37) (k := 5) (r := 9) C fl_X5_21 rfl (own_of rfl rfl) (by decide) kc_5 (by decide) fr_5_3 (fun _ => ⟨rfl, rfl⟩) dX5_init_34 rfl ?_
  refine r_aload_n (pc' := 38) C 0 rfl rfl dX5_init_37 rfl ?_
  refine r_bipush (pc' := 40) C dX5_init_38 (by decide) rfl ?_
  refine Wa.wide (ce' := 4) (sl' := 720) (Nat.le_of_ble_eq_true rfl) (Nat.le_of_ble_eq_true rfl) ?_
  have KL5 : LayK (upR (upR (upR (upR rv 5 0 7) 5 1 8) 5 2 9) 5 3 10) 10 := ⟨by decide, rfl, rfl, rfl, rfl⟩
  refine c_Vv (pc' := 43) (mt := mX5_begin) (as := [.int (i32 12)]) (st := []) (k := 5) C (s_X5_begin (e := e) (l := 12) KL5 (by decide)) rfl cl_X5_begin ml_X5_24 im_X5_begin sl_X5_begin (by omega) (Nat.le_refl _) (Nat.le_refl _) rfl (by decide) kc_5 (by decide) rfl rfl rfl (Nat.le_of_ble_eq_true rfl) dX5_init_40 rfl (fun r1 iv1 av1 hp => ?_)
  obtain ⟨rfl, rfl⟩ := hp
  refine r_iconst (pc' := 44) C dX5_init_43 rfl ?_
  refine r_istore_n (pc' := 45) (ls' := [(0, .ref (gl_b Y + 5)), (1, .int (i32 0))]) C (by decide) rfl rfl dX5_init_44 rfl ?_
  have lp : ∀ (m t : Nat) (av2 : IVt), t + m = 64 → Off [6] av1 av2 → (∀ i, av2 6 i = if i % 8 = 4 ∧ i < 8 * t then -2 else 0) → Wa Y X 2 (g_MQ Y X 0 (fun r rv' iv' av' n' => rv' = upR (upR (upR (upR rv 5 0 7) 5 1 8) 5 2 9) 5 3 10 ∧ iv' = up2 (up2 (up2 iv 5 4 12) 5 5 0) 5 6 0 ∧ (Off [6] av1 av' ∧ ∀ i, av' 6 i = if i % 8 = 4 ∧ i < 512 then -2 else 0) ∧ n' = 10) 4 720) 4 720 45 [(0, .ref (gl_b Y + 5)), (1, .int (i32 (t : Int)))] [] (upR (upR (upR (upR rv 5 0 7) 5 1 8) 5 2 9) 5 3 10) (up2 (up2 (up2 iv 5 4 12) 5 5 0) 5 6 0) av2 10 := by
    intro m
    induction m with
    | zero =>
      intro t av2 q1 q2 q3
      have et : t = 64 := by omega
      subst et
      refine r_iload_n (pc' := 46) C 1 rfl rfl dX5_init_45 rfl ?_
      refine r_bipush (pc' := 48) C dX5_init_46 (by decide) rfl ?_
      refine r_icmp_ge (pc' := 51) (tgt := 65) C (by decide) (by decide) dX5_init_48 (by decide) rfl (fun _ => ?_) (fun c => absurd (by decide) c)
      exact r_vret C ⟨rfl, rfl, ⟨q2, q3⟩, rfl⟩ dX5_init_65
    | succ m ih =>
      intro t av2 q1 q2 q3
      refine r_iload_n (pc' := 46) C 1 rfl rfl dX5_init_45 rfl ?_
      refine r_bipush (pc' := 48) C dX5_init_46 (by decide) rfl ?_
      refine r_icmp_ge (pc' := 51) (tgt := 65) C (by omega) (by decide) dX5_init_48 (by decide) rfl (fun c => absurd c (by omega)) (fun _ => ?_)
      refine r_aload_n (pc' := 52) C 0 rfl rfl dX5_init_51 rfl ?_
      refine r_iload_n (pc' := 53) C 1 rfl rfl dX5_init_52 rfl ?_
      refine r_iconst (pc' := 54) C dX5_init_53 rfl ?_
      refine r_bipush (pc' := 56) C dX5_init_54 (by decide) rfl ?_
      refine c_Vv (pc' := 59) (mt := mX5_note) (as := [.int (i32 (t : Int)), .int (i32 4), .int (i32 (-2))]) (st := []) (k := 5) C (s_X5_note (e := e) (f := t) (w := 4) (v := -2) KL5 (by omega) (by omega) (by omega)) rfl cl_X5_note ml_X5_28 im_X5_note sl_X5_note (by omega) (Nat.le_refl _) (Nat.le_refl _) rfl (by decide) kc_5 (by decide) rfl rfl rfl (Nat.le_of_ble_eq_true rfl) dX5_init_56 rfl (fun r2 iv3 av3 hp => ?_)
      obtain ⟨rfl, rfl⟩ := hp
      refine r_iinc (pc' := 62) (ls' := [(0, .ref (gl_b Y + 5)), (1, .int (i32 ((t : Int) + 1)))]) C 1 rfl (by decide) rfl dX5_init_59 rfl ?_
      refine r_goto (tgt := 45) C dX5_init_62 (by decide) ?_
      rw [show (t : Int) + 1 = ((t + 1 : Nat) : Int) by omega]
      refine ih (t + 1) _ (by omega) (q2.up (by decide)) fun i => ?_
      rw [up2_at, q3 i]
      split
      · rw [if_pos (by omega)]
      · split
        · rw [if_pos (by omega)]
        · rw [if_neg (by omega)]
  exact lp 64 0 av1 rfl (Off.rf _ _) (fun i => by rw [if_neg (by omega)]; exact ha 6 (by decide) i)
set_option maxHeartbeats 4000000 in
set_option maxRecDepth 100000 in
theorem k_X8_init (hr : ∀ k, 23 ≤ k → ∀ j, rv k j = 0) (hi : ∀ k, 23 ≤ k → ∀ j, iv k j = 0) (ha : ∀ k, 23 ≤ k → ∀ j, av k j = 0) : OkW Y (e + 2) 35 119788 mX8_init [.ref (gl_b Y + 22), .ref (gl_b Y + 12)] rv iv av 23 (fun r rv' iv' av' n' => rv' = RV8 rv ∧ iv' = up2 iv 23 2 1 ∧ (Off [47, 48, 51, 52] av av' ∧ (∀ s, s < 288 → av' 47 s = fxL s ∧ av' 48 s = trn (cd (av' 47) 288 s) (av' 47 s).toNat) ∧ ∀ s, s < 32 → av' 51 s = 5 ∧ av' 52 s = trn (cd (av' 51) 32 s) (av' 51 s).toNat) ∧ n' = 58) := by
  refine OkW.of rfl (by show _ ≤ 3; exact Nat.le_of_ble_eq_true rfl) fun X C0 hR => ?_
  have C : CX Y X RX8 "<init>" cX8_init 3 none (e + 2) 35 119788 := C0
  show Wa Y X 3 (g_MQ Y X 0 (fun r rv' iv' av' n' => rv' = RV8 rv ∧ iv' = up2 iv 23 2 1 ∧ (Off [47, 48, 51, 52] av av' ∧ (∀ s, s < 288 → av' 47 s = fxL s ∧ av' 48 s = trn (cd (av' 47) 288 s) (av' 47 s).toNat) ∧ ∀ s, s < 32 → av' 51 s = 5 ∧ av' 52 s = trn (cd (av' 51) 32 s) (av' 51 s).toNat) ∧ n' = 58) 35 119788) 0 0 0 [(0, .ref (gl_b Y + 22)), (1, .ref (gl_b Y + 12))] [] rv iv av 23
  refine r_aload_n (pc' := 1) C 0 rfl rfl dX8_init_0 rfl ?_
  refine r_objInit (pc' := 4) C ml_X8_3 wd_obj_i wd_obj_c (by omega) (Nat.le_of_ble_eq_true rfl) dX8_init_1 rfl ?_
  refine r_aload_n (pc' := 5) C 0 rfl rfl dX8_init_4 rfl ?_
  refine r_new (pc' := 8) C nw_X8_9 rfl kc_23 (by decide) (fun j => hr 23 (by decide) j) (fun j => hi 23 (by decide) j) (Nat.le_of_ble_eq_true rfl) (Nat.le_of_ble_eq_true rfl) dX8_init_5 rfl ?_
  refine r_dup (pc' := 9) C rfl dX8_init_8 rfl ?_
  refine r_callIN (k := 23) (as := []) (st := [.ref (gl_b Y + 23), .ref (gl_b Y + 22)]) C (k_X7_init (e := e) (fun k hk j => hr k (by omega) j) (fun k hk j => hi k (by omega) j) (fun k hk j => ha k (by omega) j)) cl_X7_init rfl nl_X8_11 im_X7_init (by omega) (Nat.le_of_ble_eq_true rfl) (Nat.le_of_ble_eq_true rfl) rfl rfl (Nat.le_of_ble_eq_true rfl) dX8_init_9 (fun r rv' iv' av' n' hp => ?_)
  obtain ⟨rfl, e1, e2, rfl⟩ := hp; rw [e1, e2]; clear e1 e2
  refine r_putr (pc' := 15) (k := 22) (r := 23) C fl_X8_12 rfl (own_of rfl rfl) (by decide) kc_22 (by decide) fr_8_1 (fun _ => ⟨rfl, rfl⟩) dX8_init_12 rfl ?_
  refine r_aload_n (pc' := 16) C 0 rfl rfl dX8_init_15 rfl ?_
  refine r_new (pc' := 19) C nw_X8_18 rfl kc_26 (by decide) (fun j => hr 26 (by decide) j) (fun j => hi 26 (by decide) j) (Nat.le_of_ble_eq_true rfl) (Nat.le_of_ble_eq_true rfl) dX8_init_16 rfl ?_
  refine r_dup (pc' := 20) C rfl dX8_init_19 rfl ?_
  refine r_callIN (k := 26) (as := []) (st := [.ref (gl_b Y + 26), .ref (gl_b Y + 22)]) C (k_X6_init (e := e) (fun k hk j => by rw [upR_ne (by omega), upR_ne (by omega), upR_ne (by omega)]; exact hr k (by omega) j) (fun k hk j => by rw [up2_ne (by omega)]; exact hi k (by omega) j) (fun k hk j => ha k (by omega) j)) cl_X6_init rfl nl_X8_20 im_X6_init (by omega) (Nat.le_of_ble_eq_true rfl) (Nat.le_of_ble_eq_true rfl) rfl rfl (Nat.le_of_ble_eq_true rfl) dX8_init_20 (fun r rv' iv' av' n' hp => ?_)
  obtain ⟨rfl, e1, e2, rfl⟩ := hp; rw [e1, e2]; clear e1 e2
  refine r_putr (pc' := 26) (k := 22) (r := 26) C fl_X8_21 rfl (own_of rfl rfl) (by decide) kc_22 (by decide) fr_8_2 (fun _ => ⟨rfl, rfl⟩) dX8_init_23 rfl ?_
  refine r_aload_n (pc' := 27) C 0 rfl rfl dX8_init_26 rfl ?_
  refine r_new (pc' := 30) C nw_X8_25 rfl kc_33 (by decide) (fun j => hr 33 (by decide) j) (fun j => hi 33 (by decide) j) (Nat.le_of_ble_eq_true rfl) (Nat.le_of_ble_eq_true rfl) dX8_init_27 rfl ?_
  refine r_dup (pc' := 31) C rfl dX8_init_30 rfl ?_
  refine r_sipush (pc' := 34) C dX8_init_31 (by decide) rfl ?_
  refine r_callI (k := 33) (as := [.int (i32 286)]) (st := [.ref (gl_b Y + 33), .ref (gl_b Y + 22)]) C (k_X3_init (e := e) (k := 33) kc_33 kc_34 kc_35 kc_36 rfl rfl rfl (fun j => ha 34 (by decide) j) (fun j => ha 35 (by decide) j) (fun j => ha 36 (by decide) j)) cl_X3_init rfl ml_X8_27 im_X3_init (by omega) (Nat.le_of_ble_eq_true rfl) (Nat.le_of_ble_eq_true rfl) rfl rfl (Nat.le_of_ble_eq_true rfl) dX8_init_34 (fun r rv' iv' av' n' hp => ?_)
  obtain ⟨rfl, e1, e2, rfl⟩ := hp; rw [e1, e2]; clear e1 e2
  refine r_putr (pc' := 40) (k := 22) (r := 33) C fl_X8_30 rfl (own_of rfl rfl) (by decide) kc_22 (by decide) fr_8_3 (fun _ => ⟨rfl, rfl⟩) dX8_init_37 rfl ?_
  refine r_aload_n (pc' := 41) C 0 rfl rfl dX8_init_40 rfl ?_
  refine r_new (pc' := 44) C nw_X8_25 rfl kc_37 (by decide) (fun j => hr 37 (by decide) j) (fun j => hi 37 (by decide) j) (Nat.le_of_ble_eq_true rfl) (Nat.le_of_ble_eq_true rfl) dX8_init_41 rfl ?_
  refine r_dup (pc' := 45) C rfl dX8_init_44 rfl ?_
  refine r_bipush (pc' := 47) C dX8_init_45 (by decide) rfl ?_
  refine r_callI (k := 37) (as := [.int (i32 30)]) (st := [.ref (gl_b Y + 37), .ref (gl_b Y + 22)]) C (k_X3_init (e := e) (k := 37) kc_37 kc_38 kc_39 kc_40 rfl rfl rfl (fun j => ha 38 (by decide) j) (fun j => ha 39 (by decide) j) (fun j => ha 40 (by decide) j)) cl_X3_init rfl ml_X8_27 im_X3_init (by omega) (Nat.le_of_ble_eq_true rfl) (Nat.le_of_ble_eq_true rfl) rfl rfl (Nat.le_of_ble_eq_true rfl) dX8_init_47 (fun r rv' iv' av' n' hp => ?_)
  obtain ⟨rfl, e1, e2, rfl⟩ := hp; rw [e1, e2]; clear e1 e2
  refine r_putr (pc' := 53) (k := 22) (r := 37) C fl_X8_34 rfl (own_of rfl rfl) (by decide) kc_22 (by decide) fr_8_4 (fun _ => ⟨rfl, rfl⟩) dX8_init_50 rfl ?_
  refine r_aload_n (pc' := 54) C 0 rfl rfl dX8_init_53 rfl ?_
  refine r_new (pc' := 57) C nw_X8_25 rfl kc_41 (by decide) (fun j => hr 41 (by decide) j) (fun j => hi 41 (by decide) j) (Nat.le_of_ble_eq_true rfl) (Nat.le_of_ble_eq_true rfl) dX8_init_54 rfl ?_
  refine r_dup (pc' := 58) C rfl dX8_init_57 rfl ?_
  refine r_bipush (pc' := 60) C dX8_init_58 (by decide) rfl ?_
  refine r_callI (k := 41) (as := [.int (i32 19)]) (st := [.ref (gl_b Y + 41), .ref (gl_b Y + 22)]) C (k_X3_init (e := e) (k := 41) kc_41 kc_42 kc_43 kc_44 rfl rfl rfl (fun j => ha 42 (by decide) j) (fun j => ha 43 (by decide) j) (fun j => ha 44 (by decide) j)) cl_X3_init rfl ml_X8_27 im_X3_init (by omega) (Nat.le_of_ble_eq_true rfl) (Nat.le_of_ble_eq_true rfl) rfl rfl (Nat.le_of_ble_eq_true rfl) dX8_init_60 (fun r rv' iv' av' n' hp => ?_)
  obtain ⟨rfl, e1, e2, rfl⟩ := hp; rw [e1, e2]; clear e1 e2
  refine r_putr (pc' := 66) (k := 22) (r := 41) C fl_X8_37 rfl (own_of rfl rfl) (by decide) kc_22 (by decide) fr_8_5 (fun _ => ⟨rfl, rfl⟩) dX8_init_63 rfl ?_
  refine r_aload_n (pc' := 67) C 0 rfl rfl dX8_init_66 rfl ?_
  refine r_new (pc' := 70) C nw_X8_25 rfl kc_45 (by decide) (fun j => hr 45 (by decide) j) (fun j => hi 45 (by decide) j) (Nat.le_of_ble_eq_true rfl) (Nat.le_of_ble_eq_true rfl) dX8_init_67 rfl ?_
  refine r_dup (pc' := 71) C rfl dX8_init_70 rfl ?_
  refine r_sipush (pc' := 74) C dX8_init_71 (by decide) rfl ?_
  refine r_callI (k := 45) (as := [.int (i32 288)]) (st := [.ref (gl_b Y + 45), .ref (gl_b Y + 22)]) C (k_X3_init (e := e) (k := 45) kc_45 kc_46 kc_47 kc_48 rfl rfl rfl (fun j => ha 46 (by decide) j) (fun j => ha 47 (by decide) j) (fun j => ha 48 (by decide) j)) cl_X3_init rfl ml_X8_27 im_X3_init (by omega) (Nat.le_of_ble_eq_true rfl) (Nat.le_of_ble_eq_true rfl) rfl rfl (Nat.le_of_ble_eq_true rfl) dX8_init_74 (fun r rv' iv' av' n' hp => ?_)
  obtain ⟨rfl, e1, e2, rfl⟩ := hp; rw [e1, e2]; clear e1 e2
  refine r_putr (pc' := 80) (k := 22) (r := 45) C fl_X8_40 rfl (own_of rfl rfl) (by decide) kc_22 (by decide) fr_8_6 (fun _ => ⟨rfl, rfl⟩) dX8_init_77 rfl ?_
  refine r_aload_n (pc' := 81) C 0 rfl rfl dX8_init_80 rfl ?_
  refine r_new (pc' := 84) C nw_X8_25 rfl kc_49 (by decide) (fun j => hr 49 (by decide) j) (fun j => hi 49 (by decide) j) (Nat.le_of_ble_eq_true rfl) (Nat.le_of_ble_eq_true rfl) dX8_init_81 rfl ?_
  refine r_dup (pc' := 85) C rfl dX8_init_84 rfl ?_
  refine r_bipush (pc' := 87) C dX8_init_85 (by decide) rfl ?_
  refine r_callI (k := 49) (as := [.int (i32 32)]) (st := [.ref (gl_b Y + 49), .ref (gl_b Y + 22)]) C (k_X3_init (e := e) (k := 49) kc_49 kc_50 kc_51 kc_52 rfl rfl rfl (fun j => ha 50 (by decide) j) (fun j => ha 51 (by decide) j) (fun j => ha 52 (by decide) j)) cl_X3_init rfl ml_X8_27 im_X3_init (by omega) (Nat.le_of_ble_eq_true rfl) (Nat.le_of_ble_eq_true rfl) rfl rfl (Nat.le_of_ble_eq_true rfl) dX8_init_87 (fun r rv' iv' av' n' hp => ?_)
  obtain ⟨rfl, e1, e2, rfl⟩ := hp; rw [e1, e2]; clear e1 e2
  refine r_putr (pc' := 93) (k := 22) (r := 49) C fl_X8_43 rfl (own_of rfl rfl) (by decide) kc_22 (by decide) fr_8_7 (fun _ => ⟨rfl, rfl⟩) dX8_init_90 rfl ?_
  refine r_aload_n (pc' := 94) C 0 rfl rfl dX8_init_93 rfl ?_
  refine r_sipush (pc' := 97) C dX8_init_94 (by decide) rfl ?_
  refine r_newI (pc' := 99) C wd_aint kc_53 rfl (fun j => ha 53 (by decide) j) (Nat.le_of_ble_eq_true rfl) (Nat.le_of_ble_eq_true rfl) dX8_init_97 rfl ?_
  refine r_putr (pc' := 102) (k := 22) (r := 53) C fl_X8_46 rfl (own_of rfl rfl) (by decide) kc_22 (by decide) fr_8_8 (fun _ => ⟨rfl, rfl⟩) dX8_init_99 rfl ?_
  refine r_aload_n (pc' := 103) C 0 rfl rfl dX8_init_102 rfl ?_
  refine r_sipush (pc' := 106) C dX8_init_103 (by decide) rfl ?_
  refine r_newI (pc' := 108) C wd_aint kc_54 rfl (fun j => ha 54 (by decide) j) (Nat.le_of_ble_eq_true rfl) (Nat.le_of_ble_eq_true rfl) dX8_init_106 rfl ?_
  refine r_putr (pc' := 111) (k := 22) (r := 54) C fl_X8_50 rfl (own_of rfl rfl) (by decide) kc_22 (by decide) fr_8_9 (fun _ => ⟨rfl, rfl⟩) dX8_init_108 rfl ?_
  refine r_aload_n (pc' := 112) C 0 rfl rfl dX8_init_111 rfl ?_
  refine r_sipush (pc' := 115) C dX8_init_112 (by decide) rfl ?_
  refine r_newI (pc' := 117) C wd_aint kc_55 rfl (fun j => ha 55 (by decide) j) (Nat.le_of_ble_eq_true rfl) (Nat.le_of_ble_eq_true rfl) dX8_init_115 rfl ?_
  refine r_putr (pc' := 120) (k := 22) (r := 55) C fl_X8_53 rfl (own_of rfl rfl) (by decide) kc_22 (by decide) fr_8_12 (fun _ => ⟨rfl, rfl⟩) dX8_init_117 rfl ?_
  refine r_aload_n (pc' := 121) C 0 rfl rfl dX8_init_120 rfl ?_
  refine r_sipush (pc' := 124) C dX8_init_121 (by decide) rfl ?_
  refine r_newI (pc' := 126) C wd_aint kc_56 rfl (fun j => ha 56 (by decide) j) (Nat.le_of_ble_eq_true rfl) (Nat.le_of_ble_eq_true rfl) dX8_init_124 rfl ?_
  refine r_putr (pc' := 129) (k := 22) (r := 56) C fl_X8_56 rfl (own_of rfl rfl) (by decide) kc_22 (by decide) fr_8_13 (fun _ => ⟨rfl, rfl⟩) dX8_init_126 rfl ?_
  refine r_aload_n (pc' := 130) C 0 rfl rfl dX8_init_129 rfl ?_
  refine r_new (pc' := 133) C nw_X8_59 rfl kc_57 (by decide) (fun j => hr 57 (by decide) j) (fun j => hi 57 (by decide) j) (Nat.le_of_ble_eq_true rfl) (Nat.le_of_ble_eq_true rfl) dX8_init_130 rfl ?_
  refine r_dup (pc' := 134) C rfl dX8_init_133 rfl ?_
  refine r_aload_n (pc' := 135) C 1 rfl rfl dX8_init_134 rfl ?_
  refine r_callI (k := 57) (as := [.ref (gl_b Y + 12)]) (st := [.ref (gl_b Y + 57), .ref (gl_b Y + 22)]) C (k_X0_init (e := e) (hi 57 (by decide) 1) (hi 57 (by decide) 2)) cl_X0_init rfl ml_X8_61 im_X0_init (by omega) (Nat.le_of_ble_eq_true rfl) (Nat.le_of_ble_eq_true rfl) rfl rfl (Nat.le_of_ble_eq_true rfl) dX8_init_135 (fun r rv' iv' av' n' hp => ?_)
  obtain ⟨rfl, e1, e2, rfl⟩ := hp; rw [e1, e2]; clear e1 e2
  refine r_putr (pc' := 141) (k := 22) (r := 57) C fl_X8_64 rfl (own_of rfl rfl) (by decide) kc_22 (by decide) fr_8_0 (fun _ => ⟨rfl, rfl⟩) dX8_init_138 rfl ?_
  refine Wa.wide (ce' := 35) (sl' := 119788) (Nat.le_of_ble_eq_true rfl) (Nat.le_of_ble_eq_true rfl) ?_
  have K45 : CodeK (RV8 rv) 58 45 := ⟨rfl, rfl, rfl, rfl, by decide, rfl, rfl, rfl⟩
  have K49 : CodeK (RV8 rv) 58 49 := ⟨rfl, rfl, rfl, rfl, by decide, rfl, rfl, rfl⟩
  have g6 : RV8 rv 22 6 = 45 + 1 := rfl
  have g7 : RV8 rv 22 7 = 49 + 1 := rfl
  have fin : ∀ av2 : IVt, Off [47, 51] av av2 → (∀ s, s < 288 → av2 47 s = fxL s) → (∀ s, s < 32 → av2 51 s = 5) → Wa Y X 3 (g_MQ Y X 0 (fun r rv' iv' av' n' => rv' = RV8 rv ∧ iv' = up2 iv 23 2 1 ∧ (Off [47, 48, 51, 52] av av' ∧ (∀ s, s < 288 → av' 47 s = fxL s ∧ av' 48 s = trn (cd (av' 47) 288 s) (av' 47 s).toNat) ∧ ∀ s, s < 32 → av' 51 s = 5 ∧ av' 52 s = trn (cd (av' 51) 32 s) (av' 51 s).toNat) ∧ n' = 58) 35 119788) 35 119788 191 [(0, .ref (gl_b Y + 22)), (1, .ref (gl_b Y + 12)), (2, .int (i32 ((32 : Nat) : Int)))] [] (RV8 rv) (up2 iv 23 2 1) av2 58 := by
    intro av2 q1 q2 q3
    refine r_aload_n (pc' := 192) C 0 rfl rfl dX8_init_191 rfl ?_
    refine r_getr (pc' := 195) (k := 22) (r := 45) C fl_X8_40 (by decide) kc_22 (by decide) fr_8_6 g6 dX8_init_192 rfl ?_
    refine c_Vv (pc' := 198) (mt := mX3_makeCodes) (as := []) (st := []) (k := 45) C (s_X3_makeCodes (e := e) K45 rfl (by decide)) rfl cl_X3_makeCodes ml_X8_76 im_X3_makeCodes sl_X3_makeCodes (by omega) (Nat.le_refl _) (Nat.le_refl _) rfl (by decide) kc_45 (by decide) rfl rfl rfl (Nat.le_of_ble_eq_true rfl) dX8_init_195 rfl (fun r3 iv3 av3 hp => ?_)
    obtain ⟨rfl, e3⟩ := hp
    refine r_aload_n (pc' := 199) C 0 rfl rfl dX8_init_198 rfl ?_
    refine r_getr (pc' := 202) (k := 22) (r := 49) C fl_X8_43 (by decide) kc_22 (by decide) fr_8_7 g7 dX8_init_199 rfl ?_
    refine c_Vv (pc' := 205) (mt := mX3_makeCodes) (as := []) (st := []) (k := 49) C (s_X3_makeCodes (e := e) K49 rfl (by decide)) rfl cl_X3_makeCodes ml_X8_76 im_X3_makeCodes sl_X3_makeCodes (by omega) (Nat.le_refl _) (Nat.le_refl _) rfl (by decide) kc_49 (by decide) rfl rfl rfl (Nat.le_of_ble_eq_true rfl) dX8_init_202 rfl (fun r4 iv4 av4 hp => ?_)
    obtain ⟨rfl, e4⟩ := hp
    have a47 : av4 47 = av2 47 := by rw [e4, e3]; rfl
    have a51 : av4 51 = av2 51 := by rw [e4, e3]; rfl
    have a48 : av4 48 = tcF (av2 47) (av2 48) 288 16 0 := by rw [e4, e3]; rfl
    have a52 : av4 52 = tcF (av2 51) (av2 52) 32 16 0 := by rw [e4, e3]; rfl
    refine r_vret C ⟨rfl, rfl, ⟨?_, fun s hs => ⟨?_, ?_⟩, fun s hs => ⟨?_, ?_⟩⟩, rfl⟩ dX8_init_205
    · rw [e4, e3]
      exact ((q1.mono (by decide)).upA (by decide)).upA (by decide)
    · rw [a47]
      exact q2 s hs
    · rw [a48, a47]
      have := fxL_ge s
      unfold tcF
      rw [if_pos ⟨hs, by rw [q2 s hs]; omega, Or.inl (by rw [q2 s hs]; have := fxL_le s; omega)⟩]
    · rw [a51]
      exact q3 s hs
    · rw [a52, a51]
      unfold tcF
      rw [if_pos ⟨hs, by rw [q3 s hs]; omega, Or.inl (by rw [q3 s hs]; omega)⟩]
  have l2 : ∀ (m t : Nat) (av2 : IVt), t + m = 32 → Off [47, 51] av av2 → (∀ s, s < 288 → av2 47 s = fxL s) → (∀ s, s < t → av2 51 s = 5) → Wa Y X 3 (g_MQ Y X 0 (fun r rv' iv' av' n' => rv' = RV8 rv ∧ iv' = up2 iv 23 2 1 ∧ (Off [47, 48, 51, 52] av av' ∧ (∀ s, s < 288 → av' 47 s = fxL s ∧ av' 48 s = trn (cd (av' 47) 288 s) (av' 47 s).toNat) ∧ ∀ s, s < 32 → av' 51 s = 5 ∧ av' 52 s = trn (cd (av' 51) 32 s) (av' 51 s).toNat) ∧ n' = 58) 35 119788) 35 119788 170 [(0, .ref (gl_b Y + 22)), (1, .ref (gl_b Y + 12)), (2, .int (i32 (t : Int)))] [] (RV8 rv) (up2 iv 23 2 1) av2 58 := by
    intro m
    induction m with
    | zero =>
      intro t av2 q1 q2 q3 q4
      have et : t = 32 := by omega
      subst et
      refine r_iload_n (pc' := 171) C 2 rfl rfl dX8_init_170 rfl ?_
      refine r_bipush (pc' := 173) C dX8_init_171 (by decide) rfl ?_
      exact r_icmp_ge (pc' := 176) (tgt := 191) C (by decide) (by decide) dX8_init_173 (by decide) rfl (fun _ => fin av2 q2 q3 q4) (fun c => absurd (by decide) c)
    | succ m ih =>
      intro t av2 q1 q2 q3 q4
      refine r_iload_n (pc' := 171) C 2 rfl rfl dX8_init_170 rfl ?_
      refine r_bipush (pc' := 173) C dX8_init_171 (by decide) rfl ?_
      refine r_icmp_ge (pc' := 176) (tgt := 191) C (by omega) (by decide) dX8_init_173 (by decide) rfl (fun c => absurd c (by omega)) (fun _ => ?_)
      refine r_aload_n (pc' := 177) C 0 rfl rfl dX8_init_176 rfl ?_
      refine r_getr (pc' := 180) (k := 22) (r := 49) C fl_X8_43 (by decide) kc_22 (by decide) fr_8_7 g7 dX8_init_177 rfl ?_
      refine r_iload_n (pc' := 181) C 2 rfl rfl dX8_init_180 rfl ?_
      refine r_iconst (pc' := 182) C dX8_init_181 rfl ?_
      refine c_Vv (pc' := 185) (mt := mX3_setLength) (as := [.int (i32 (t : Int)), .int (i32 5)]) (st := []) (k := 49) C (s_X3_setLength (e := e) (x := (t : Int)) (v := 5) K49 (by omega) (by decide) (by omega) (by show (t : Int) < 32; omega)) rfl cl_X3_setLength ml_X8_72 im_X3_setLength sl_X3_setLength (by omega) (Nat.le_refl _) (Nat.le_refl _) rfl (by decide) kc_49 (by decide) rfl rfl rfl (Nat.le_of_ble_eq_true rfl) dX8_init_182 rfl (fun r3 iv3 av3 hp => ?_)
      obtain ⟨rfl, rfl⟩ := hp
      refine r_iinc (pc' := 188) (ls' := [(0, .ref (gl_b Y + 22)), (1, .ref (gl_b Y + 12)), (2, .int (i32 ((t : Int) + 1)))]) C 2 rfl (by decide) rfl dX8_init_185 rfl ?_
      refine r_goto (tgt := 170) C dX8_init_188 (by decide) ?_
      rw [show (t : Int) + 1 = ((t + 1 : Nat) : Int) by omega, Int.toNat_natCast]
      refine ih (t + 1) _ (by omega) (q2.up (by decide)) (fun s hs => q3 s hs) fun s hs => ?_
      show (if s = t then (5 : Int) else av2 51 s) = 5
      split
      · rfl
      · exact q4 s (by omega)
  have l1 : ∀ (m t : Nat) (av2 : IVt), t + m = 288 → Off [47, 51] av av2 → (∀ s, s < t → av2 47 s = fxL s) → Wa Y X 3 (g_MQ Y X 0 (fun r rv' iv' av' n' => rv' = RV8 rv ∧ iv' = up2 iv 23 2 1 ∧ (Off [47, 48, 51, 52] av av' ∧ (∀ s, s < 288 → av' 47 s = fxL s ∧ av' 48 s = trn (cd (av' 47) 288 s) (av' 47 s).toNat) ∧ ∀ s, s < 32 → av' 51 s = 5 ∧ av' 52 s = trn (cd (av' 51) 32 s) (av' 51 s).toNat) ∧ n' = 58) 35 119788) 35 119788 143 [(0, .ref (gl_b Y + 22)), (1, .ref (gl_b Y + 12)), (2, .int (i32 (t : Int)))] [] (RV8 rv) (up2 iv 23 2 1) av2 58 := by
    intro m
    induction m with
    | zero =>
      intro t av2 q1 q2 q3
      have et : t = 288 := by omega
      subst et
      refine r_iload_n (pc' := 144) C 2 rfl rfl dX8_init_143 rfl ?_
      refine r_sipush (pc' := 147) C dX8_init_144 (by decide) rfl ?_
      refine r_icmp_ge (pc' := 150) (tgt := 168) C (by decide) (by decide) dX8_init_147 (by decide) rfl (fun _ => ?_) (fun c => absurd (by decide) c)
      refine r_iconst (pc' := 169) C dX8_init_168 rfl ?_
      refine r_istore_n (pc' := 170) (ls' := [(0, .ref (gl_b Y + 22)), (1, .ref (gl_b Y + 12)), (2, .int (i32 0))]) C (by decide) rfl rfl dX8_init_169 rfl ?_
      exact l2 32 0 av2 rfl q2 q3 (fun s hs => absurd hs (Nat.not_lt_zero _))
    | succ m ih =>
      intro t av2 q1 q2 q3
      refine r_iload_n (pc' := 144) C 2 rfl rfl dX8_init_143 rfl ?_
      refine r_sipush (pc' := 147) C dX8_init_144 (by decide) rfl ?_
      refine r_icmp_ge (pc' := 150) (tgt := 168) C (by omega) (by decide) dX8_init_147 (by decide) rfl (fun c => absurd c (by omega)) (fun _ => ?_)
      refine r_aload_n (pc' := 151) C 0 rfl rfl dX8_init_150 rfl ?_
      refine r_getr (pc' := 154) (k := 22) (r := 45) C fl_X8_40 (by decide) kc_22 (by decide) fr_8_6 g6 dX8_init_151 rfl ?_
      refine r_iload_n (pc' := 155) C 2 rfl rfl dX8_init_154 rfl ?_
      refine r_iload_n (pc' := 156) C 2 rfl rfl dX8_init_155 rfl ?_
      refine c_SNi (pc' := 159) (mt := mX11_fixedLength) (as := [.int (i32 (t : Int))]) (st := [.int (i32 (t : Int)), .ref (gl_b Y + 45)]) C (s_X11_fixedLength (e := e) (s := t) (by omega)) rfl cl_X11_fixedLength nl_X8_68 sm_X11_fixedLength (by omega) (Nat.le_refl _) (Nat.le_refl _) rfl rfl (Nat.le_of_ble_eq_true rfl) dX8_init_156 rfl (fun r2 iv2 av3 f2 hp => ?_)
      obtain ⟨rfl, rfl, rfl⟩ := hp
      refine c_Vv (pc' := 162) (mt := mX3_setLength) (as := [.int (i32 (t : Int)), .int (i32 (fxL t))]) (st := []) (k := 45) C (s_X3_setLength (e := e) (x := (t : Int)) (v := fxL t) K45 (by omega) (by have := fxL_le t; omega) (by omega) (by show (t : Int) < 288; omega)) rfl cl_X3_setLength ml_X8_72 im_X3_setLength sl_X3_setLength (by omega) (Nat.le_refl _) (Nat.le_refl _) rfl (by decide) kc_45 (by decide) rfl rfl rfl (Nat.le_of_ble_eq_true rfl) dX8_init_159 rfl (fun r3 iv3 av4 hp => ?_)
      obtain ⟨rfl, rfl⟩ := hp
      refine r_iinc (pc' := 165) (ls' := [(0, .ref (gl_b Y + 22)), (1, .ref (gl_b Y + 12)), (2, .int (i32 ((t : Int) + 1)))]) C 2 rfl (by decide) rfl dX8_init_162 rfl ?_
      refine r_goto (tgt := 143) C dX8_init_165 (by decide) ?_
      rw [show (t : Int) + 1 = ((t + 1 : Nat) : Int) by omega, Int.toNat_natCast]
      refine ih (t + 1) _ (by omega) (q2.up (by decide)) fun s hs => ?_
      show (if s = t then fxL t else av3 47 s) = fxL s
      by_cases hst : s = t
      · rw [if_pos hst, hst]
      · rw [if_neg hst]
        exact q3 s (by omega)
  refine r_iconst (pc' := 142) C dX8_init_141 rfl ?_
  refine r_istore_n (pc' := 143) (ls' := [(0, .ref (gl_b Y + 22)), (1, .ref (gl_b Y + 12)), (2, .int (i32 0))]) C (by decide) rfl rfl dX8_init_142 rfl ?_
  exact l1 288 0 av rfl (Off.rf _ _) (fun s hs => absurd hs (Nat.not_lt_zero _))
set_option maxHeartbeats 4000000 in
set_option maxRecDepth 100000 in
theorem k_X11_init (hr : ∀ k, 1 ≤ k → ∀ j, rv k j = 0) (hi : ∀ k, 1 ≤ k → ∀ j, iv k j = 0) (ha : ∀ k, 1 ≤ k → ∀ j, av k j = 0) (h0 : iv 0 10 = 0) : OkW Y (e + 3) 72 458811 mX11_init [.ref (gl_b Y + 0)] rv iv av 1 (fun r rv' iv' av' n' => rv' = RV11 rv ∧ iv' = up2 (up2 (up2 (up2 iv 5 4 12) 5 5 0) 5 6 0) 23 2 1 ∧ (Off [6, 47, 48, 51, 52] av av' ∧ (∀ i, av' 6 i = if i % 8 = 4 ∧ i < 512 then -2 else 0) ∧ (∀ s, s < 288 → av' 47 s = fxL s ∧ av' 48 s = trn (cd (av' 47) 288 s) (av' 47 s).toNat) ∧ ∀ s, s < 32 → av' 51 s = 5 ∧ av' 52 s = trn (cd (av' 51) 32 s) (av' 51 s).toNat) ∧ n' = 73) := by
  refine OkW.of rfl (by show _ ≤ 1; exact Nat.le_of_ble_eq_true rfl) fun X C0 hR => ?_
  have C : CX Y X RX11 "<init>" cX11_init 1 none (e + 3) 72 458811 := C0
  show Wa Y X 1 (g_MQ Y X 0 (fun r rv' iv' av' n' => rv' = RV11 rv ∧ iv' = up2 (up2 (up2 (up2 iv 5 4 12) 5 5 0) 5 6 0) 23 2 1 ∧ (Off [6, 47, 48, 51, 52] av av' ∧ (∀ i, av' 6 i = if i % 8 = 4 ∧ i < 512 then -2 else 0) ∧ (∀ s, s < 288 → av' 47 s = fxL s ∧ av' 48 s = trn (cd (av' 47) 288 s) (av' 47 s).toNat) ∧ ∀ s, s < 32 → av' 51 s = 5 ∧ av' 52 s = trn (cd (av' 51) 32 s) (av' 51 s).toNat) ∧ n' = 73) 72 458811) 0 0 0 [(0, .ref (gl_b Y + 0))] [] rv iv av 1
  refine r_aload_n (pc' := 1) C 0 rfl rfl dX11_init_0 rfl ?_
  refine r_objInit (pc' := 4) C ml_X11_1 wd_obj_i wd_obj_c (by omega) (Nat.le_of_ble_eq_true rfl) dX11_init_1 rfl ?_
  refine r_aload_n (pc' := 5) C 0 rfl rfl dX11_init_4 rfl ?_
  refine r_new (pc' := 8) C nw_X11_7 rfl kc_1 (by decide) (fun j => hr 1 (by decide) j) (fun j => hi 1 (by decide) j) (Nat.le_of_ble_eq_true rfl) (Nat.le_of_ble_eq_true rfl) dX11_init_5 rfl ?_
  refine r_dup (pc' := 9) C rfl dX11_init_8 rfl ?_
  refine r_callIN (k := 1) (as := []) (st := [.ref (gl_b Y + 1), .ref (gl_b Y + 0)]) C (k_X4_init (e := e) (fun k hk j => hr k (by omega) j) (fun k hk j => hi k (by omega) j) (fun k hk j => ha k (by omega) j)) cl_X4_init rfl nl_X11_9 im_X4_init (by omega) (Nat.le_of_ble_eq_true rfl) (Nat.le_of_ble_eq_true rfl) rfl rfl (Nat.le_of_ble_eq_true rfl) dX11_init_9 (fun r rv' iv' av' n' hp => ?_)
  obtain ⟨rfl, e1, e2, rfl⟩ := hp; rw [e1, e2]; clear e1 e2
  refine r_putr (pc' := 15) (k := 0) (r := 1) C fl_X11_10 rfl (own_of rfl rfl) (by decide) kc_0 (by decide) fr_11_0 (fun _ => ⟨rfl, rfl⟩) dX11_init_12 rfl ?_
  refine r_aload_n (pc' := 16) C 0 rfl rfl dX11_init_15 rfl ?_
  refine r_new (pc' := 19) C nw_X11_16 rfl kc_5 (by decide) (fun j => hr 5 (by decide) j) (fun j => hi 5 (by decide) j) (Nat.le_of_ble_eq_true rfl) (Nat.le_of_ble_eq_true rfl) dX11_init_16 rfl ?_
  refine r_dup (pc' := 20) C rfl dX11_init_19 rfl ?_
  refine r_callI (k := 5) (as := []) (st := [.ref (gl_b Y + 5), .ref (gl_b Y + 0)]) C (k_X5_init (e := e) (fun k hk j => by rw [upR_ne (by omega), upR_ne (by omega), upR_ne (by omega), upR_ne (by omega)]; exact hr k (by omega) j) (fun k hk j => hi k (by omega) j) (fun k hk j => ha k (by omega) j)) cl_X5_init rfl ml_X11_18 im_X5_init (by omega) (Nat.le_of_ble_eq_true rfl) (Nat.le_of_ble_eq_true rfl) rfl rfl (Nat.le_of_ble_eq_true rfl) dX11_init_20 (fun r rv' iv' avL n' hp => ?_)
  obtain ⟨rfl, rfl, ⟨o6, f6⟩, rfl⟩ := hp
  replace ha : ∀ k, 10 ≤ k → ∀ j, avL k j = 0 := fun k hk j => by rw [o6 k (by simp; omega)]; exact ha k (by omega) j
  refine r_putr (pc' := 26) (k := 0) (r := 5) C fl_X11_19 rfl (own_of rfl rfl) (by decide) kc_0 (by decide) fr_11_1 (fun _ => ⟨rfl, rfl⟩) dX11_init_23 rfl ?_
  refine r_aload_n (pc' := 27) C 0 rfl rfl dX11_init_26 rfl ?_
  refine r_new (pc' := 30) C nw_X11_23 rfl kc_10 (by decide) (fun j => hr 10 (by decide) j) (fun j => hi 10 (by decide) j) (Nat.le_of_ble_eq_true rfl) (Nat.le_of_ble_eq_true rfl) dX11_init_27 rfl ?_
  refine r_dup (pc' := 31) C rfl dX11_init_30 rfl ?_
  refine r_sipush (pc' := 34) C dX11_init_31 (by decide) rfl ?_
  refine r_callI (k := 10) (as := [.int (i32 1024)]) (st := [.ref (gl_b Y + 10), .ref (gl_b Y + 0)]) C (k_X2_init (e := e) (k := 10) kc_10 kc_11 rfl (fun j => ha 11 (by decide) j) (hi 10 (by decide) 1)) cl_X2_init rfl ml_X11_25 im_X2_init (by omega) (Nat.le_of_ble_eq_true rfl) (Nat.le_of_ble_eq_true rfl) rfl rfl (Nat.le_of_ble_eq_true rfl) dX11_init_34 (fun r rv' iv' av' n' hp => ?_)
  obtain ⟨rfl, e1, e2, rfl⟩ := hp; rw [e1, e2]; clear e1 e2
  refine r_putr (pc' := 40) (k := 0) (r := 10) C fl_X11_28 rfl (own_of rfl rfl) (by decide) kc_0 (by decide) fr_11_2 (fun _ => ⟨rfl, rfl⟩) dX11_init_37 rfl ?_
  refine r_aload_n (pc' := 41) C 0 rfl rfl dX11_init_40 rfl ?_
  refine r_new (pc' := 44) C nw_X11_23 rfl kc_12 (by decide) (fun j => hr 12 (by decide) j) (fun j => hi 12 (by decide) j) (Nat.le_of_ble_eq_true rfl) (Nat.le_of_ble_eq_true rfl) dX11_init_41 rfl ?_
  refine r_dup (pc' := 45) C rfl dX11_init_44 rfl ?_
  refine r_ldc (pc' := 47) (x := 131072) C ct_X11_32 (by decide) dX11_init_45 rfl ?_
  refine r_callI (k := 12) (as := [.int (i32 131072)]) (st := [.ref (gl_b Y + 12), .ref (gl_b Y + 0)]) C (k_X2_init (e := e) (k := 12) kc_12 kc_13 rfl (fun j => ha 13 (by decide) j) (hi 12 (by decide) 1)) cl_X2_init rfl ml_X11_25 im_X2_init (by omega) (Nat.le_of_ble_eq_true rfl) (Nat.le_of_ble_eq_true rfl) rfl rfl (Nat.le_of_ble_eq_true rfl) dX11_init_47 (fun r rv' iv' av' n' hp => ?_)
  obtain ⟨rfl, e1, e2, rfl⟩ := hp; rw [e1, e2]; clear e1 e2
  refine r_putr (pc' := 53) (k := 0) (r := 12) C fl_X11_33 rfl (own_of rfl rfl) (by decide) kc_0 (by decide) fr_11_3 (fun _ => ⟨rfl, rfl⟩) dX11_init_50 rfl ?_
  refine r_aload_n (pc' := 54) C 0 rfl rfl dX11_init_53 rfl ?_
  refine r_new (pc' := 57) C nw_X11_23 rfl kc_14 (by decide) (fun j => hr 14 (by decide) j) (fun j => hi 14 (by decide) j) (Nat.le_of_ble_eq_true rfl) (Nat.le_of_ble_eq_true rfl) dX11_init_54 rfl ?_
  refine r_dup (pc' := 58) C rfl dX11_init_57 rfl ?_
  refine r_ldc (pc' := 60) (x := 65536) C ct_X11_36 (by decide) dX11_init_58 rfl ?_
  refine r_callI (k := 14) (as := [.int (i32 65536)]) (st := [.ref (gl_b Y + 14), .ref (gl_b Y + 0)]) C (k_X2_init (e := e) (k := 14) kc_14 kc_15 rfl (fun j => ha 15 (by decide) j) (hi 14 (by decide) 1)) cl_X2_init rfl ml_X11_25 im_X2_init (by omega) (Nat.le_of_ble_eq_true rfl) (Nat.le_of_ble_eq_true rfl) rfl rfl (Nat.le_of_ble_eq_true rfl) dX11_init_60 (fun r rv' iv' av' n' hp => ?_)
  obtain ⟨rfl, e1, e2, rfl⟩ := hp; rw [e1, e2]; clear e1 e2
  refine r_putr (pc' := 66) (k := 0) (r := 14) C fl_X11_37 rfl (own_of rfl rfl) (by decide) kc_0 (by decide) fr_11_4 (fun _ => ⟨rfl, rfl⟩) dX11_init_63 rfl ?_
  refine r_aload_n (pc' := 67) C 0 rfl rfl dX11_init_66 rfl ?_
  refine r_new (pc' := 70) C nw_X11_23 rfl kc_16 (by decide) (fun j => hr 16 (by decide) j) (fun j => hi 16 (by decide) j) (Nat.le_of_ble_eq_true rfl) (Nat.le_of_ble_eq_true rfl) dX11_init_67 rfl ?_
  refine r_dup (pc' := 71) C rfl dX11_init_70 rfl ?_
  refine r_ldc (pc' := 73) (x := 65536) C ct_X11_36 (by decide) dX11_init_71 rfl ?_
  refine r_callI (k := 16) (as := [.int (i32 65536)]) (st := [.ref (gl_b Y + 16), .ref (gl_b Y + 0)]) C (k_X2_init (e := e) (k := 16) kc_16 kc_17 rfl (fun j => ha 17 (by decide) j) (hi 16 (by decide) 1)) cl_X2_init rfl ml_X11_25 im_X2_init (by omega) (Nat.le_of_ble_eq_true rfl) (Nat.le_of_ble_eq_true rfl) rfl rfl (Nat.le_of_ble_eq_true rfl) dX11_init_73 (fun r rv' iv' av' n' hp => ?_)
  obtain ⟨rfl, e1, e2, rfl⟩ := hp; rw [e1, e2]; clear e1 e2
  refine r_putr (pc' := 79) (k := 0) (r := 16) C fl_X11_40 rfl (own_of rfl rfl) (by decide) kc_0 (by decide) fr_11_5 (fun _ => ⟨rfl, rfl⟩) dX11_init_76 rfl ?_
  refine r_aload_n (pc' := 80) C 0 rfl rfl dX11_init_79 rfl ?_
  refine r_new (pc' := 83) C nw_X11_23 rfl kc_18 (by decide) (fun j => hr 18 (by decide) j) (fun j => hi 18 (by decide) j) (Nat.le_of_ble_eq_true rfl) (Nat.le_of_ble_eq_true rfl) dX11_init_80 rfl ?_
  refine r_dup (pc' := 84) C rfl dX11_init_83 rfl ?_
  refine r_sipush (pc' := 87) C dX11_init_84 (by decide) rfl ?_
  refine r_callI (k := 18) (as := [.int (i32 4096)]) (st := [.ref (gl_b Y + 18), .ref (gl_b Y + 0)]) C (k_X2_init (e := e) (k := 18) kc_18 kc_19 rfl (fun j => ha 19 (by decide) j) (hi 18 (by decide) 1)) cl_X2_init rfl ml_X11_25 im_X2_init (by omega) (Nat.le_of_ble_eq_true rfl) (Nat.le_of_ble_eq_true rfl) rfl rfl (Nat.le_of_ble_eq_true rfl) dX11_init_87 (fun r rv' iv' av' n' hp => ?_)
  obtain ⟨rfl, e1, e2, rfl⟩ := hp; rw [e1, e2]; clear e1 e2
  refine r_putr (pc' := 93) (k := 0) (r := 18) C fl_X11_43 rfl (own_of rfl rfl) (by decide) kc_0 (by decide) fr_11_6 (fun _ => ⟨rfl, rfl⟩) dX11_init_90 rfl ?_
  refine r_aload_n (pc' := 94) C 0 rfl rfl dX11_init_93 rfl ?_
  refine r_new (pc' := 97) C nw_X11_23 rfl kc_20 (by decide) (fun j => hr 20 (by decide) j) (fun j => hi 20 (by decide) j) (Nat.le_of_ble_eq_true rfl) (Nat.le_of_ble_eq_true rfl) dX11_init_94 rfl ?_
  refine r_dup (pc' := 98) C rfl dX11_init_97 rfl ?_
  refine r_sipush (pc' := 101) C dX11_init_98 (by decide) rfl ?_
  refine r_callI (k := 20) (as := [.int (i32 4096)]) (st := [.ref (gl_b Y + 20), .ref (gl_b Y + 0)]) C (k_X2_init (e := e) (k := 20) kc_20 kc_21 rfl (fun j => ha 21 (by decide) j) (hi 20 (by decide) 1)) cl_X2_init rfl ml_X11_25 im_X2_init (by omega) (Nat.le_of_ble_eq_true rfl) (Nat.le_of_ble_eq_true rfl) rfl rfl (Nat.le_of_ble_eq_true rfl) dX11_init_101 (fun r rv' iv' av' n' hp => ?_)
  obtain ⟨rfl, e1, e2, rfl⟩ := hp; rw [e1, e2]; clear e1 e2
  refine r_putr (pc' := 107) (k := 0) (r := 20) C fl_X11_46 rfl (own_of rfl rfl) (by decide) kc_0 (by decide) fr_11_7 (fun _ => ⟨rfl, rfl⟩) dX11_init_104 rfl ?_
  refine r_aload_n (pc' := 108) C 0 rfl rfl dX11_init_107 rfl ?_
  refine r_new (pc' := 111) C nw_X11_49 rfl kc_22 (by decide) (fun j => hr 22 (by decide) j) (fun j => hi 22 (by decide) j) (Nat.le_of_ble_eq_true rfl) (Nat.le_of_ble_eq_true rfl) dX11_init_108 rfl ?_
  refine r_dup (pc' := 112) C rfl dX11_init_111 rfl ?_
  refine r_aload_n (pc' := 113) C 0 rfl rfl dX11_init_112 rfl ?_
  refine r_getr (pc' := 116) (k := 0) (r := 12) C fl_X11_33 (by decide) kc_0 (by decide) fr_11_3 rfl dX11_init_113 rfl ?_
  refine r_callI (k := 22) (as := [.ref (gl_b Y + 12)]) (st := [.ref (gl_b Y + 22), .ref (gl_b Y + 0)]) C (k_X8_init (e := e) (fun k hk j => by rw [upR_ne (by omega), upR_ne (by omega), upR_ne (by omega), upR_ne (by omega), upR_ne (by omega), upR_ne (by omega), upR_ne (by omega), upR_ne (by omega), upR_ne (by omega), upR_ne (by omega), upR_ne (by omega), upR_ne (by omega), upR_ne (by omega), upR_ne (by omega), upR_ne (by omega), upR_ne (by omega), upR_ne (by omega), upR_ne (by omega), upR_ne (by omega), upR_ne (by omega), upR_ne (by omega)]; exact hr k (by omega) j) (fun k hk j => by rw [up2_ne (by omega), up2_ne (by omega), up2_ne (by omega)]; exact hi k (by omega) j) (fun k hk j => ha k (by omega) j)) cl_X8_init rfl ml_X11_51 im_X8_init (by omega) (Nat.le_of_ble_eq_true rfl) (Nat.le_of_ble_eq_true rfl) rfl rfl (Nat.le_of_ble_eq_true rfl) dX11_init_116 (fun r rv' iv' avP n' hp => ?_)
  obtain ⟨rfl, rfl, ⟨o8, f8, g8⟩, rfl⟩ := hp
  replace ha : ∀ k, 58 ≤ k → ∀ j, avP k j = 0 := fun k hk j => by rw [o8 k (by simp; omega)]; exact ha k (by omega) j
  refine r_putr (pc' := 122) (k := 0) (r := 22) C fl_X11_54 rfl (own_of rfl rfl) (by decide) kc_0 (by decide) fr_11_8 (fun _ => ⟨rfl, rfl⟩) dX11_init_119 rfl ?_
  refine r_aload_n (pc' := 123) C 0 rfl rfl dX11_init_122 rfl ?_
  refine r_new (pc' := 126) C nw_X11_58 rfl kc_58 (by decide) (fun j => hr 58 (by decide) j) (fun j => hi 58 (by decide) j) (Nat.le_of_ble_eq_true rfl) (Nat.le_of_ble_eq_true rfl) dX11_init_123 rfl ?_
  refine r_dup (pc' := 127) C rfl dX11_init_126 rfl ?_
  refine r_aload_n (pc' := 128) C 0 rfl rfl dX11_init_127 rfl ?_
  refine r_getr (pc' := 131) (k := 0) (r := 12) C fl_X11_33 (by decide) kc_0 (by decide) fr_11_3 rfl dX11_init_128 rfl ?_
  refine r_aload_n (pc' := 132) C 0 rfl rfl dX11_init_131 rfl ?_
  refine r_getr (pc' := 135) (k := 0) (r := 16) C fl_X11_40 (by decide) kc_0 (by decide) fr_11_5 rfl dX11_init_132 rfl ?_
  refine r_callI (k := 58) (as := [.ref (gl_b Y + 12), .ref (gl_b Y + 16)]) (st := [.ref (gl_b Y + 58), .ref (gl_b Y + 0)]) C (k_X10_init (e := e) (fun k hk j => by rw [upR_ne (by omega)]; unfold RV8; rw [upR_ne (by omega), upR_ne (by omega), upR_ne (by omega), upR_ne (by omega), upR_ne (by omega), upR_ne (by omega), upR_ne (by omega), upR_ne (by omega), upR_ne (by omega), upR_ne (by omega), upR_ne (by omega), upR_ne (by omega), upR_ne (by omega), upR_ne (by omega), upR_ne (by omega), upR_ne (by omega), upR_ne (by omega), upR_ne (by omega), upR_ne (by omega), upR_ne (by omega), upR_ne (by omega), upR_ne (by omega), upR_ne (by omega), upR_ne (by omega), upR_ne (by omega), upR_ne (by omega), upR_ne (by omega), upR_ne (by omega), upR_ne (by omega), upR_ne (by omega), upR_ne (by omega), upR_ne (by omega), upR_ne (by omega), upR_ne (by omega), upR_ne (by omega), upR_ne (by omega), upR_ne (by omega), upR_ne (by omega), upR_ne (by omega), upR_ne (by omega), upR_ne (by omega), upR_ne (by omega), upR_ne (by omega), upR_ne (by omega), upR_ne (by omega), upR_ne (by omega), upR_ne (by omega), upR_ne (by omega), upR_ne (by omega), upR_ne (by omega), upR_ne (by omega), upR_ne (by omega), upR_ne (by omega), upR_ne (by omega), upR_ne (by omega), upR_ne (by omega), upR_ne (by omega)]; exact hr k (by omega) j) (fun k hk j => by rw [up2_ne (by omega), up2_ne (by omega), up2_ne (by omega), up2_ne (by omega)]; exact hi k (by omega) j) (fun k hk j => ha k (by omega) j)) cl_X10_init rfl ml_X11_60 im_X10_init (by omega) (Nat.le_of_ble_eq_true rfl) (Nat.le_of_ble_eq_true rfl) rfl rfl (Nat.le_of_ble_eq_true rfl) dX11_init_135 (fun r rv' iv' av' n' hp => ?_)
  obtain ⟨rfl, e1, e2, rfl⟩ := hp; rw [e1, e2]; clear e1 e2
  refine r_putr (pc' := 141) (k := 0) (r := 58) C fl_X11_63 rfl (own_of rfl rfl) (by decide) kc_0 (by decide) fr_11_9 (fun _ => ⟨rfl, rfl⟩) dX11_init_138 rfl ?_
  refine r_aload_n (pc' := 142) C 0 rfl rfl dX11_init_141 rfl ?_
  refine r_iconst (pc' := 143) C dX11_init_142 rfl ?_
  refine r_puti (pc' := 146) (k := 0) C fl_X11_67 (by decide) kc_0 (by decide) fr_11_10 (by decide) dX11_init_143 rfl ?_
  refine Wa.wide (ce' := 72) (sl' := 458811) (Nat.le_of_ble_eq_true rfl) (Nat.le_of_ble_eq_true rfl) ?_
  refine r_vret C ⟨rfl, up2_z (show _ = (0 : Int) from h0), ⟨(o6.mono (by decide)).tr (o8.mono (by decide)), fun i => ?_, f8, g8⟩, rfl⟩ dX11_init_146
  rw [o8 6 (by decide)]
  exact f6 i
set_option maxHeartbeats 4000000 in
set_option maxRecDepth 100000 in
theorem k_X13_init (hr : ∀ k, 74 ≤ k → ∀ j, rv k j = 0) (hi : ∀ k, 74 ≤ k → ∀ j, iv k j = 0) (ha : ∀ k, 74 ≤ k → ∀ j, av k j = 0) : OkW Y (e + 2) 42 560041 mX13_init [.ref (gl_b Y + 73)] rv iv av 74 (fun r rv' iv' av' n' => rv' = RV13 rv ∧ iv' = up2 iv 73 6 4096 ∧ (Off [82] av av' ∧ ∀ f, f < 64 → av' 82 f = -2) ∧ n' = 116) := by
  refine OkW.of rfl (by show _ ≤ 2; exact Nat.le_of_ble_eq_true rfl) fun X C0 hR => ?_
  have C : CX Y X RX13 "<init>" cX13_init 2 none (e + 2) 42 560041 := C0
  show Wa Y X 2 (g_MQ Y X 0 (fun r rv' iv' av' n' => rv' = RV13 rv ∧ iv' = up2 iv 73 6 4096 ∧ (Off [82] av av' ∧ ∀ f, f < 64 → av' 82 f = -2) ∧ n' = 116) 42 560041) 0 0 0 [(0, .ref (gl_b Y + 73))] [] rv iv av 74
  refine r_aload_n (pc' := 1) C 0 rfl rfl dX13_init_0 rfl ?_
  refine r_objInit (pc' := 4) C ml_X13_1 wd_obj_i wd_obj_c (by omega) (Nat.le_of_ble_eq_true rfl) dX13_init_1 rfl ?_
  refine r_aload_n (pc' := 5) C 0 rfl rfl dX13_init_4 rfl ?_
  refine r_sipush (pc' := 8) C dX13_init_5 (by decide) rfl ?_
  refine r_newB (pc' := 10) C wd_abyte kc_74 rfl (fun j => ha 74 (by decide) j) (Nat.le_of_ble_eq_true rfl) (Nat.le_of_ble_eq_true rfl) dX13_init_8 rfl ?_
  refine r_putr (pc' := 13) (k := 73) (r := 74) C fl_X13_9 rfl (own_of rfl rfl) (by decide) kc_73 (by decide) fr_13_1 (fun _ => ⟨rfl, rfl⟩) dX13_init_10 rfl ?_
  refine r_aload_n (pc' := 14) C 0 rfl rfl dX13_init_13 rfl ?_
  refine r_bipush (pc' := 16) C dX13_init_14 (by decide) rfl ?_
  refine r_newI (pc' := 18) C wd_aint kc_75 rfl (fun j => ha 75 (by decide) j) (Nat.le_of_ble_eq_true rfl) (Nat.le_of_ble_eq_true rfl) dX13_init_16 rfl ?_
  refine r_putr (pc' := 21) (k := 73) (r := 75) C fl_X13_13 rfl (own_of rfl rfl) (by decide) kc_73 (by decide) fr_13_2 (fun _ => ⟨rfl, rfl⟩) dX13_init_18 rfl ?_
  refine r_aload_n (pc' := 22) C 0 rfl rfl dX13_init_21 rfl ?_
  refine r_bipush (pc' := 24) C dX13_init_22 (by decide) rfl ?_
  refine r_newI (pc' := 26) C wd_aint kc_76 rfl (fun j => ha 76 (by decide) j) (Nat.le_of_ble_eq_true rfl) (Nat.le_of_ble_eq_true rfl) dX13_init_24 rfl ?_
  refine r_putr (pc' := 29) (k := 73) (r := 76) C fl_X13_17 rfl (own_of rfl rfl) (by decide) kc_73 (by decide) fr_13_3 (fun _ => ⟨rfl, rfl⟩) dX13_init_26 rfl ?_
  refine r_aload_n (pc' := 30) C 0 rfl rfl dX13_init_29 rfl ?_
  refine r_ldc (pc' := 32) (x := 65536) C ct_X13_20 (by decide) dX13_init_30 rfl ?_
  refine r_newB (pc' := 34) C wd_abyte kc_77 rfl (fun j => ha 77 (by decide) j) (Nat.le_of_ble_eq_true rfl) (Nat.le_of_ble_eq_true rfl) dX13_init_32 rfl ?_
  refine r_putr (pc' := 37) (k := 73) (r := 77) C fl_X13_21 rfl (own_of rfl rfl) (by decide) kc_73 (by decide) fr_13_4 (fun _ => ⟨rfl, rfl⟩) dX13_init_34 rfl ?_
  refine r_aload_n (pc' := 38) C 0 rfl rfl dX13_init_37 rfl ?_
  refine r_sipush (pc' := 41) C dX13_init_38 (by decide) rfl ?_
  refine r_puti (pc' := 44) (k := 73) C fl_X13_24 (by decide) kc_73 (by decide) fr_13_6 (by decide) dX13_init_41 rfl ?_
  refine r_aload_n (pc' := 45) C 0 rfl rfl dX13_init_44 rfl ?_
  refine r_bipush (pc' := 47) C dX13_init_45 (by decide) rfl ?_
  refine r_newI (pc' := 49) C wd_aint kc_78 rfl (fun j => ha 78 (by decide) j) (Nat.le_of_ble_eq_true rfl) (Nat.le_of_ble_eq_true rfl) dX13_init_47 rfl ?_
  refine r_putr (pc' := 52) (k := 73) (r := 78) C fl_X13_28 rfl (own_of rfl rfl) (by decide) kc_73 (by decide) fr_13_9 (fun _ => ⟨rfl, rfl⟩) dX13_init_49 rfl ?_
  refine r_aload_n (pc' := 53) C 0 rfl rfl dX13_init_52 rfl ?_
  refine r_bipush (pc' := 55) C dX13_init_53 (by decide) rfl ?_
  refine r_newI (pc' := 57) C wd_aint kc_79 rfl (fun j => ha 79 (by decide) j) (Nat.le_of_ble_eq_true rfl) (Nat.le_of_ble_eq_true rfl) dX13_init_55 rfl ?_
  refine r_putr (pc' := 60) (k := 73) (r := 79) C fl_X13_31 rfl (own_of rfl rfl) (by decide) kc_73 (by decide) fr_13_10 (fun _ => ⟨rfl, rfl⟩) dX13_init_57 rfl ?_
  refine r_aload_n (pc' := 61) C 0 rfl rfl dX13_init_60 rfl ?_
  refine r_bipush (pc' := 63) C dX13_init_61 (by decide) rfl ?_
  refine r_newI (pc' := 65) C wd_aint kc_80 rfl (fun j => ha 80 (by decide) j) (Nat.le_of_ble_eq_true rfl) (Nat.le_of_ble_eq_true rfl) dX13_init_63 rfl ?_
  refine r_putr (pc' := 68) (k := 73) (r := 80) C fl_X13_34 rfl (own_of rfl rfl) (by decide) kc_73 (by decide) fr_13_11 (fun _ => ⟨rfl, rfl⟩) dX13_init_65 rfl ?_
  refine r_aload_n (pc' := 69) C 0 rfl rfl dX13_init_68 rfl ?_
  refine r_bipush (pc' := 71) C dX13_init_69 (by decide) rfl ?_
  refine r_newI (pc' := 73) C wd_aint kc_81 rfl (fun j => ha 81 (by decide) j) (Nat.le_of_ble_eq_true rfl) (Nat.le_of_ble_eq_true rfl) dX13_init_71 rfl ?_
  refine r_putr (pc' := 76) (k := 73) (r := 81) C fl_X13_37 rfl (own_of rfl rfl) (by decide) kc_73 (by decide) fr_13_12 (fun _ => ⟨rfl, rfl⟩) dX13_init_73 rfl ?_
  refine r_aload_n (pc' := 77) C 0 rfl rfl dX13_init_76 rfl ?_
  refine r_bipush (pc' := 79) C dX13_init_77 (by decide) rfl ?_
  refine r_newI (pc' := 81) C wd_aint kc_82 rfl (fun j => ha 82 (by decide) j) (Nat.le_of_ble_eq_true rfl) (Nat.le_of_ble_eq_true rfl) dX13_init_79 rfl ?_
  refine r_putr (pc' := 84) (k := 73) (r := 82) C fl_X13_40 rfl (own_of rfl rfl) (by decide) kc_73 (by decide) fr_13_13 (fun _ => ⟨rfl, rfl⟩) dX13_init_81 rfl ?_
  refine r_aload_n (pc' := 85) C 0 rfl rfl dX13_init_84 rfl ?_
  refine r_bipush (pc' := 87) C dX13_init_85 (by decide) rfl ?_
  refine r_newI (pc' := 89) C wd_aint kc_83 rfl (fun j => ha 83 (by decide) j) (Nat.le_of_ble_eq_true rfl) (Nat.le_of_ble_eq_true rfl) dX13_init_87 rfl ?_
  refine r_putr (pc' := 92) (k := 73) (r := 83) C fl_X13_43 rfl (own_of rfl rfl) (by decide) kc_73 (by decide) fr_13_14 (fun _ => ⟨rfl, rfl⟩) dX13_init_89 rfl ?_
  refine r_aload_n (pc' := 93) C 0 rfl rfl dX13_init_92 rfl ?_
  refine r_bipush (pc' := 95) C dX13_init_93 (by decide) rfl ?_
  refine r_newI (pc' := 97) C wd_aint kc_84 rfl (fun j => ha 84 (by decide) j) (Nat.le_of_ble_eq_true rfl) (Nat.le_of_ble_eq_true rfl) dX13_init_95 rfl ?_
  refine r_putr (pc' := 100) (k := 73) (r := 84) C fl_X13_46 rfl (own_of rfl rfl) (by decide) kc_73 (by decide) fr_13_15 (fun _ => ⟨rfl, rfl⟩) dX13_init_97 rfl ?_
  refine r_aload_n (pc' := 101) C 0 rfl rfl dX13_init_100 rfl ?_
  refine r_sipush (pc' := 104) C dX13_init_101 (by decide) rfl ?_
  refine r_newI (pc' := 106) C wd_aint kc_85 rfl (fun j => ha 85 (by decide) j) (Nat.le_of_ble_eq_true rfl) (Nat.le_of_ble_eq_true rfl) dX13_init_104 rfl ?_
  refine r_putr (pc' := 109) (k := 73) (r := 85) C fl_X13_49 rfl (own_of rfl rfl) (by decide) kc_73 (by decide) fr_13_17 (fun _ => ⟨rfl, rfl⟩) dX13_init_106 rfl ?_
  refine r_aload_n (pc' := 110) C 0 rfl rfl dX13_init_109 rfl ?_
  refine r_bipush (pc' := 112) C dX13_init_110 (by decide) rfl ?_
  refine r_newI (pc' := 114) C wd_aint kc_86 rfl (fun j => ha 86 (by decide) j) (Nat.le_of_ble_eq_true rfl) (Nat.le_of_ble_eq_true rfl) dX13_init_112 rfl ?_
  refine r_putr (pc' := 117) (k := 73) (r := 86) C fl_X13_52 rfl (own_of rfl rfl) (by decide) kc_73 (by decide) fr_13_19 (fun _ => ⟨rfl, rfl⟩) dX13_init_114 rfl ?_
  refine r_aload_n (pc' := 118) C 0 rfl rfl dX13_init_117 rfl ?_
  refine r_bipush (pc' := 120) C dX13_init_118 (by decide) rfl ?_
  refine r_newI (pc' := 122) C wd_aint kc_87 rfl (fun j => ha 87 (by decide) j) (Nat.le_of_ble_eq_true rfl) (Nat.le_of_ble_eq_true rfl) dX13_init_120 rfl ?_
  refine r_putr (pc' := 125) (k := 73) (r := 87) C fl_X13_55 rfl (own_of rfl rfl) (by decide) kc_73 (by decide) fr_13_20 (fun _ => ⟨rfl, rfl⟩) dX13_init_122 rfl ?_
  refine r_aload_n (pc' := 126) C 0 rfl rfl dX13_init_125 rfl ?_
  refine r_ldc (pc' := 128) (x := 65536) C ct_X13_20 (by decide) dX13_init_126 rfl ?_
  refine r_newB (pc' := 130) C wd_abyte kc_88 rfl (fun j => ha 88 (by decide) j) (Nat.le_of_ble_eq_true rfl) (Nat.le_of_ble_eq_true rfl) dX13_init_128 rfl ?_
  refine r_putr (pc' := 133) (k := 73) (r := 88) C fl_X13_58 rfl (own_of rfl rfl) (by decide) kc_73 (by decide) fr_13_21 (fun _ => ⟨rfl, rfl⟩) dX13_init_130 rfl ?_
  refine r_aload_n (pc' := 134) C 0 rfl rfl dX13_init_133 rfl ?_
  refine r_ldc (pc' := 136) (x := 131072) C ct_X13_61 (by decide) dX13_init_134 rfl ?_
  refine r_newB (pc' := 138) C wd_abyte kc_89 rfl (fun j => ha 89 (by decide) j) (Nat.le_of_ble_eq_true rfl) (Nat.le_of_ble_eq_true rfl) dX13_init_136 rfl ?_
  refine r_putr (pc' := 141) (k := 73) (r := 89) C fl_X13_62 rfl (own_of rfl rfl) (by decide) kc_73 (by decide) fr_13_24 (fun _ => ⟨rfl, rfl⟩) dX13_init_138 rfl ?_
  refine r_aload_n (pc' := 142) C 0 rfl rfl dX13_init_141 rfl ?_
  refine r_sipush (pc' := 145) C dX13_init_142 (by decide) rfl ?_
  refine r_newB (pc' := 147) C wd_abyte kc_90 rfl (fun j => ha 90 (by decide) j) (Nat.le_of_ble_eq_true rfl) (Nat.le_of_ble_eq_true rfl) dX13_init_145 rfl ?_
  refine r_putr (pc' := 150) (k := 73) (r := 90) C fl_X13_65 rfl (own_of rfl rfl) (by decide) kc_73 (by decide) fr_13_26 (fun _ => ⟨rfl, rfl⟩) dX13_init_147 rfl ?_
  refine r_aload_n (pc' := 151) C 0 rfl rfl dX13_init_150 rfl ?_
  refine r_sipush (pc' := 154) C dX13_init_151 (by decide) rfl ?_
  refine r_newB (pc' := 156) C wd_abyte kc_91 rfl (fun j => ha 91 (by decide) j) (Nat.le_of_ble_eq_true rfl) (Nat.le_of_ble_eq_true rfl) dX13_init_154 rfl ?_
  refine r_putr (pc' := 159) (k := 73) (r := 91) C fl_X13_68 rfl (own_of rfl rfl) (by decide) kc_73 (by decide) fr_13_27 (fun _ => ⟨rfl, rfl⟩) dX13_init_156 rfl ?_
  refine r_aload_n (pc' := 160) C 0 rfl rfl dX13_init_159 rfl ?_
  refine r_ldc (pc' := 162) (x := 65536) C ct_X13_20 (by decide) dX13_init_160 rfl ?_
  refine r_newB (pc' := 164) C wd_abyte kc_92 rfl (fun j => ha 92 (by decide) j) (Nat.le_of_ble_eq_true rfl) (Nat.le_of_ble_eq_true rfl) dX13_init_162 rfl ?_
  refine r_putr (pc' := 167) (k := 73) (r := 92) C fl_X13_71 rfl (own_of rfl rfl) (by decide) kc_73 (by decide) fr_13_29 (fun _ => ⟨rfl, rfl⟩) dX13_init_164 rfl ?_
  refine r_aload_n (pc' := 168) C 0 rfl rfl dX13_init_167 rfl ?_
  refine r_ldc (pc' := 170) (x := 66000) C ct_X13_74 (by decide) dX13_init_168 rfl ?_
  refine r_newB (pc' := 172) C wd_abyte kc_93 rfl (fun j => ha 93 (by decide) j) (Nat.le_of_ble_eq_true rfl) (Nat.le_of_ble_eq_true rfl) dX13_init_170 rfl ?_
  refine r_putr (pc' := 175) (k := 73) (r := 93) C fl_X13_75 rfl (own_of rfl rfl) (by decide) kc_73 (by decide) fr_13_30 (fun _ => ⟨rfl, rfl⟩) dX13_init_172 rfl ?_
  refine r_aload_n (pc' := 176) C 0 rfl rfl dX13_init_175 rfl ?_
  refine r_ldc (pc' := 178) (x := 65536) C ct_X13_20 (by decide) dX13_init_176 rfl ?_
  refine r_newI (pc' := 180) C wd_aint kc_94 rfl (fun j => ha 94 (by decide) j) (Nat.le_of_ble_eq_true rfl) (Nat.le_of_ble_eq_true rfl) dX13_init_178 rfl ?_
  refine r_putr (pc' := 183) (k := 73) (r := 94) C fl_X13_78 rfl (own_of rfl rfl) (by decide) kc_73 (by decide) fr_13_32 (fun _ => ⟨rfl, rfl⟩) dX13_init_180 rfl ?_
  refine r_aload_n (pc' := 184) C 0 rfl rfl dX13_init_183 rfl ?_
  refine r_ldc (pc' := 186) (x := 65536) C ct_X13_20 (by decide) dX13_init_184 rfl ?_
  refine r_newI (pc' := 188) C wd_aint kc_95 rfl (fun j => ha 95 (by decide) j) (Nat.le_of_ble_eq_true rfl) (Nat.le_of_ble_eq_true rfl) dX13_init_186 rfl ?_
  refine r_putr (pc' := 191) (k := 73) (r := 95) C fl_X13_81 rfl (own_of rfl rfl) (by decide) kc_73 (by decide) fr_13_33 (fun _ => ⟨rfl, rfl⟩) dX13_init_188 rfl ?_
  refine r_aload_n (pc' := 192) C 0 rfl rfl dX13_init_191 rfl ?_
  refine r_sipush (pc' := 195) C dX13_init_192 (by decide) rfl ?_
  refine r_newI (pc' := 197) C wd_aint kc_96 rfl (fun j => ha 96 (by decide) j) (Nat.le_of_ble_eq_true rfl) (Nat.le_of_ble_eq_true rfl) dX13_init_195 rfl ?_
  refine r_putr (pc' := 200) (k := 73) (r := 96) C fl_X13_84 rfl (own_of rfl rfl) (by decide) kc_73 (by decide) fr_13_35 (fun _ => ⟨rfl, rfl⟩) dX13_init_197 rfl ?_
  refine r_aload_n (pc' := 201) C 0 rfl rfl dX13_init_200 rfl ?_
  refine r_sipush (pc' := 204) C dX13_init_201 (by decide) rfl ?_
  refine r_newI (pc' := 206) C wd_aint kc_97 rfl (fun j => ha 97 (by decide) j) (Nat.le_of_ble_eq_true rfl) (Nat.le_of_ble_eq_true rfl) dX13_init_204 rfl ?_
  refine r_putr (pc' := 209) (k := 73) (r := 97) C fl_X13_87 rfl (own_of rfl rfl) (by decide) kc_73 (by decide) fr_13_36 (fun _ => ⟨rfl, rfl⟩) dX13_init_206 rfl ?_
  refine r_aload_n (pc' := 210) C 0 rfl rfl dX13_init_209 rfl ?_
  refine r_sipush (pc' := 213) C dX13_init_210 (by decide) rfl ?_
  refine r_newI (pc' := 215) C wd_aint kc_98 rfl (fun j => ha 98 (by decide) j) (Nat.le_of_ble_eq_true rfl) (Nat.le_of_ble_eq_true rfl) dX13_init_213 rfl ?_
  refine r_putr (pc' := 218) (k := 73) (r := 98) C fl_X13_90 rfl (own_of rfl rfl) (by decide) kc_73 (by decide) fr_13_37 (fun _ => ⟨rfl, rfl⟩) dX13_init_215 rfl ?_
  refine r_aload_n (pc' := 219) C 0 rfl rfl dX13_init_218 rfl ?_
  refine r_sipush (pc' := 222) C dX13_init_219 (by decide) rfl ?_
  refine r_newI (pc' := 224) C wd_aint kc_99 rfl (fun j => ha 99 (by decide) j) (Nat.le_of_ble_eq_true rfl) (Nat.le_of_ble_eq_true rfl) dX13_init_222 rfl ?_
  refine r_putr (pc' := 227) (k := 73) (r := 99) C fl_X13_93 rfl (own_of rfl rfl) (by decide) kc_73 (by decide) fr_13_38 (fun _ => ⟨rfl, rfl⟩) dX13_init_224 rfl ?_
  refine r_aload_n (pc' := 228) C 0 rfl rfl dX13_init_227 rfl ?_
  refine r_sipush (pc' := 231) C dX13_init_228 (by decide) rfl ?_
  refine r_newI (pc' := 233) C wd_aint kc_100 rfl (fun j => ha 100 (by decide) j) (Nat.le_of_ble_eq_true rfl) (Nat.le_of_ble_eq_true rfl) dX13_init_231 rfl ?_
  refine r_putr (pc' := 236) (k := 73) (r := 100) C fl_X13_96 rfl (own_of rfl rfl) (by decide) kc_73 (by decide) fr_13_39 (fun _ => ⟨rfl, rfl⟩) dX13_init_233 rfl ?_
  refine r_aload_n (pc' := 237) C 0 rfl rfl dX13_init_236 rfl ?_
  refine r_sipush (pc' := 240) C dX13_init_237 (by decide) rfl ?_
  refine r_newI (pc' := 242) C wd_aint kc_101 rfl (fun j => ha 101 (by decide) j) (Nat.le_of_ble_eq_true rfl) (Nat.le_of_ble_eq_true rfl) dX13_init_240 rfl ?_
  refine r_putr (pc' := 245) (k := 73) (r := 101) C fl_X13_99 rfl (own_of rfl rfl) (by decide) kc_73 (by decide) fr_13_40 (fun _ => ⟨rfl, rfl⟩) dX13_init_242 rfl ?_
  refine r_aload_n (pc' := 246) C 0 rfl rfl dX13_init_245 rfl ?_
  refine r_sipush (pc' := 249) C dX13_init_246 (by decide) rfl ?_
  refine r_newI (pc' := 251) C wd_aint kc_102 rfl (fun j => ha 102 (by decide) j) (Nat.le_of_ble_eq_true rfl) (Nat.le_of_ble_eq_true rfl) dX13_init_249 rfl ?_
  refine r_putr (pc' := 254) (k := 73) (r := 102) C fl_X13_102 rfl (own_of rfl rfl) (by decide) kc_73 (by decide) fr_13_41 (fun _ => ⟨rfl, rfl⟩) dX13_init_251 rfl ?_
  refine r_aload_n (pc' := 255) C 0 rfl rfl dX13_init_254 rfl ?_
  refine r_sipush (pc' := 258) C dX13_init_255 (by decide) rfl ?_
  refine r_newI (pc' := 260) C wd_aint kc_103 rfl (fun j => ha 103 (by decide) j) (Nat.le_of_ble_eq_true rfl) (Nat.le_of_ble_eq_true rfl) dX13_init_258 rfl ?_
  refine r_putr (pc' := 263) (k := 73) (r := 103) C fl_X13_105 rfl (own_of rfl rfl) (by decide) kc_73 (by decide) fr_13_42 (fun _ => ⟨rfl, rfl⟩) dX13_init_260 rfl ?_
  refine r_aload_n (pc' := 264) C 0 rfl rfl dX13_init_263 rfl ?_
  refine r_sipush (pc' := 267) C dX13_init_264 (by decide) rfl ?_
  refine r_newI (pc' := 269) C wd_aint kc_104 rfl (fun j => ha 104 (by decide) j) (Nat.le_of_ble_eq_true rfl) (Nat.le_of_ble_eq_true rfl) dX13_init_267 rfl ?_
  refine r_putr (pc' := 272) (k := 73) (r := 104) C fl_X13_108 rfl (own_of rfl rfl) (by decide) kc_73 (by decide) fr_13_43 (fun _ => ⟨rfl, rfl⟩) dX13_init_269 rfl ?_
  refine r_aload_n (pc' := 273) C 0 rfl rfl dX13_init_272 rfl ?_
  refine r_sipush (pc' := 276) C dX13_init_273 (by decide) rfl ?_
  refine r_newI (pc' := 278) C wd_aint kc_105 rfl (fun j => ha 105 (by decide) j) (Nat.le_of_ble_eq_true rfl) (Nat.le_of_ble_eq_true rfl) dX13_init_276 rfl ?_
  refine r_putr (pc' := 281) (k := 73) (r := 105) C fl_X13_111 rfl (own_of rfl rfl) (by decide) kc_73 (by decide) fr_13_44 (fun _ => ⟨rfl, rfl⟩) dX13_init_278 rfl ?_
  refine r_aload_n (pc' := 282) C 0 rfl rfl dX13_init_281 rfl ?_
  refine r_sipush (pc' := 285) C dX13_init_282 (by decide) rfl ?_
  refine r_newI (pc' := 287) C wd_aint kc_106 rfl (fun j => ha 106 (by decide) j) (Nat.le_of_ble_eq_true rfl) (Nat.le_of_ble_eq_true rfl) dX13_init_285 rfl ?_
  refine r_putr (pc' := 290) (k := 73) (r := 106) C fl_X13_114 rfl (own_of rfl rfl) (by decide) kc_73 (by decide) fr_13_46 (fun _ => ⟨rfl, rfl⟩) dX13_init_287 rfl ?_
  refine r_aload_n (pc' := 291) C 0 rfl rfl dX13_init_290 rfl ?_
  refine r_sipush (pc' := 294) C dX13_init_291 (by decide) rfl ?_
  refine r_newI (pc' := 296) C wd_aint kc_107 rfl (fun j => ha 107 (by decide) j) (Nat.le_of_ble_eq_true rfl) (Nat.le_of_ble_eq_true rfl) dX13_init_294 rfl ?_
  refine r_putr (pc' := 299) (k := 73) (r := 107) C fl_X13_117 rfl (own_of rfl rfl) (by decide) kc_73 (by decide) fr_13_47 (fun _ => ⟨rfl, rfl⟩) dX13_init_296 rfl ?_
  refine r_aload_n (pc' := 300) C 0 rfl rfl dX13_init_299 rfl ?_
  refine r_sipush (pc' := 303) C dX13_init_300 (by decide) rfl ?_
  refine r_newI (pc' := 305) C wd_aint kc_108 rfl (fun j => ha 108 (by decide) j) (Nat.le_of_ble_eq_true rfl) (Nat.le_of_ble_eq_true rfl) dX13_init_303 rfl ?_
  refine r_putr (pc' := 308) (k := 73) (r := 108) C fl_X13_120 rfl (own_of rfl rfl) (by decide) kc_73 (by decide) fr_13_48 (fun _ => ⟨rfl, rfl⟩) dX13_init_305 rfl ?_
  refine r_aload_n (pc' := 309) C 0 rfl rfl dX13_init_308 rfl ?_
  refine r_new (pc' := 312) C nw_X13_123 rfl kc_109 (by decide) (fun j => hr 109 (by decide) j) (fun j => hi 109 (by decide) j) (Nat.le_of_ble_eq_true rfl) (Nat.le_of_ble_eq_true rfl) dX13_init_309 rfl ?_
  refine r_dup (pc' := 313) C rfl dX13_init_312 rfl ?_
  refine r_callIN (k := 109) (as := []) (st := [.ref (gl_b Y + 109), .ref (gl_b Y + 73)]) C (k_X12_init (e := e) (k := 109) kc_109 kc_110 rfl (fun j => ha 110 (by decide) j)) cl_X12_init rfl nl_X13_125 im_X12_init (by omega) (Nat.le_of_ble_eq_true rfl) (Nat.le_of_ble_eq_true rfl) rfl rfl (Nat.le_of_ble_eq_true rfl) dX13_init_313 (fun r rv' iv' av' n' hp => ?_)
  obtain ⟨rfl, e1, e2, rfl⟩ := hp; rw [e1, e2]; clear e1 e2
  refine r_putr (pc' := 319) (k := 73) (r := 109) C fl_X13_126 rfl (own_of rfl rfl) (by decide) kc_73 (by decide) fr_13_49 (fun _ => ⟨rfl, rfl⟩) dX13_init_316 rfl ?_
  refine r_aload_n (pc' := 320) C 0 rfl rfl dX13_init_319 rfl ?_
  refine r_new (pc' := 323) C nw_X13_123 rfl kc_111 (by decide) (fun j => hr 111 (by decide) j) (fun j => hi 111 (by decide) j) (Nat.le_of_ble_eq_true rfl) (Nat.le_of_ble_eq_true rfl) dX13_init_320 rfl ?_
  refine r_dup (pc' := 324) C rfl dX13_init_323 rfl ?_
  refine r_callIN (k := 111) (as := []) (st := [.ref (gl_b Y + 111), .ref (gl_b Y + 73)]) C (k_X12_init (e := e) (k := 111) kc_111 kc_112 rfl (fun j => ha 112 (by decide) j)) cl_X12_init rfl nl_X13_125 im_X12_init (by omega) (Nat.le_of_ble_eq_true rfl) (Nat.le_of_ble_eq_true rfl) rfl rfl (Nat.le_of_ble_eq_true rfl) dX13_init_324 (fun r rv' iv' av' n' hp => ?_)
  obtain ⟨rfl, e1, e2, rfl⟩ := hp; rw [e1, e2]; clear e1 e2
  refine r_putr (pc' := 330) (k := 73) (r := 111) C fl_X13_130 rfl (own_of rfl rfl) (by decide) kc_73 (by decide) fr_13_50 (fun _ => ⟨rfl, rfl⟩) dX13_init_327 rfl ?_
  refine r_aload_n (pc' := 331) C 0 rfl rfl dX13_init_330 rfl ?_
  refine r_new (pc' := 334) C nw_X13_123 rfl kc_113 (by decide) (fun j => hr 113 (by decide) j) (fun j => hi 113 (by decide) j) (Nat.le_of_ble_eq_true rfl) (Nat.le_of_ble_eq_true rfl) dX13_init_331 rfl ?_
  refine r_dup (pc' := 335) C rfl dX13_init_334 rfl ?_
  refine r_callIN (k := 113) (as := []) (st := [.ref (gl_b Y + 113), .ref (gl_b Y + 73)]) C (k_X12_init (e := e) (k := 113) kc_113 kc_114 rfl (fun j => ha 114 (by decide) j)) cl_X12_init rfl nl_X13_125 im_X12_init (by omega) (Nat.le_of_ble_eq_true rfl) (Nat.le_of_ble_eq_true rfl) rfl rfl (Nat.le_of_ble_eq_true rfl) dX13_init_335 (fun r rv' iv' av' n' hp => ?_)
  obtain ⟨rfl, e1, e2, rfl⟩ := hp; rw [e1, e2]; clear e1 e2
  refine r_putr (pc' := 341) (k := 73) (r := 113) C fl_X13_133 rfl (own_of rfl rfl) (by decide) kc_73 (by decide) fr_13_51 (fun _ => ⟨rfl, rfl⟩) dX13_init_338 rfl ?_
  refine r_aload_n (pc' := 342) C 0 rfl rfl dX13_init_341 rfl ?_
  refine r_sipush (pc' := 345) C dX13_init_342 (by decide) rfl ?_
  refine r_newI (pc' := 347) C wd_aint kc_115 rfl (fun j => ha 115 (by decide) j) (Nat.le_of_ble_eq_true rfl) (Nat.le_of_ble_eq_true rfl) dX13_init_345 rfl ?_
  refine r_putr (pc' := 350) (k := 73) (r := 115) C fl_X13_136 rfl (own_of rfl rfl) (by decide) kc_73 (by decide) fr_13_52 (fun _ => ⟨rfl, rfl⟩) dX13_init_347 rfl ?_
  refine Wa.wide (ce' := 42) (sl' := 560041) (Nat.le_of_ble_eq_true rfl) (Nat.le_of_ble_eq_true rfl) ?_
  have g9 : RV13 rv 73 13 = 82 + 1 := rfl
  have lp : ∀ (m t : Nat) (av2 : IVt), t + m = 64 → Off [82] av av2 → (∀ f, f < t → av2 82 f = -2) → Wa Y X 2 (g_MQ Y X 0 (fun r rv' iv' av' n' => rv' = RV13 rv ∧ iv' = up2 iv 73 6 4096 ∧ (Off [82] av av' ∧ ∀ f, f < 64 → av' 82 f = -2) ∧ n' = 116) 42 560041) 42 560041 352 [(0, .ref (gl_b Y + 73)), (1, .int (i32 (t : Int)))] [] (RV13 rv) (up2 iv 73 6 4096) av2 116 := by
    intro m
    induction m with
    | zero =>
      intro t av2 q1 q2 q3
      have et : t = 64 := by omega
      subst et
      refine r_iload_n (pc' := 353) C 1 rfl rfl dX13_init_352 rfl ?_
      refine r_bipush (pc' := 355) C dX13_init_353 (by decide) rfl ?_
      refine r_icmp_ge (pc' := 358) (tgt := 372) C (by decide) (by decide) dX13_init_355 (by decide) rfl (fun _ => ?_) (fun c => absurd (by decide) c)
      exact r_vret C ⟨rfl, rfl, ⟨q2, q3⟩, rfl⟩ dX13_init_372
    | succ m ih =>
      intro t av2 q1 q2 q3
      refine r_iload_n (pc' := 353) C 1 rfl rfl dX13_init_352 rfl ?_
      refine r_bipush (pc' := 355) C dX13_init_353 (by decide) rfl ?_
      refine r_icmp_ge (pc' := 358) (tgt := 372) C (by omega) (by decide) dX13_init_355 (by decide) rfl (fun c => absurd c (by omega)) (fun _ => ?_)
      refine r_aload_n (pc' := 359) C 0 rfl rfl dX13_init_358 rfl ?_
      refine r_getr (pc' := 362) (k := 73) (r := 82) C fl_X13_40 (by decide) kc_73 (by decide) fr_13_13 g9 dX13_init_359 rfl ?_
      refine r_iload_n (pc' := 363) C 1 rfl rfl dX13_init_362 rfl ?_
      refine r_bipush (pc' := 365) C dX13_init_363 (by decide) rfl ?_
      refine r_iast (pc' := 366) (k := 82) C (by decide) kc_82 (by show 0 ≤ (t : Int) ∧ (t : Int) < 64; omega) (by decide) dX13_init_365 rfl ?_
      refine r_iinc (pc' := 369) (ls' := [(0, .ref (gl_b Y + 73)), (1, .int (i32 ((t : Int) + 1)))]) C 1 rfl (by decide) rfl dX13_init_366 rfl ?_
      refine r_goto (tgt := 352) C dX13_init_369 (by decide) ?_
      rw [show (t : Int) + 1 = ((t + 1 : Nat) : Int) by omega, Int.toNat_natCast]
      refine ih (t + 1) _ (by omega) (q2.up (by decide)) fun f hf => ?_
      rw [up2_at]
      split
      · rfl
      · exact q3 f (by omega)
  refine r_iconst (pc' := 351) C dX13_init_350 rfl ?_
  refine r_istore_n (pc' := 352) (ls' := [(0, .ref (gl_b Y + 73)), (1, .int (i32 0))]) C (by decide) rfl rfl dX13_init_351 rfl ?_
  exact lp 64 0 av rfl (Off.rf _ _) (fun f hf => absurd hf (Nat.not_lt_zero _))
end SCtor2
