/-! Walks, laid by wip/whole/tool/walk.py: each says what is left of a method when its bytecode is run over symbols. -/
def BytesK (k : Nat) : Prop := kc k = 2 ∧ kc (k + 1) = 101 ∧ k + 1 < 116 ∧ RV k 0 = k + 1 + 1
def CodeK (rv : RVt) (n k : Nat) : Prop := kc k = 3 ∧ kc (k + 1) = 100 ∧ kc (k + 2) = 100 ∧ kc (k + 3) = 100 ∧ k + 3 < n ∧ rv k 0 = k + 1 + 1 ∧ rv k 1 = k + 2 + 1 ∧ rv k 2 = k + 3 + 1
def ReadCK (k : Nat) : Prop := kc k = 9 ∧ kc (k + 1) = 100 ∧ kc (k + 2) = 100 ∧ kc (k + 3) = 100 ∧ k + 3 < 116 ∧ RV k 0 = k + 1 + 1 ∧ RV k 1 = k + 2 + 1 ∧ RV k 2 = k + 3 + 1 ∧ kl (k + 1) = 16 ∧ kl (k + 2) = 288 ∧ kl (k + 3) = 16
def TreeK (k : Nat) : Prop := kc k = 12 ∧ kc (k + 1) = 100 ∧ k + 1 < 116 ∧ RV k 0 = k + 1 + 1 ∧ kl (k + 1) = 1300
def ArrK (c a : Nat) : Prop := kc a = c ∧ a < 116
def LayK (rv : RVt) (n : Nat) : Prop := 9 < n ∧ rv 5 0 = 6 + 1 ∧ rv 5 1 = 7 + 1 ∧ rv 5 2 = 8 + 1 ∧ rv 5 3 = 9 + 1
theorem g_ord_in (i : Nat) : InR (g_ordL.getD i 0) := by
  by_cases h : i < 19
  · have : ∀ i, i < 19 → InR (g_ordL.getD i 0) := by decide +kernel
    exact this i h
  · rw [List.getD_eq_getElem?_getD, List.getElem?_eq_none (by show 19 ≤ i; omega)]
    show InR 0
    omega

set_option maxHeartbeats 4000000 in
set_option maxRecDepth 100000 in
theorem o_X2_count {Y : Gl} {e : Nat} {P : PN} {k : Nat} {iv av : IVt} (Kk : BytesK k) (h : 
    ((InR (iv k 1)) →
      P (iv k 1) iv av
    )) : OkN Y e mX2_count [.ref (gl_b Y + k)] RV iv av 116 P := by
  obtain ⟨hkc, hka, hkl, hkr0⟩ := Kk
  refine OkW.of rfl (by show _ ≤ 1; exact Nat.le_of_ble_eq_true rfl) fun X C0 hR => ?_
  have C : CX Y X RX2 "count" cX2_count 1 (some .int) e 0 0 := C0
  show Wa Y X 1 (g_MQ Y X 1 (g_N RV 116 P) 0 0) 0 0 0 [(0, .ref (gl_b Y + k))] [] RV iv av 116
  refine r_aload_n (pc' := 1) C 0 rfl rfl dX2_count_0 rfl ?_
  refine r_geti (pc' := 4) (k := k) C fl_X2_13 (by omega) hkc (by decide) fr_2_1 dX2_count_1 rfl (fun f1 => ?_)
  replace h := h f1
  exact r_iret C f1 ⟨rfl, rfl, h⟩ dX2_count_4
set_option maxHeartbeats 4000000 in
set_option maxRecDepth 100000 in
theorem o_X2_room {Y : Gl} {e : Nat} {P : PN} {k : Nat} {iv av : IVt} (Kk : BytesK k) (h : 
    ((InR (iv k 1)) →
      (InR ((kl (k + 1) : Int) - (iv k 1))) ∧
      P ((kl (k + 1) : Int) - (iv k 1)) iv av
    )) : OkN Y e mX2_room [.ref (gl_b Y + k)] RV iv av 116 P := by
  obtain ⟨hkc, hka, hkl, hkr0⟩ := Kk
  refine OkW.of rfl (by show _ ≤ 1; exact Nat.le_of_ble_eq_true rfl) fun X C0 hR => ?_
  have C : CX Y X RX2 "room" cX2_room 1 (some .int) e 0 0 := C0
  show Wa Y X 1 (g_MQ Y X 1 (g_N RV 116 P) 0 0) 0 0 0 [(0, .ref (gl_b Y + k))] [] RV iv av 116
  refine r_aload_n (pc' := 1) C 0 rfl rfl dX2_room_0 rfl ?_
  refine r_getr (pc' := 4) (k := k) (r := k + 1) C fl_X2_7 (by omega) hkc (by decide) fr_2_0 hkr0 dX2_room_1 rfl ?_
  refine r_alen (pc' := 5) (k := k + 1) (v := (kl (k + 1) : Int)) C (by omega) hka (by decide) rfl dX2_room_4 rfl ?_
  refine r_aload_n (pc' := 6) C 0 rfl rfl dX2_room_5 rfl ?_
  refine r_geti (pc' := 9) (k := k) C fl_X2_13 (by omega) hkc (by decide) fr_2_1 dX2_room_6 rfl (fun f1 => ?_)
  replace h := h f1
  refine r_isub (pc' := 10) C dX2_room_9 rfl ?_
  have o2 := h.1
  replace h := h.2
  exact r_iret C o2 ⟨rfl, rfl, h⟩ dX2_room_10
set_option maxHeartbeats 4000000 in
set_option maxRecDepth 100000 in
theorem o_X2_at {Y : Gl} {e : Nat} {P : PN} {k : Nat} {x1 : Int} {iv av : IVt} (Kk : BytesK k) (hx1 : InR x1) (h : 
    ((x1 < 0) →
      P 0 iv av
    ) ∧
    ((¬ x1 < 0) →
      ((InR (iv k 1)) →
        (((iv k 1) ≤ x1) →
          P 0 iv av
        ) ∧
        ((¬ (iv k 1) ≤ x1) →
          (((kl (k + 1) : Int) ≤ x1) →
            P 0 iv av
          ) ∧
          ((¬ (kl (k + 1) : Int) ≤ x1) →
            (0 ≤ x1 ∧ x1 < (kl (k + 1) : Int)) ∧
            ((-128 ≤ (av (k + 1) x1.toNat) ∧ (av (k + 1) x1.toNat) ≤ 127) →
              P ((av (k + 1) x1.toNat) % 256) iv av
            )
          )
        )
      )
    )) : OkN Y e mX2_at [.ref (gl_b Y + k), .int (i32 x1)] RV iv av 116 P := by
  obtain ⟨hkc, hka, hkl, hkr0⟩ := Kk
  refine OkW.of rfl (by show _ ≤ 2; exact Nat.le_of_ble_eq_true rfl) fun X C0 hR => ?_
  have C : CX Y X RX2 "at" cX2_at 2 (some .int) e 0 0 := C0
  show Wa Y X 2 (g_MQ Y X 1 (g_N RV 116 P) 0 0) 0 0 0 [(0, .ref (gl_b Y + k)), (1, .int (i32 x1))] [] RV iv av 116
  refine r_iload_n (pc' := 1) C 1 rfl rfl dX2_at_0 rfl ?_
  refine r_if_lt (pc' := 4) (tgt := 34) C hx1 dX2_at_1 (by decide) rfl (fun c1 => ?_) (fun c1 => ?_)
  · replace h := h.1 c1
    refine r_iconst (pc' := 35) C dX2_at_34 rfl ?_
    exact r_iret C (by decide) ⟨rfl, rfl, h⟩ dX2_at_35
  · replace h := h.2 c1
    refine r_iload_n (pc' := 5) C 1 rfl rfl dX2_at_4 rfl ?_
    refine r_aload_n (pc' := 6) C 0 rfl rfl dX2_at_5 rfl ?_
    refine r_geti (pc' := 9) (k := k) C fl_X2_13 (by omega) hkc (by decide) fr_2_1 dX2_at_6 rfl (fun f2 => ?_)
    replace h := h f2
    refine r_icmp_ge (pc' := 12) (tgt := 34) C hx1 f2 dX2_at_9 (by decide) rfl (fun c3 => ?_) (fun c3 => ?_)
    · replace h := h.1 c3
      refine r_iconst (pc' := 35) C dX2_at_34 rfl ?_
      exact r_iret C (by decide) ⟨rfl, rfl, h⟩ dX2_at_35
    · replace h := h.2 c3
      refine r_iload_n (pc' := 13) C 1 rfl rfl dX2_at_12 rfl ?_
      refine r_aload_n (pc' := 14) C 0 rfl rfl dX2_at_13 rfl ?_
      refine r_getr (pc' := 17) (k := k) (r := k + 1) C fl_X2_7 (by omega) hkc (by decide) fr_2_0 hkr0 dX2_at_14 rfl ?_
      refine r_alen (pc' := 18) (k := k + 1) (v := (kl (k + 1) : Int)) C (by omega) hka (by decide) rfl dX2_at_17 rfl ?_
      refine r_icmp_ge (pc' := 21) (tgt := 34) C hx1 (by have := kl_le (k + 1); omega) dX2_at_18 (by decide) rfl (fun c4 => ?_) (fun c4 => ?_)
      · replace h := h.1 c4
        refine r_iconst (pc' := 35) C dX2_at_34 rfl ?_
        exact r_iret C (by decide) ⟨rfl, rfl, h⟩ dX2_at_35
      · replace h := h.2 c4
        refine r_aload_n (pc' := 22) C 0 rfl rfl dX2_at_21 rfl ?_
        refine r_getr (pc' := 25) (k := k) (r := k + 1) C fl_X2_7 (by omega) hkc (by decide) fr_2_0 hkr0 dX2_at_22 rfl ?_
        refine r_iload_n (pc' := 26) C 1 rfl rfl dX2_at_25 rfl ?_
        have o5 := h.1
        replace h := h.2
        refine r_bald (pc' := 27) (k := k + 1) C (by omega) hka o5 dX2_at_26 rfl (fun f6 => ?_)
        replace h := h f6
        refine r_sipush (pc' := 30) C dX2_at_27 (by decide) rfl ?_
        refine r_iandM (pc' := 31) (m := 256) C 8 (by decide) (by decide) (by decide) dX2_at_30 rfl ?_
        refine r_goto (tgt := 35) C dX2_at_31 (by decide) ?_
        exact r_iret C (by omega) ⟨rfl, rfl, h⟩ dX2_at_35
set_option maxHeartbeats 4000000 in
set_option maxRecDepth 100000 in
theorem o_X2_set {Y : Gl} {e : Nat} {P : PN} {k : Nat} {x1 : Int} {x2 : Int} {iv av : IVt} (Kk : BytesK k) (hx1 : InR x1) (h : 
    ((x1 < 0) →
      P 0 iv av
    ) ∧
    ((¬ x1 < 0) →
      ((InR (iv k 1)) →
        (((iv k 1) ≤ x1) →
          P 0 iv av
        ) ∧
        ((¬ (iv k 1) ≤ x1) →
          (((kl (k + 1) : Int) ≤ x1) →
            P 0 iv av
          ) ∧
          ((¬ (kl (k + 1) : Int) ≤ x1) →
            (0 ≤ x1 ∧ x1 < (kl (k + 1) : Int)) ∧
            P 0 iv (up2 av (k + 1) x1.toNat (bm8 (bm8 x2)))
          )
        )
      )
    )) : OkN Y e mX2_set [.ref (gl_b Y + k), .int (i32 x1), .int (i32 x2)] RV iv av 116 P := by
  obtain ⟨hkc, hka, hkl, hkr0⟩ := Kk
  refine OkW.of rfl (by show _ ≤ 3; exact Nat.le_of_ble_eq_true rfl) fun X C0 hR => ?_
  have C : CX Y X RX2 "set" cX2_set 3 none e 0 0 := C0
  show Wa Y X 3 (g_MQ Y X 0 (g_N RV 116 P) 0 0) 0 0 0 [(0, .ref (gl_b Y + k)), (1, .int (i32 x1)), (2, .int (i32 x2))] [] RV iv av 116
  refine r_iload_n (pc' := 1) C 1 rfl rfl dX2_set_0 rfl ?_
  refine r_if_lt (pc' := 4) (tgt := 29) C hx1 dX2_set_1 (by decide) rfl (fun c1 => ?_) (fun c1 => ?_)
  · replace h := h.1 c1
    exact r_vret C ⟨rfl, rfl, h⟩ dX2_set_29
  · replace h := h.2 c1
    refine r_iload_n (pc' := 5) C 1 rfl rfl dX2_set_4 rfl ?_
    refine r_aload_n (pc' := 6) C 0 rfl rfl dX2_set_5 rfl ?_
    refine r_geti (pc' := 9) (k := k) C fl_X2_13 (by omega) hkc (by decide) fr_2_1 dX2_set_6 rfl (fun f2 => ?_)
    replace h := h f2
    refine r_icmp_ge (pc' := 12) (tgt := 29) C hx1 f2 dX2_set_9 (by decide) rfl (fun c3 => ?_) (fun c3 => ?_)
    · replace h := h.1 c3
      exact r_vret C ⟨rfl, rfl, h⟩ dX2_set_29
    · replace h := h.2 c3
      refine r_iload_n (pc' := 13) C 1 rfl rfl dX2_set_12 rfl ?_
      refine r_aload_n (pc' := 14) C 0 rfl rfl dX2_set_13 rfl ?_
      refine r_getr (pc' := 17) (k := k) (r := k + 1) C fl_X2_7 (by omega) hkc (by decide) fr_2_0 hkr0 dX2_set_14 rfl ?_
      refine r_alen (pc' := 18) (k := k + 1) (v := (kl (k + 1) : Int)) C (by omega) hka (by decide) rfl dX2_set_17 rfl ?_
      refine r_icmp_ge (pc' := 21) (tgt := 29) C hx1 (by have := kl_le (k + 1); omega) dX2_set_18 (by decide) rfl (fun c4 => ?_) (fun c4 => ?_)
      · replace h := h.1 c4
        exact r_vret C ⟨rfl, rfl, h⟩ dX2_set_29
      · replace h := h.2 c4
        refine r_aload_n (pc' := 22) C 0 rfl rfl dX2_set_21 rfl ?_
        refine r_getr (pc' := 25) (k := k) (r := k + 1) C fl_X2_7 (by omega) hkc (by decide) fr_2_0 hkr0 dX2_set_22 rfl ?_
        refine r_iload_n (pc' := 26) C 1 rfl rfl dX2_set_25 rfl ?_
        refine r_iload_n (pc' := 27) C 2 rfl rfl dX2_set_26 rfl ?_
        refine r_i2b (pc' := 28) C dX2_set_27 rfl ?_
        have o5 := h.1
        replace h := h.2
        refine r_bast (pc' := 29) (k := k + 1) C (by omega) hka o5 dX2_set_28 rfl ?_
        exact r_vret C ⟨rfl, rfl, h⟩ dX2_set_29
set_option maxHeartbeats 4000000 in
set_option maxRecDepth 100000 in
theorem o_X2_add {Y : Gl} {e : Nat} {P : PN} {k : Nat} {x1 : Int} {iv av : IVt} (Kk : BytesK k) (h : 
    ((InR (iv k 1)) →
      (((iv k 1) < 0) →
        P 0 iv av
      ) ∧
      ((¬ (iv k 1) < 0) →
        (((kl (k + 1) : Int) ≤ (iv k 1)) →
          P 0 iv av
        ) ∧
        ((¬ (kl (k + 1) : Int) ≤ (iv k 1)) →
          (0 ≤ (iv k 1) ∧ (iv k 1) < (kl (k + 1) : Int)) ∧
          (InR ((iv k 1) + 1)) ∧
          P 0 (up2 iv k 1 ((iv k 1) + 1)) (up2 av (k + 1) ((iv k 1).toNat) (bm8 (bm8 x1)))
        )
      )
    )) : OkN Y e mX2_add [.ref (gl_b Y + k), .int (i32 x1)] RV iv av 116 P := by
  obtain ⟨hkc, hka, hkl, hkr0⟩ := Kk
  refine OkW.of rfl (by show _ ≤ 2; exact Nat.le_of_ble_eq_true rfl) fun X C0 hR => ?_
  have C : CX Y X RX2 "add" cX2_add 2 none e 0 0 := C0
  show Wa Y X 2 (g_MQ Y X 0 (g_N RV 116 P) 0 0) 0 0 0 [(0, .ref (gl_b Y + k)), (1, .int (i32 x1))] [] RV iv av 116
  refine r_aload_n (pc' := 1) C 0 rfl rfl dX2_add_0 rfl ?_
  refine r_geti (pc' := 4) (k := k) C fl_X2_13 (by omega) hkc (by decide) fr_2_1 dX2_add_1 rfl (fun f1 => ?_)
  replace h := h f1
  refine r_if_lt (pc' := 7) (tgt := 40) C f1 dX2_add_4 (by decide) rfl (fun c2 => ?_) (fun c2 => ?_)
  · replace h := h.1 c2
    exact r_vret C ⟨rfl, rfl, h⟩ dX2_add_40
  · replace h := h.2 c2
    refine r_aload_n (pc' := 8) C 0 rfl rfl dX2_add_7 rfl ?_
    refine r_geti (pc' := 11) (k := k) C fl_X2_13 (by omega) hkc (by decide) fr_2_1 dX2_add_8 rfl (fun f3 => ?_)
    refine r_aload_n (pc' := 12) C 0 rfl rfl dX2_add_11 rfl ?_
    refine r_getr (pc' := 15) (k := k) (r := k + 1) C fl_X2_7 (by omega) hkc (by decide) fr_2_0 hkr0 dX2_add_12 rfl ?_
    refine r_alen (pc' := 16) (k := k + 1) (v := (kl (k + 1) : Int)) C (by omega) hka (by decide) rfl dX2_add_15 rfl ?_
    refine r_icmp_ge (pc' := 19) (tgt := 40) C f1 (by have := kl_le (k + 1); omega) dX2_add_16 (by decide) rfl (fun c4 => ?_) (fun c4 => ?_)
    · replace h := h.1 c4
      exact r_vret C ⟨rfl, rfl, h⟩ dX2_add_40
    · replace h := h.2 c4
      refine r_aload_n (pc' := 20) C 0 rfl rfl dX2_add_19 rfl ?_
      refine r_getr (pc' := 23) (k := k) (r := k + 1) C fl_X2_7 (by omega) hkc (by decide) fr_2_0 hkr0 dX2_add_20 rfl ?_
      refine r_aload_n (pc' := 24) C 0 rfl rfl dX2_add_23 rfl ?_
      refine r_geti (pc' := 27) (k := k) C fl_X2_13 (by omega) hkc (by decide) fr_2_1 dX2_add_24 rfl (fun f5 => ?_)
      refine r_iload_n (pc' := 28) C 1 rfl rfl dX2_add_27 rfl ?_
      refine r_i2b (pc' := 29) C dX2_add_28 rfl ?_
      have o6 := h.1
      replace h := h.2
      refine r_bast (pc' := 30) (k := k + 1) C (by omega) hka o6 dX2_add_29 rfl ?_
      refine r_aload_n (pc' := 31) C 0 rfl rfl dX2_add_30 rfl ?_
      refine r_dup (pc' := 32) C rfl dX2_add_31 rfl ?_
      refine r_geti (pc' := 35) (k := k) C fl_X2_13 (by omega) hkc (by decide) fr_2_1 dX2_add_32 rfl (fun f7 => ?_)
      refine r_iconst (pc' := 36) C dX2_add_35 rfl ?_
      refine r_iadd (pc' := 37) C dX2_add_36 rfl ?_
      have o8 := h.1
      replace h := h.2
      refine r_puti (pc' := 40) (k := k) C fl_X2_13 (by omega) hkc (by decide) fr_2_1 o8 dX2_add_37 rfl ?_
      exact r_vret C ⟨rfl, rfl, h⟩ dX2_add_40
def L_X2_addZeros_2 (Y : Gl) (X : Cx) (P : PN) (k : Nat) (x1 : Int) (x2 : Int) (iv av : IVt) : Prop := Wa Y X 3 (g_MQ Y X 0 (g_N RV 116 P) 0 0) 0 0 2 [(0, .ref (gl_b Y + k)), (1, .int (i32 x1)), (2, .int (i32 x2))] [] RV iv av 116
set_option maxHeartbeats 4000000 in
set_option maxRecDepth 100000 in
theorem w_X2_addZeros_2 {Y : Gl} {X : Cx} {e : Nat} {P : PN} {k : Nat} {x1 : Int} {x2 : Int} {iv av : IVt} (C : CX Y X RX2 "addZeros" cX2_addZeros 3 none (e + 1) 0 0) (Kk : BytesK k) (hx1 : InR x1) (hx2 : InR x2) (h :
    ((x1 ≤ x2) →
      P 0 iv av
    ) ∧
    ((¬ x1 ≤ x2) →
      OkN Y e mX2_add [.ref (gl_b Y + k), .int (i32 0)] RV iv av 116 (fun r2 iv3 av4 =>
        L_X2_addZeros_2 Y X P k x1 (x2 + 1) iv3 av4
      )
    )) : L_X2_addZeros_2 Y X P k x1 x2 iv av := by
  obtain ⟨hkc, hka, hkl, hkr0⟩ := Kk
  unfold L_X2_addZeros_2
  refine r_iload_n (pc' := 3) C 2 rfl rfl dX2_addZeros_2 rfl ?_
  refine r_iload_n (pc' := 4) C 1 rfl rfl dX2_addZeros_3 rfl ?_
  refine r_icmp_ge (pc' := 7) (tgt := 18) C hx2 hx1 dX2_addZeros_4 (by decide) rfl (fun c1 => ?_) (fun c1 => ?_)
  · replace h := h.1 c1
    exact r_vret C ⟨rfl, rfl, h⟩ dX2_addZeros_18
  · replace h := h.2 c1
    refine r_aload_n (pc' := 8) C 0 rfl rfl dX2_addZeros_7 rfl ?_
    refine r_iconst (pc' := 9) C dX2_addZeros_8 rfl ?_
    refine c_Vv (pc' := 12) (mt := mX2_add) (as := [.int (i32 0)]) (st := []) (k := k) C h rfl cl_X2_add ml_X2_17 im_X2_add sl_X2_add (by omega) (Nat.le_refl _) (Nat.le_refl _) rfl (by omega) hkc (by decide) rfl rfl rfl (Nat.le_of_ble_eq_true rfl) dX2_addZeros_9 rfl (fun r2 iv3 av4 h => ?_)
    refine r_iinc (pc' := 15) (ls' := [(0, .ref (gl_b Y + k)), (1, .int (i32 x1)), (2, .int (i32 (x2 + 1)))]) C 2 rfl (by decide) rfl dX2_addZeros_12 rfl ?_
    refine r_goto (tgt := 2) C dX2_addZeros_15 (by decide) ?_
    exact Wa.sub [0, 1, 2] rfl h
set_option maxHeartbeats 4000000 in
set_option maxRecDepth 100000 in
theorem o_X2_addZeros {Y : Gl} {e : Nat} {P : PN} {k : Nat} {x1 : Int} {iv av : IVt} (Kk : BytesK k) (h : ∀ X : Cx, CX Y X RX2 "addZeros" cX2_addZeros 3 none (e + 1) 0 0 →
    L_X2_addZeros_2 Y X P k x1 0 iv av) : OkN Y (e + 1) mX2_addZeros [.ref (gl_b Y + k), .int (i32 x1)] RV iv av 116 P := by
  obtain ⟨hkc, hka, hkl, hkr0⟩ := Kk
  refine OkW.of rfl (by show _ ≤ 3; exact Nat.le_of_ble_eq_true rfl) fun X C0 hR => ?_
  have C : CX Y X RX2 "addZeros" cX2_addZeros 3 none (e + 1) 0 0 := C0
  replace h := h X C
  show Wa Y X 3 (g_MQ Y X 0 (g_N RV 116 P) 0 0) 0 0 0 [(0, .ref (gl_b Y + k)), (1, .int (i32 x1))] [] RV iv av 116
  refine r_iconst (pc' := 1) C dX2_addZeros_0 rfl ?_
  refine r_istore_n (pc' := 2) (ls' := [(0, .ref (gl_b Y + k)), (1, .int (i32 x1)), (2, .int (i32 0))]) C (by decide) rfl rfl dX2_addZeros_1 rfl ?_
  exact Wa.sub [0, 1, 2] rfl h
set_option maxHeartbeats 4000000 in
set_option maxRecDepth 100000 in
theorem o_X2_addAll {Y : Gl} {e : Nat} {P : PN} {k : Nat} {k1 : Nat} {x2 : Int} {x3 : Int} {iv av : IVt} (Kk : BytesK k) (Kk1 : BytesK k1) (hx2 : InR x2) (hx3 : InR x3) (h : 
    ((x3 < 0) →
      P 0 iv av
    ) ∧
    ((¬ x3 < 0) →
      ((x2 < 0) →
        P 0 iv av
      ) ∧
      ((¬ x2 < 0) →
        ((InR (iv k1 1)) →
          (InR ((iv k1 1) - x3)) ∧
          ((((iv k1 1) - x3) < x2) →
            P 0 iv av
          ) ∧
          ((¬ ((iv k1 1) - x3) < x2) →
            ((InR (iv k 1)) →
              (InR ((kl (k + 1) : Int) - (iv k 1))) ∧
              ((x3 ≤ ((kl (k + 1) : Int) - (iv k 1))) →
                (0 ≤ x2) ∧
                (0 ≤ (iv k 1)) ∧
                (0 ≤ x3) ∧
                (x2 + x3 ≤ (kl (k1 + 1) : Int)) ∧
                ((iv k 1) + x3 ≤ (kl (k + 1) : Int)) ∧
                (InR ((iv k 1) + x3)) ∧
                P 0 (up2 iv k 1 ((iv k 1) + x3)) (upA av (k + 1) (va_cpy (av (k1 + 1)) (av (k + 1)) x2.toNat (iv k 1).toNat x3.toNat))
              ) ∧
              ((¬ x3 ≤ ((kl (k + 1) : Int) - (iv k 1))) →
                P 0 iv av
              )
            )
          )
        )
      )
    )) : OkN Y (e + 1) mX2_addAll [.ref (gl_b Y + k), .ref (gl_b Y + k1), .int (i32 x2), .int (i32 x3)] RV iv av 116 P := by
  obtain ⟨hkc, hka, hkl, hkr0⟩ := Kk
  obtain ⟨hk1c, hk1a, hk1l, hk1r0⟩ := Kk1
  refine OkW.of rfl (by show _ ≤ 4; exact Nat.le_of_ble_eq_true rfl) fun X C0 hR => ?_
  have C : CX Y X RX2 "addAll" cX2_addAll 4 none (e + 1) 0 0 := C0
  show Wa Y X 4 (g_MQ Y X 0 (g_N RV 116 P) 0 0) 0 0 0 [(0, .ref (gl_b Y + k)), (1, .ref (gl_b Y + k1)), (2, .int (i32 x2)), (3, .int (i32 x3))] [] RV iv av 116
  refine r_iload_n (pc' := 1) C 3 rfl rfl dX2_addAll_0 rfl ?_
  refine r_if_lt (pc' := 4) (tgt := 32) C hx3 dX2_addAll_1 (by decide) rfl (fun c1 => ?_) (fun c1 => ?_)
  · replace h := h.1 c1
    exact r_vret C ⟨rfl, rfl, h⟩ dX2_addAll_32
  · replace h := h.2 c1
    refine r_iload_n (pc' := 5) C 2 rfl rfl dX2_addAll_4 rfl ?_
    refine r_if_lt (pc' := 8) (tgt := 32) C hx2 dX2_addAll_5 (by decide) rfl (fun c2 => ?_) (fun c2 => ?_)
    · replace h := h.1 c2
      exact r_vret C ⟨rfl, rfl, h⟩ dX2_addAll_32
    · replace h := h.2 c2
      refine r_iload_n (pc' := 9) C 2 rfl rfl dX2_addAll_8 rfl ?_
      refine r_aload_n (pc' := 10) C 1 rfl rfl dX2_addAll_9 rfl ?_
      refine r_geti (pc' := 13) (k := k1) C fl_X2_13 (by omega) hk1c (by decide) fr_2_1 dX2_addAll_10 rfl (fun f3 => ?_)
      replace h := h f3
      refine r_iload_n (pc' := 14) C 3 rfl rfl dX2_addAll_13 rfl ?_
      refine r_isub (pc' := 15) C dX2_addAll_14 rfl ?_
      have o4 := h.1
      replace h := h.2
      refine r_icmp_gt (pc' := 18) (tgt := 32) C hx2 o4 dX2_addAll_15 (by decide) rfl (fun c5 => ?_) (fun c5 => ?_)
      · replace h := h.1 c5
        exact r_vret C ⟨rfl, rfl, h⟩ dX2_addAll_32
      · replace h := h.2 c5
        refine r_iload_n (pc' := 19) C 3 rfl rfl dX2_addAll_18 rfl ?_
        refine r_aload_n (pc' := 20) C 0 rfl rfl dX2_addAll_19 rfl ?_
        refine r_getr (pc' := 23) (k := k) (r := k + 1) C fl_X2_7 (by omega) hkc (by decide) fr_2_0 hkr0 dX2_addAll_20 rfl ?_
        refine r_alen (pc' := 24) (k := k + 1) (v := (kl (k + 1) : Int)) C (by omega) hka (by decide) rfl dX2_addAll_23 rfl ?_
        refine r_aload_n (pc' := 25) C 0 rfl rfl dX2_addAll_24 rfl ?_
        refine r_geti (pc' := 28) (k := k) C fl_X2_13 (by omega) hkc (by decide) fr_2_1 dX2_addAll_25 rfl (fun f6 => ?_)
        replace h := h f6
        refine r_isub (pc' := 29) C dX2_addAll_28 rfl ?_
        have o7 := h.1
        replace h := h.2
        refine r_icmp_le (pc' := 32) (tgt := 33) C hx3 o7 dX2_addAll_29 (by decide) rfl (fun c8 => ?_) (fun c8 => ?_)
        · replace h := h.1 c8
          refine r_aload_n (pc' := 34) C 1 rfl rfl dX2_addAll_33 rfl ?_
          refine r_getr (pc' := 37) (k := k1) (r := k1 + 1) C fl_X2_7 (by omega) hk1c (by decide) fr_2_0 hk1r0 dX2_addAll_34 rfl ?_
          refine r_iload_n (pc' := 38) C 2 rfl rfl dX2_addAll_37 rfl ?_
          refine r_aload_n (pc' := 39) C 0 rfl rfl dX2_addAll_38 rfl ?_
          refine r_getr (pc' := 42) (k := k) (r := k + 1) C fl_X2_7 (by omega) hkc (by decide) fr_2_0 hkr0 dX2_addAll_39 rfl ?_
          refine r_aload_n (pc' := 43) C 0 rfl rfl dX2_addAll_42 rfl ?_
          refine r_geti (pc' := 46) (k := k) C fl_X2_13 (by omega) hkc (by decide) fr_2_1 dX2_addAll_43 rfl (fun f9 => ?_)
          refine r_iload_n (pc' := 47) C 3 rfl rfl dX2_addAll_46 rfl ?_
          have o10 := h.1
          replace h := h.2
          have o11 := h.1
          replace h := h.2
          have o12 := h.1
          replace h := h.2
          have o13 := h.1
          replace h := h.2
          have o14 := h.1
          replace h := h.2
          refine r_copy (pc' := 50) (k0 := k1 + 1) (k1 := k + 1) C ml_X2_21 wd_cpy_n wd_cpy_s wd_sys (by omega) (Nat.le_of_ble_eq_true rfl) (by omega) hk1a (by omega) hka o10 o11 o12 o13 o14 dX2_addAll_47 rfl ?_
          refine r_aload_n (pc' := 51) C 0 rfl rfl dX2_addAll_50 rfl ?_
          refine r_dup (pc' := 52) C rfl dX2_addAll_51 rfl ?_
          refine r_geti (pc' := 55) (k := k) C fl_X2_13 (by omega) hkc (by decide) fr_2_1 dX2_addAll_52 rfl (fun f15 => ?_)
          refine r_iload_n (pc' := 56) C 3 rfl rfl dX2_addAll_55 rfl ?_
          refine r_iadd (pc' := 57) C dX2_addAll_56 rfl ?_
          have o16 := h.1
          replace h := h.2
          refine r_puti (pc' := 60) (k := k) C fl_X2_13 (by omega) hkc (by decide) fr_2_1 o16 dX2_addAll_57 rfl ?_
          exact r_vret C ⟨rfl, rfl, h⟩ dX2_addAll_60
        · replace h := h.2 c8
          exact r_vret C ⟨rfl, rfl, h⟩ dX2_addAll_32
set_option maxHeartbeats 4000000 in
set_option maxRecDepth 100000 in
theorem o_X2_keep {Y : Gl} {e : Nat} {P : PN} {k : Nat} {x1 : Int} {iv av : IVt} (Kk : BytesK k) (hx1 : InR x1) (h : 
    ((x1 < 0) →
      P 0 iv av
    ) ∧
    ((¬ x1 < 0) →
      ((InR (iv k 1)) →
        (((iv k 1) ≤ x1) →
          P 0 iv av
        ) ∧
        ((¬ (iv k 1) ≤ x1) →
          P 0 (up2 iv k 1 x1) av
        )
      )
    )) : OkN Y e mX2_keep [.ref (gl_b Y + k), .int (i32 x1)] RV iv av 116 P := by
  obtain ⟨hkc, hka, hkl, hkr0⟩ := Kk
  refine OkW.of rfl (by show _ ≤ 2; exact Nat.le_of_ble_eq_true rfl) fun X C0 hR => ?_
  have C : CX Y X RX2 "keep" cX2_keep 2 none e 0 0 := C0
  show Wa Y X 2 (g_MQ Y X 0 (g_N RV 116 P) 0 0) 0 0 0 [(0, .ref (gl_b Y + k)), (1, .int (i32 x1))] [] RV iv av 116
  refine r_iload_n (pc' := 1) C 1 rfl rfl dX2_keep_0 rfl ?_
  refine r_if_lt (pc' := 4) (tgt := 17) C hx1 dX2_keep_1 (by decide) rfl (fun c1 => ?_) (fun c1 => ?_)
  · replace h := h.1 c1
    exact r_vret C ⟨rfl, rfl, h⟩ dX2_keep_17
  · replace h := h.2 c1
    refine r_iload_n (pc' := 5) C 1 rfl rfl dX2_keep_4 rfl ?_
    refine r_aload_n (pc' := 6) C 0 rfl rfl dX2_keep_5 rfl ?_
    refine r_geti (pc' := 9) (k := k) C fl_X2_13 (by omega) hkc (by decide) fr_2_1 dX2_keep_6 rfl (fun f2 => ?_)
    replace h := h f2
    refine r_icmp_ge (pc' := 12) (tgt := 17) C hx1 f2 dX2_keep_9 (by decide) rfl (fun c3 => ?_) (fun c3 => ?_)
    · replace h := h.1 c3
      exact r_vret C ⟨rfl, rfl, h⟩ dX2_keep_17
    · replace h := h.2 c3
      refine r_aload_n (pc' := 13) C 0 rfl rfl dX2_keep_12 rfl ?_
      refine r_iload_n (pc' := 14) C 1 rfl rfl dX2_keep_13 rfl ?_
      refine r_puti (pc' := 17) (k := k) C fl_X2_13 (by omega) hkc (by decide) fr_2_1 hx1 dX2_keep_14 rfl ?_
      exact r_vret C ⟨rfl, rfl, h⟩ dX2_keep_17
set_option maxHeartbeats 4000000 in
set_option maxRecDepth 100000 in
theorem o_X2_open {Y : Gl} {e : Nat} {P : PN} {k : Nat} {x1 : Int} {x2 : Int} {iv av : IVt} (Kk : BytesK k) (hx1 : InR x1) (hx2 : InR x2) (h : 
    ((x1 < 0) →
      P 0 iv av
    ) ∧
    ((¬ x1 < 0) →
      ((InR (iv k 1)) →
        (((iv k 1) < x1) →
          P 0 iv av
        ) ∧
        ((¬ (iv k 1) < x1) →
          ((x2 < 0) →
            P 0 iv av
          ) ∧
          ((¬ x2 < 0) →
            (InR ((kl (k + 1) : Int) - (iv k 1))) ∧
            ((x2 ≤ ((kl (k + 1) : Int) - (iv k 1))) →
              (0 ≤ x1) ∧
              (0 ≤ (x1 + x2)) ∧
              (0 ≤ ((iv k 1) - x1)) ∧
              (x1 + ((iv k 1) - x1) ≤ (kl (k + 1) : Int)) ∧
              ((x1 + x2) + ((iv k 1) - x1) ≤ (kl (k + 1) : Int)) ∧
              (InR ((iv k 1) + x2)) ∧
              P 0 (up2 iv k 1 ((iv k 1) + x2)) (upA av (k + 1) (va_cpy (av (k + 1)) (av (k + 1)) x1.toNat (x1 + x2).toNat ((iv k 1) - x1).toNat))
            ) ∧
            ((¬ x2 ≤ ((kl (k + 1) : Int) - (iv k 1))) →
              P 0 iv av
            )
          )
        )
      )
    )) : OkN Y (e + 1) mX2_open [.ref (gl_b Y + k), .int (i32 x1), .int (i32 x2)] RV iv av 116 P := by
  obtain ⟨hkc, hka, hkl, hkr0⟩ := Kk
  refine OkW.of rfl (by show _ ≤ 3; exact Nat.le_of_ble_eq_true rfl) fun X C0 hR => ?_
  have C : CX Y X RX2 "open" cX2_open 3 none (e + 1) 0 0 := C0
  show Wa Y X 3 (g_MQ Y X 0 (g_N RV 116 P) 0 0) 0 0 0 [(0, .ref (gl_b Y + k)), (1, .int (i32 x1)), (2, .int (i32 x2))] [] RV iv av 116
  refine r_iload_n (pc' := 1) C 1 rfl rfl dX2_open_0 rfl ?_
  refine r_if_lt (pc' := 4) (tgt := 30) C hx1 dX2_open_1 (by decide) rfl (fun c1 => ?_) (fun c1 => ?_)
  · replace h := h.1 c1
    exact r_vret C ⟨rfl, rfl, h⟩ dX2_open_30
  · replace h := h.2 c1
    refine r_iload_n (pc' := 5) C 1 rfl rfl dX2_open_4 rfl ?_
    refine r_aload_n (pc' := 6) C 0 rfl rfl dX2_open_5 rfl ?_
    refine r_geti (pc' := 9) (k := k) C fl_X2_13 (by omega) hkc (by decide) fr_2_1 dX2_open_6 rfl (fun f2 => ?_)
    replace h := h f2
    refine r_icmp_gt (pc' := 12) (tgt := 30) C hx1 f2 dX2_open_9 (by decide) rfl (fun c3 => ?_) (fun c3 => ?_)
    · replace h := h.1 c3
      exact r_vret C ⟨rfl, rfl, h⟩ dX2_open_30
    · replace h := h.2 c3
      refine r_iload_n (pc' := 13) C 2 rfl rfl dX2_open_12 rfl ?_
      refine r_if_lt (pc' := 16) (tgt := 30) C hx2 dX2_open_13 (by decide) rfl (fun c4 => ?_) (fun c4 => ?_)
      · replace h := h.1 c4
        exact r_vret C ⟨rfl, rfl, h⟩ dX2_open_30
      · replace h := h.2 c4
        refine r_iload_n (pc' := 17) C 2 rfl rfl dX2_open_16 rfl ?_
        refine r_aload_n (pc' := 18) C 0 rfl rfl dX2_open_17 rfl ?_
        refine r_getr (pc' := 21) (k := k) (r := k + 1) C fl_X2_7 (by omega) hkc (by decide) fr_2_0 hkr0 dX2_open_18 rfl ?_
        refine r_alen (pc' := 22) (k := k + 1) (v := (kl (k + 1) : Int)) C (by omega) hka (by decide) rfl dX2_open_21 rfl ?_
        refine r_aload_n (pc' := 23) C 0 rfl rfl dX2_open_22 rfl ?_
        refine r_geti (pc' := 26) (k := k) C fl_X2_13 (by omega) hkc (by decide) fr_2_1 dX2_open_23 rfl (fun f5 => ?_)
        refine r_isub (pc' := 27) C dX2_open_26 rfl ?_
        have o6 := h.1
        replace h := h.2
        refine r_icmp_le (pc' := 30) (tgt := 31) C hx2 o6 dX2_open_27 (by decide) rfl (fun c7 => ?_) (fun c7 => ?_)
        · replace h := h.1 c7
          refine r_aload_n (pc' := 32) C 0 rfl rfl dX2_open_31 rfl ?_
          refine r_getr (pc' := 35) (k := k) (r := k + 1) C fl_X2_7 (by omega) hkc (by decide) fr_2_0 hkr0 dX2_open_32 rfl ?_
          refine r_iload_n (pc' := 36) C 1 rfl rfl dX2_open_35 rfl ?_
          refine r_aload_n (pc' := 37) C 0 rfl rfl dX2_open_36 rfl ?_
          refine r_getr (pc' := 40) (k := k) (r := k + 1) C fl_X2_7 (by omega) hkc (by decide) fr_2_0 hkr0 dX2_open_37 rfl ?_
          refine r_iload_n (pc' := 41) C 1 rfl rfl dX2_open_40 rfl ?_
          refine r_iload_n (pc' := 42) C 2 rfl rfl dX2_open_41 rfl ?_
          refine r_iadd (pc' := 43) C dX2_open_42 rfl ?_
          refine r_aload_n (pc' := 44) C 0 rfl rfl dX2_open_43 rfl ?_
          refine r_geti (pc' := 47) (k := k) C fl_X2_13 (by omega) hkc (by decide) fr_2_1 dX2_open_44 rfl (fun f8 => ?_)
          refine r_iload_n (pc' := 48) C 1 rfl rfl dX2_open_47 rfl ?_
          refine r_isub (pc' := 49) C dX2_open_48 rfl ?_
          have o9 := h.1
          replace h := h.2
          have o10 := h.1
          replace h := h.2
          have o11 := h.1
          replace h := h.2
          have o12 := h.1
          replace h := h.2
          have o13 := h.1
          replace h := h.2
          refine r_copy (pc' := 52) (k0 := k + 1) (k1 := k + 1) C ml_X2_21 wd_cpy_n wd_cpy_s wd_sys (by omega) (Nat.le_of_ble_eq_true rfl) (by omega) hka (by omega) hka o9 o10 o11 o12 o13 dX2_open_49 rfl ?_
          refine r_aload_n (pc' := 53) C 0 rfl rfl dX2_open_52 rfl ?_
          refine r_dup (pc' := 54) C rfl dX2_open_53 rfl ?_
          refine r_geti (pc' := 57) (k := k) C fl_X2_13 (by omega) hkc (by decide) fr_2_1 dX2_open_54 rfl (fun f14 => ?_)
          refine r_iload_n (pc' := 58) C 2 rfl rfl dX2_open_57 rfl ?_
          refine r_iadd (pc' := 59) C dX2_open_58 rfl ?_
          have o15 := h.1
          replace h := h.2
          refine r_puti (pc' := 62) (k := k) C fl_X2_13 (by omega) hkc (by decide) fr_2_1 o15 dX2_open_59 rfl ?_
          exact r_vret C ⟨rfl, rfl, h⟩ dX2_open_62
        · replace h := h.2 c7
          exact r_vret C ⟨rfl, rfl, h⟩ dX2_open_30
set_option maxHeartbeats 4000000 in
set_option maxRecDepth 100000 in
theorem o_X2_close {Y : Gl} {e : Nat} {P : PN} {k : Nat} {x1 : Int} {x2 : Int} {iv av : IVt} (Kk : BytesK k) (hx1 : InR x1) (hx2 : InR x2) (h : 
    ((x1 < 0) →
      P 0 iv av
    ) ∧
    ((¬ x1 < 0) →
      ((x2 < 0) →
        P 0 iv av
      ) ∧
      ((¬ x2 < 0) →
        ((InR (iv k 1)) →
          (InR ((iv k 1) - x2)) ∧
          ((x1 ≤ ((iv k 1) - x2)) →
            (0 ≤ (x1 + x2)) ∧
            (0 ≤ x1) ∧
            (0 ≤ (((iv k 1) - x1) - x2)) ∧
            ((x1 + x2) + (((iv k 1) - x1) - x2) ≤ (kl (k + 1) : Int)) ∧
            (x1 + (((iv k 1) - x1) - x2) ≤ (kl (k + 1) : Int)) ∧
            P 0 (up2 iv k 1 ((iv k 1) - x2)) (upA av (k + 1) (va_cpy (av (k + 1)) (av (k + 1)) (x1 + x2).toNat x1.toNat (((iv k 1) - x1) - x2).toNat))
          ) ∧
          ((¬ x1 ≤ ((iv k 1) - x2)) →
            P 0 iv av
          )
        )
      )
    )) : OkN Y (e + 1) mX2_close [.ref (gl_b Y + k), .int (i32 x1), .int (i32 x2)] RV iv av 116 P := by
  obtain ⟨hkc, hka, hkl, hkr0⟩ := Kk
  refine OkW.of rfl (by show _ ≤ 3; exact Nat.le_of_ble_eq_true rfl) fun X C0 hR => ?_
  have C : CX Y X RX2 "close" cX2_close 3 none (e + 1) 0 0 := C0
  show Wa Y X 3 (g_MQ Y X 0 (g_N RV 116 P) 0 0) 0 0 0 [(0, .ref (gl_b Y + k)), (1, .int (i32 x1)), (2, .int (i32 x2))] [] RV iv av 116
  refine r_iload_n (pc' := 1) C 1 rfl rfl dX2_close_0 rfl ?_
  refine r_if_lt (pc' := 4) (tgt := 18) C hx1 dX2_close_1 (by decide) rfl (fun c1 => ?_) (fun c1 => ?_)
  · replace h := h.1 c1
    exact r_vret C ⟨rfl, rfl, h⟩ dX2_close_18
  · replace h := h.2 c1
    refine r_iload_n (pc' := 5) C 2 rfl rfl dX2_close_4 rfl ?_
    refine r_if_lt (pc' := 8) (tgt := 18) C hx2 dX2_close_5 (by decide) rfl (fun c2 => ?_) (fun c2 => ?_)
    · replace h := h.1 c2
      exact r_vret C ⟨rfl, rfl, h⟩ dX2_close_18
    · replace h := h.2 c2
      refine r_iload_n (pc' := 9) C 1 rfl rfl dX2_close_8 rfl ?_
      refine r_aload_n (pc' := 10) C 0 rfl rfl dX2_close_9 rfl ?_
      refine r_geti (pc' := 13) (k := k) C fl_X2_13 (by omega) hkc (by decide) fr_2_1 dX2_close_10 rfl (fun f3 => ?_)
      replace h := h f3
      refine r_iload_n (pc' := 14) C 2 rfl rfl dX2_close_13 rfl ?_
      refine r_isub (pc' := 15) C dX2_close_14 rfl ?_
      have o4 := h.1
      replace h := h.2
      refine r_icmp_le (pc' := 18) (tgt := 19) C hx1 o4 dX2_close_15 (by decide) rfl (fun c5 => ?_) (fun c5 => ?_)
      · replace h := h.1 c5
        refine r_aload_n (pc' := 20) C 0 rfl rfl dX2_close_19 rfl ?_
        refine r_getr (pc' := 23) (k := k) (r := k + 1) C fl_X2_7 (by omega) hkc (by decide) fr_2_0 hkr0 dX2_close_20 rfl ?_
        refine r_iload_n (pc' := 24) C 1 rfl rfl dX2_close_23 rfl ?_
        refine r_iload_n (pc' := 25) C 2 rfl rfl dX2_close_24 rfl ?_
        refine r_iadd (pc' := 26) C dX2_close_25 rfl ?_
        refine r_aload_n (pc' := 27) C 0 rfl rfl dX2_close_26 rfl ?_
        refine r_getr (pc' := 30) (k := k) (r := k + 1) C fl_X2_7 (by omega) hkc (by decide) fr_2_0 hkr0 dX2_close_27 rfl ?_
        refine r_iload_n (pc' := 31) C 1 rfl rfl dX2_close_30 rfl ?_
        refine r_aload_n (pc' := 32) C 0 rfl rfl dX2_close_31 rfl ?_
        refine r_geti (pc' := 35) (k := k) C fl_X2_13 (by omega) hkc (by decide) fr_2_1 dX2_close_32 rfl (fun f6 => ?_)
        refine r_iload_n (pc' := 36) C 1 rfl rfl dX2_close_35 rfl ?_
        refine r_isub (pc' := 37) C dX2_close_36 rfl ?_
        refine r_iload_n (pc' := 38) C 2 rfl rfl dX2_close_37 rfl ?_
        refine r_isub (pc' := 39) C dX2_close_38 rfl ?_
        have o7 := h.1
        replace h := h.2
        have o8 := h.1
        replace h := h.2
        have o9 := h.1
        replace h := h.2
        have o10 := h.1
        replace h := h.2
        have o11 := h.1
        replace h := h.2
        refine r_copy (pc' := 42) (k0 := k + 1) (k1 := k + 1) C ml_X2_21 wd_cpy_n wd_cpy_s wd_sys (by omega) (Nat.le_of_ble_eq_true rfl) (by omega) hka (by omega) hka o7 o8 o9 o10 o11 dX2_close_39 rfl ?_
        refine r_aload_n (pc' := 43) C 0 rfl rfl dX2_close_42 rfl ?_
        refine r_dup (pc' := 44) C rfl dX2_close_43 rfl ?_
        refine r_geti (pc' := 47) (k := k) C fl_X2_13 (by omega) hkc (by decide) fr_2_1 dX2_close_44 rfl (fun f12 => ?_)
        refine r_iload_n (pc' := 48) C 2 rfl rfl dX2_close_47 rfl ?_
        refine r_isub (pc' := 49) C dX2_close_48 rfl ?_
        refine r_puti (pc' := 52) (k := k) C fl_X2_13 (by omega) hkc (by decide) fr_2_1 o4 dX2_close_49 rfl ?_
        exact r_vret C ⟨rfl, rfl, h⟩ dX2_close_52
      · replace h := h.2 c5
        exact r_vret C ⟨rfl, rfl, h⟩ dX2_close_18
def L_X2_eightFrom_23 (Y : Gl) (X : Cx) (P : PN) (k : Nat) (x1 : Int) (x2 : Int) (x4 : Int) (iv av : IVt) : Prop := Wa Y X 5 (g_MQ Y X 2 (g_N RV 116 P) 0 0) 0 0 23 [(0, .ref (gl_b Y + k)), (1, .int (i32 x1)), (2, .long (i64 x2)), (4, .int (i32 x4))] [] RV iv av 116
set_option maxHeartbeats 4000000 in
set_option maxRecDepth 100000 in
theorem w_X2_eightFrom_23 {Y : Gl} {X : Cx} {e : Nat} {P : PN} {k : Nat} {x1 : Int} {x2 : Int} {x4 : Int} {iv av : IVt} (C : CX Y X RX2 "eightFrom" cX2_eightFrom 5 (some .long) (e + 1) 0 0) (Kk : BytesK k) (hx2 : InL x2) (hx4 : InR x4) (h :
    ((x4 < 0) →
      P x2 iv av
    ) ∧
    ((¬ x4 < 0) →
      (InR ((8 * x1) + x4)) ∧
      OkN Y e mX2_at [.ref (gl_b Y + k), .int (i32 ((8 * x1) + x4))] RV iv av 116 (fun r3 iv4 av5 =>
        (InR r3) →
        L_X2_eightFrom_23 Y X P k x1 (g_orL (x2 * 256) r3) (x4 + (-1)) iv4 av5
      )
    )) : L_X2_eightFrom_23 Y X P k x1 x2 x4 iv av := by
  obtain ⟨hkc, hka, hkl, hkr0⟩ := Kk
  unfold L_X2_eightFrom_23
  refine r_iload (pc' := 25) C 3 rfl dX2_eightFrom_23 rfl ?_
  refine r_if_lt (pc' := 28) (tgt := 52) C hx4 dX2_eightFrom_25 (by decide) rfl (fun c1 => ?_) (fun c1 => ?_)
  · replace h := h.1 c1
    refine r_lload_n (pc' := 53) C 2 rfl rfl dX2_eightFrom_52 rfl ?_
    exact r_lret C hx2 ⟨rfl, rfl, h⟩ dX2_eightFrom_53
  · replace h := h.2 c1
    refine r_lload_n (pc' := 29) C 2 rfl rfl dX2_eightFrom_28 rfl ?_
    refine r_bipush (pc' := 31) C dX2_eightFrom_29 (by decide) rfl ?_
    refine r_lshlC (pc' := 32) (m := 256) C (by decide) (by decide) dX2_eightFrom_31 rfl ?_
    refine r_aload_n (pc' := 33) C 0 rfl rfl dX2_eightFrom_32 rfl ?_
    refine r_bipush (pc' := 35) C dX2_eightFrom_33 (by decide) rfl ?_
    refine r_iload_n (pc' := 36) C 1 rfl rfl dX2_eightFrom_35 rfl ?_
    refine r_imul (pc' := 37) C dX2_eightFrom_36 rfl ?_
    refine r_iload (pc' := 39) C 3 rfl dX2_eightFrom_37 rfl ?_
    refine r_iadd (pc' := 40) C dX2_eightFrom_39 rfl ?_
    have o2 := h.1
    replace h := h.2
    refine c_Vi (pc' := 43) (mt := mX2_at) (as := [.int (i32 ((8 * x1) + x4))]) (st := [.long (i64 (x2 * 256))]) (k := k) C h rfl cl_X2_at ml_X2_27 im_X2_at sl_X2_at (by omega) (Nat.le_refl _) (Nat.le_refl _) rfl (by omega) hkc (by decide) rfl rfl rfl (Nat.le_of_ble_eq_true rfl) dX2_eightFrom_40 rfl (fun r3 iv4 av5 f6 h => ?_)
    replace h := h f6
    refine r_i2l (pc' := 44) C f6 dX2_eightFrom_43 rfl ?_
    refine r_lor (pc' := 45) C dX2_eightFrom_44 rfl ?_
    refine r_lstore_n (pc' := 46) (ls' := [(0, .ref (gl_b Y + k)), (1, .int (i32 x1)), (2, .long (i64 (g_orL (x2 * 256) r3))), (4, .int (i32 x4))]) C (by decide) rfl rfl dX2_eightFrom_45 rfl ?_
    refine r_iinc (pc' := 49) (ls' := [(0, .ref (gl_b Y + k)), (1, .int (i32 x1)), (2, .long (i64 (g_orL (x2 * 256) r3))), (4, .int (i32 (x4 + (-1))))]) C 3 rfl (by decide) rfl dX2_eightFrom_46 rfl ?_
    refine r_goto (tgt := 23) C dX2_eightFrom_49 (by decide) ?_
    exact Wa.sub [0, 1, 2, 3] rfl h
set_option maxHeartbeats 4000000 in
set_option maxRecDepth 100000 in
theorem o_X2_eightFrom {Y : Gl} {e : Nat} {P : PN} {k : Nat} {x1 : Int} {iv av : IVt} (Kk : BytesK k) (hx1 : InR x1) (h : ∀ X : Cx, CX Y X RX2 "eightFrom" cX2_eightFrom 5 (some .long) (e + 1) 0 0 →
    ((x1 < 0) →
      P 0 iv av
    ) ∧
    ((¬ x1 < 0) →
      ((InR (iv k 1)) →
        (0 ≤ (iv k 1)) ∧
        ((x1 ≤ ((iv k 1) / 8)) →
          L_X2_eightFrom_23 Y X P k x1 0 7 iv av
        ) ∧
        ((¬ x1 ≤ ((iv k 1) / 8)) →
          P 0 iv av
        )
      )
    )) : OkN Y (e + 1) mX2_eightFrom [.ref (gl_b Y + k), .int (i32 x1)] RV iv av 116 P := by
  obtain ⟨hkc, hka, hkl, hkr0⟩ := Kk
  refine OkW.of rfl (by show _ ≤ 5; exact Nat.le_of_ble_eq_true rfl) fun X C0 hR => ?_
  have C : CX Y X RX2 "eightFrom" cX2_eightFrom 5 (some .long) (e + 1) 0 0 := C0
  replace h := h X C
  show Wa Y X 5 (g_MQ Y X 2 (g_N RV 116 P) 0 0) 0 0 0 [(0, .ref (gl_b Y + k)), (1, .int (i32 x1))] [] RV iv av 116
  refine r_iload_n (pc' := 1) C 1 rfl rfl dX2_eightFrom_0 rfl ?_
  refine r_if_lt (pc' := 4) (tgt := 15) C hx1 dX2_eightFrom_1 (by decide) rfl (fun c1 => ?_) (fun c1 => ?_)
  · replace h := h.1 c1
    refine r_lconst (pc' := 16) (x := 0) C dX2_eightFrom_15 rfl rfl ?_
    exact r_lret C (by decide) ⟨rfl, rfl, h⟩ dX2_eightFrom_16
  · replace h := h.2 c1
    refine r_iload_n (pc' := 5) C 1 rfl rfl dX2_eightFrom_4 rfl ?_
    refine r_aload_n (pc' := 6) C 0 rfl rfl dX2_eightFrom_5 rfl ?_
    refine r_geti (pc' := 9) (k := k) C fl_X2_13 (by omega) hkc (by decide) fr_2_1 dX2_eightFrom_6 rfl (fun f2 => ?_)
    replace h := h f2
    refine r_bipush (pc' := 11) C dX2_eightFrom_9 (by decide) rfl ?_
    have o3 := h.1
    replace h := h.2
    refine r_idiv (pc' := 12) C ⟨o3, f2⟩ ⟨(by decide), (by decide)⟩ dX2_eightFrom_11 rfl ?_
    refine r_icmp_le (pc' := 15) (tgt := 17) C hx1 (by omega) dX2_eightFrom_12 (by decide) rfl (fun c4 => ?_) (fun c4 => ?_)
    · replace h := h.1 c4
      refine r_lconst (pc' := 18) (x := 0) C dX2_eightFrom_17 rfl rfl ?_
      refine r_lstore_n (pc' := 19) (ls' := [(0, .ref (gl_b Y + k)), (1, .int (i32 x1)), (2, .long (i64 0))]) C (by decide) rfl rfl dX2_eightFrom_18 rfl ?_
      refine r_bipush (pc' := 21) C dX2_eightFrom_19 (by decide) rfl ?_
      refine r_istore (pc' := 23) (ls' := [(0, .ref (gl_b Y + k)), (1, .int (i32 x1)), (2, .long (i64 0)), (4, .int (i32 7))]) C (by decide) rfl dX2_eightFrom_21 rfl ?_
      exact Wa.sub [0, 1, 2, 3] rfl h
    · replace h := h.2 c4
      refine r_lconst (pc' := 16) (x := 0) C dX2_eightFrom_15 rfl rfl ?_
      exact r_lret C (by decide) ⟨rfl, rfl, h⟩ dX2_eightFrom_16
set_option maxHeartbeats 4000000 in
set_option maxRecDepth 100000 in
theorem o_X2_threeFrom {Y : Gl} {e : Nat} {P : PN} {k : Nat} {x1 : Int} {iv av : IVt} (Kk : BytesK k) (hx1 : InR x1) (h : 
    ((x1 < 0) →
      P 0 iv av
    ) ∧
    ((¬ x1 < 0) →
      ((InR (iv k 1)) →
        (InR ((min (iv k 1) (kl (k + 1) : Int)) - 2)) ∧
        ((x1 < ((min (iv k 1) (kl (k + 1) : Int)) - 2)) →
          (0 ≤ x1 ∧ x1 < (kl (k + 1) : Int)) ∧
          ((-128 ≤ (av (k + 1) x1.toNat) ∧ (av (k + 1) x1.toNat) ≤ 127) →
            (0 ≤ (x1 + 1) ∧ (x1 + 1) < (kl (k + 1) : Int)) ∧
            ((-128 ≤ (av (k + 1) (x1 + 1).toNat) ∧ (av (k + 1) (x1 + 1).toNat) ≤ 127) →
              (0 ≤ (x1 + 2) ∧ (x1 + 2) < (kl (k + 1) : Int)) ∧
              ((-128 ≤ (av (k + 1) (x1 + 2).toNat) ∧ (av (k + 1) (x1 + 2).toNat) ≤ 127) →
                P (g_or (g_or ((av (k + 1) x1.toNat) % 256) (((av (k + 1) (x1 + 1).toNat) % 256) * 256)) (((av (k + 1) (x1 + 2).toNat) % 256) * 65536)) iv av
              )
            )
          )
        ) ∧
        ((¬ x1 < ((min (iv k 1) (kl (k + 1) : Int)) - 2)) →
          P 0 iv av
        )
      )
    )) : OkN Y (e + 1) mX2_threeFrom [.ref (gl_b Y + k), .int (i32 x1)] RV iv av 116 P := by
  obtain ⟨hkc, hka, hkl, hkr0⟩ := Kk
  refine OkW.of rfl (by show _ ≤ 2; exact Nat.le_of_ble_eq_true rfl) fun X C0 hR => ?_
  have C : CX Y X RX2 "threeFrom" cX2_threeFrom 2 (some .int) (e + 1) 0 0 := C0
  show Wa Y X 2 (g_MQ Y X 1 (g_N RV 116 P) 0 0) 0 0 0 [(0, .ref (gl_b Y + k)), (1, .int (i32 x1))] [] RV iv av 116
  refine r_iload_n (pc' := 1) C 1 rfl rfl dX2_threeFrom_0 rfl ?_
  refine r_if_lt (pc' := 4) (tgt := 22) C hx1 dX2_threeFrom_1 (by decide) rfl (fun c1 => ?_) (fun c1 => ?_)
  · replace h := h.1 c1
    refine r_iconst (pc' := 23) C dX2_threeFrom_22 rfl ?_
    exact r_iret C (by decide) ⟨rfl, rfl, h⟩ dX2_threeFrom_23
  · replace h := h.2 c1
    refine r_iload_n (pc' := 5) C 1 rfl rfl dX2_threeFrom_4 rfl ?_
    refine r_aload_n (pc' := 6) C 0 rfl rfl dX2_threeFrom_5 rfl ?_
    refine r_geti (pc' := 9) (k := k) C fl_X2_13 (by omega) hkc (by decide) fr_2_1 dX2_threeFrom_6 rfl (fun f2 => ?_)
    replace h := h f2
    refine r_aload_n (pc' := 10) C 0 rfl rfl dX2_threeFrom_9 rfl ?_
    refine r_getr (pc' := 13) (k := k) (r := k + 1) C fl_X2_7 (by omega) hkc (by decide) fr_2_0 hkr0 dX2_threeFrom_10 rfl ?_
    refine r_alen (pc' := 14) (k := k + 1) (v := (kl (k + 1) : Int)) C (by omega) hka (by decide) rfl dX2_threeFrom_13 rfl ?_
    refine r_min (pc' := 17) C ml_X2_31 wd_min_s wd_math wd_min_c (by omega) (Nat.le_of_ble_eq_true rfl) (Nat.le_refl _) (Nat.le_refl _) f2 (by have := kl_le (k + 1); omega) dX2_threeFrom_14 rfl ?_
    refine r_iconst (pc' := 18) C dX2_threeFrom_17 rfl ?_
    refine r_isub (pc' := 19) C dX2_threeFrom_18 rfl ?_
    have o3 := h.1
    replace h := h.2
    refine r_icmp_lt (pc' := 22) (tgt := 24) C hx1 o3 dX2_threeFrom_19 (by decide) rfl (fun c4 => ?_) (fun c4 => ?_)
    · replace h := h.1 c4
      refine r_aload_n (pc' := 25) C 0 rfl rfl dX2_threeFrom_24 rfl ?_
      refine r_getr (pc' := 28) (k := k) (r := k + 1) C fl_X2_7 (by omega) hkc (by decide) fr_2_0 hkr0 dX2_threeFrom_25 rfl ?_
      refine r_iload_n (pc' := 29) C 1 rfl rfl dX2_threeFrom_28 rfl ?_
      have o5 := h.1
      replace h := h.2
      refine r_bald (pc' := 30) (k := k + 1) C (by omega) hka o5 dX2_threeFrom_29 rfl (fun f6 => ?_)
      replace h := h f6
      refine r_sipush (pc' := 33) C dX2_threeFrom_30 (by decide) rfl ?_
      refine r_iandM (pc' := 34) (m := 256) C 8 (by decide) (by decide) (by decide) dX2_threeFrom_33 rfl ?_
      refine r_aload_n (pc' := 35) C 0 rfl rfl dX2_threeFrom_34 rfl ?_
      refine r_getr (pc' := 38) (k := k) (r := k + 1) C fl_X2_7 (by omega) hkc (by decide) fr_2_0 hkr0 dX2_threeFrom_35 rfl ?_
      refine r_iload_n (pc' := 39) C 1 rfl rfl dX2_threeFrom_38 rfl ?_
      refine r_iconst (pc' := 40) C dX2_threeFrom_39 rfl ?_
      refine r_iadd (pc' := 41) C dX2_threeFrom_40 rfl ?_
      have o7 := h.1
      replace h := h.2
      refine r_bald (pc' := 42) (k := k + 1) C (by omega) hka o7 dX2_threeFrom_41 rfl (fun f8 => ?_)
      replace h := h f8
      refine r_sipush (pc' := 45) C dX2_threeFrom_42 (by decide) rfl ?_
      refine r_iandM (pc' := 46) (m := 256) C 8 (by decide) (by decide) (by decide) dX2_threeFrom_45 rfl ?_
      refine r_bipush (pc' := 48) C dX2_threeFrom_46 (by decide) rfl ?_
      refine r_ishlC (pc' := 49) (m := 256) C (by decide) (by decide) dX2_threeFrom_48 rfl ?_
      refine r_ior (pc' := 50) C dX2_threeFrom_49 rfl ?_
      refine r_aload_n (pc' := 51) C 0 rfl rfl dX2_threeFrom_50 rfl ?_
      refine r_getr (pc' := 54) (k := k) (r := k + 1) C fl_X2_7 (by omega) hkc (by decide) fr_2_0 hkr0 dX2_threeFrom_51 rfl ?_
      refine r_iload_n (pc' := 55) C 1 rfl rfl dX2_threeFrom_54 rfl ?_
      refine r_iconst (pc' := 56) C dX2_threeFrom_55 rfl ?_
      refine r_iadd (pc' := 57) C dX2_threeFrom_56 rfl ?_
      have o9 := h.1
      replace h := h.2
      refine r_bald (pc' := 58) (k := k + 1) C (by omega) hka o9 dX2_threeFrom_57 rfl (fun f10 => ?_)
      replace h := h f10
      refine r_sipush (pc' := 61) C dX2_threeFrom_58 (by decide) rfl ?_
      refine r_iandM (pc' := 62) (m := 256) C 8 (by decide) (by decide) (by decide) dX2_threeFrom_61 rfl ?_
      refine r_bipush (pc' := 64) C dX2_threeFrom_62 (by decide) rfl ?_
      refine r_ishlC (pc' := 65) (m := 65536) C (by decide) (by decide) dX2_threeFrom_64 rfl ?_
      refine r_ior (pc' := 66) C dX2_threeFrom_65 rfl ?_
      exact r_iret C (g_or_in _ _) ⟨rfl, rfl, h⟩ dX2_threeFrom_66
    · replace h := h.2 c4
      refine r_iconst (pc' := 23) C dX2_threeFrom_22 rfl ?_
      exact r_iret C (by decide) ⟨rfl, rfl, h⟩ dX2_threeFrom_23
def L_X2_isZero_2 (Y : Gl) (X : Cx) (P : PN) (k : Nat) (x1 : Int) (x2 : Int) (x3 : Int) (iv av : IVt) : Prop := Wa Y X 4 (g_MQ Y X 1 (g_N RV 116 P) 0 0) 0 0 2 [(0, .ref (gl_b Y + k)), (1, .int (i32 x1)), (2, .int (i32 x2)), (3, .int (i32 x3))] [] RV iv av 116
set_option maxHeartbeats 4000000 in
set_option maxRecDepth 100000 in
theorem w_X2_isZero_2 {Y : Gl} {X : Cx} {e : Nat} {P : PN} {k : Nat} {x1 : Int} {x2 : Int} {x3 : Int} {iv av : IVt} (C : CX Y X RX2 "isZero" cX2_isZero 4 (some .boolean) (e + 1) 0 0) (Kk : BytesK k) (hx2 : InR x2) (hx3 : InR x3) (h :
    ((x2 ≤ x3) →
      P 1 iv av
    ) ∧
    ((¬ x2 ≤ x3) →
      (InR (x1 + x3)) ∧
      OkN Y e mX2_at [.ref (gl_b Y + k), .int (i32 (x1 + x3))] RV iv av 116 (fun r3 iv4 av5 =>
        (InR r3) →
        ((r3 = 0) →
          L_X2_isZero_2 Y X P k x1 x2 (x3 + 1) iv4 av5
        ) ∧
        ((¬ r3 = 0) →
          P 0 iv4 av5
        )
      )
    )) : L_X2_isZero_2 Y X P k x1 x2 x3 iv av := by
  obtain ⟨hkc, hka, hkl, hkr0⟩ := Kk
  unfold L_X2_isZero_2
  refine r_iload_n (pc' := 3) C 3 rfl rfl dX2_isZero_2 rfl ?_
  refine r_iload_n (pc' := 4) C 2 rfl rfl dX2_isZero_3 rfl ?_
  refine r_icmp_ge (pc' := 7) (tgt := 25) C hx3 hx2 dX2_isZero_4 (by decide) rfl (fun c1 => ?_) (fun c1 => ?_)
  · replace h := h.1 c1
    refine r_iconst (pc' := 26) C dX2_isZero_25 rfl ?_
    exact r_zret C (by decide) ⟨rfl, rfl, h⟩ dX2_isZero_26
  · replace h := h.2 c1
    refine r_aload_n (pc' := 8) C 0 rfl rfl dX2_isZero_7 rfl ?_
    refine r_iload_n (pc' := 9) C 1 rfl rfl dX2_isZero_8 rfl ?_
    refine r_iload_n (pc' := 10) C 3 rfl rfl dX2_isZero_9 rfl ?_
    refine r_iadd (pc' := 11) C dX2_isZero_10 rfl ?_
    have o2 := h.1
    replace h := h.2
    refine c_Vi (pc' := 14) (mt := mX2_at) (as := [.int (i32 (x1 + x3))]) (st := []) (k := k) C h rfl cl_X2_at ml_X2_27 im_X2_at sl_X2_at (by omega) (Nat.le_refl _) (Nat.le_refl _) rfl (by omega) hkc (by decide) rfl rfl rfl (Nat.le_of_ble_eq_true rfl) dX2_isZero_11 rfl (fun r3 iv4 av5 f6 h => ?_)
    replace h := h f6
    refine r_if_eq (pc' := 17) (tgt := 19) C f6 dX2_isZero_14 (by decide) rfl (fun c7 => ?_) (fun c7 => ?_)
    · replace h := h.1 c7
      refine r_iinc (pc' := 22) (ls' := [(0, .ref (gl_b Y + k)), (1, .int (i32 x1)), (2, .int (i32 x2)), (3, .int (i32 (x3 + 1)))]) C 3 rfl (by decide) rfl dX2_isZero_19 rfl ?_
      refine r_goto (tgt := 2) C dX2_isZero_22 (by decide) ?_
      exact Wa.sub [0, 1, 2, 3] rfl h
    · replace h := h.2 c7
      refine r_iconst (pc' := 18) C dX2_isZero_17 rfl ?_
      exact r_zret C (by decide) ⟨rfl, rfl, h⟩ dX2_isZero_18
set_option maxHeartbeats 4000000 in
set_option maxRecDepth 100000 in
theorem o_X2_isZero {Y : Gl} {e : Nat} {P : PN} {k : Nat} {x1 : Int} {x2 : Int} {iv av : IVt} (Kk : BytesK k) (h : ∀ X : Cx, CX Y X RX2 "isZero" cX2_isZero 4 (some .boolean) (e + 1) 0 0 →
    L_X2_isZero_2 Y X P k x1 x2 0 iv av) : OkN Y (e + 1) mX2_isZero [.ref (gl_b Y + k), .int (i32 x1), .int (i32 x2)] RV iv av 116 P := by
  obtain ⟨hkc, hka, hkl, hkr0⟩ := Kk
  refine OkW.of rfl (by show _ ≤ 4; exact Nat.le_of_ble_eq_true rfl) fun X C0 hR => ?_
  have C : CX Y X RX2 "isZero" cX2_isZero 4 (some .boolean) (e + 1) 0 0 := C0
  replace h := h X C
  show Wa Y X 4 (g_MQ Y X 1 (g_N RV 116 P) 0 0) 0 0 0 [(0, .ref (gl_b Y + k)), (1, .int (i32 x1)), (2, .int (i32 x2))] [] RV iv av 116
  refine r_iconst (pc' := 1) C dX2_isZero_0 rfl ?_
  refine r_istore_n (pc' := 2) (ls' := [(0, .ref (gl_b Y + k)), (1, .int (i32 x1)), (2, .int (i32 x2)), (3, .int (i32 0))]) C (by decide) rfl rfl dX2_isZero_1 rfl ?_
  exact Wa.sub [0, 1, 2, 3] rfl h
def L_X2_sameFrom_53 (Y : Gl) (X : Cx) (P : PN) (k : Nat) (x1 : Int) (x2 : Int) (x5 : Int) (x6 : Int) (iv av : IVt) : Prop := Wa Y X 7 (g_MQ Y X 1 (g_N RV 116 P) 0 0) 0 0 53 [(0, .ref (gl_b Y + k)), (1, .int (i32 x1)), (2, .int (i32 x2)), (5, .int (i32 x5)), (6, .int (i32 x6))] [] RV iv av 116
set_option maxHeartbeats 4000000 in
set_option maxRecDepth 100000 in
theorem w_X2_sameFrom_53 {Y : Gl} {X : Cx} {e : Nat} {P : PN} {k : Nat} {x1 : Int} {x2 : Int} {x5 : Int} {x6 : Int} {iv av : IVt} (C : CX Y X RX2 "sameFrom" cX2_sameFrom 7 (some .int) (e + 1) 0 0) (Kk : BytesK k) (hx5 : InR x5) (hx6 : InR x6) (h :
    ((x5 ≤ x6) →
      P x6 iv av
    ) ∧
    ((¬ x5 ≤ x6) →
      (0 ≤ (x1 + x6) ∧ (x1 + x6) < (kl (k + 1) : Int)) ∧
      ((-128 ≤ (av (k + 1) (x1 + x6).toNat) ∧ (av (k + 1) (x1 + x6).toNat) ≤ 127) →
        (0 ≤ (x2 + x6) ∧ (x2 + x6) < (kl (k + 1) : Int)) ∧
        ((-128 ≤ (av (k + 1) (x2 + x6).toNat) ∧ (av (k + 1) (x2 + x6).toNat) ≤ 127) →
          ((¬ (av (k + 1) (x1 + x6).toNat) = (av (k + 1) (x2 + x6).toNat)) →
            P x6 iv av
          ) ∧
          (((av (k + 1) (x1 + x6).toNat) = (av (k + 1) (x2 + x6).toNat)) →
            L_X2_sameFrom_53 Y X P k x1 x2 x5 (x6 + 1) iv av
          )
        )
      )
    )) : L_X2_sameFrom_53 Y X P k x1 x2 x5 x6 iv av := by
  obtain ⟨hkc, hka, hkl, hkr0⟩ := Kk
  unfold L_X2_sameFrom_53
  refine r_iload (pc' := 55) C 4 rfl dX2_sameFrom_53 rfl ?_
  refine r_iload (pc' := 57) C 3 rfl dX2_sameFrom_55 rfl ?_
  refine r_icmp_ge (pc' := 60) (tgt := 87) C hx6 hx5 dX2_sameFrom_57 (by decide) rfl (fun c1 => ?_) (fun c1 => ?_)
  · replace h := h.1 c1
    refine r_iload (pc' := 89) C 4 rfl dX2_sameFrom_87 rfl ?_
    exact r_iret C hx6 ⟨rfl, rfl, h⟩ dX2_sameFrom_89
  · replace h := h.2 c1
    refine r_aload_n (pc' := 61) C 0 rfl rfl dX2_sameFrom_60 rfl ?_
    refine r_getr (pc' := 64) (k := k) (r := k + 1) C fl_X2_7 (by omega) hkc (by decide) fr_2_0 hkr0 dX2_sameFrom_61 rfl ?_
    refine r_iload_n (pc' := 65) C 1 rfl rfl dX2_sameFrom_64 rfl ?_
    refine r_iload (pc' := 67) C 4 rfl dX2_sameFrom_65 rfl ?_
    refine r_iadd (pc' := 68) C dX2_sameFrom_67 rfl ?_
    have o2 := h.1
    replace h := h.2
    refine r_bald (pc' := 69) (k := k + 1) C (by omega) hka o2 dX2_sameFrom_68 rfl (fun f3 => ?_)
    replace h := h f3
    refine r_aload_n (pc' := 70) C 0 rfl rfl dX2_sameFrom_69 rfl ?_
    refine r_getr (pc' := 73) (k := k) (r := k + 1) C fl_X2_7 (by omega) hkc (by decide) fr_2_0 hkr0 dX2_sameFrom_70 rfl ?_
    refine r_iload_n (pc' := 74) C 2 rfl rfl dX2_sameFrom_73 rfl ?_
    refine r_iload (pc' := 76) C 4 rfl dX2_sameFrom_74 rfl ?_
    refine r_iadd (pc' := 77) C dX2_sameFrom_76 rfl ?_
    have o4 := h.1
    replace h := h.2
    refine r_bald (pc' := 78) (k := k + 1) C (by omega) hka o4 dX2_sameFrom_77 rfl (fun f5 => ?_)
    replace h := h f5
    refine r_icmp_ne (pc' := 81) (tgt := 87) C (by omega) (by omega) dX2_sameFrom_78 (by decide) rfl (fun c6 => ?_) (fun c6 => ?_)
    · replace h := h.1 c6
      refine r_iload (pc' := 89) C 4 rfl dX2_sameFrom_87 rfl ?_
      exact r_iret C hx6 ⟨rfl, rfl, h⟩ dX2_sameFrom_89
    · replace h := h.2 c6
      refine r_iinc (pc' := 84) (ls' := [(0, .ref (gl_b Y + k)), (1, .int (i32 x1)), (2, .int (i32 x2)), (5, .int (i32 x5)), (6, .int (i32 (x6 + 1)))]) C 4 rfl (by decide) rfl dX2_sameFrom_81 rfl ?_
      refine r_goto (tgt := 53) C dX2_sameFrom_84 (by decide) ?_
      exact Wa.sub [0, 1, 2, 3, 4] rfl h
set_option maxHeartbeats 4000000 in
set_option maxRecDepth 100000 in
theorem o_X2_sameFrom {Y : Gl} {e : Nat} {P : PN} {k : Nat} {x1 : Int} {x2 : Int} {x3 : Int} {iv av : IVt} (Kk : BytesK k) (hx1 : InR x1) (hx2 : InR x2) (hx3 : InR x3) (h : ∀ X : Cx, CX Y X RX2 "sameFrom" cX2_sameFrom 7 (some .int) (e + 1) 0 0 →
    ((InR (iv k 1)) →
      ((x1 < 0) →
        P 0 iv av
      ) ∧
      ((¬ x1 < 0) →
        ((x2 < 0) →
          P 0 iv av
        ) ∧
        ((¬ x2 < 0) →
          (((min (iv k 1) (kl (k + 1) : Int)) ≤ x1) →
            P 0 iv av
          ) ∧
          ((¬ (min (iv k 1) (kl (k + 1) : Int)) ≤ x1) →
            ((x2 < (min (iv k 1) (kl (k + 1) : Int))) →
              (InR ((min (iv k 1) (kl (k + 1) : Int)) - (max x1 x2))) ∧
              L_X2_sameFrom_53 Y X P k x1 x2 (min x3 ((min (iv k 1) (kl (k + 1) : Int)) - (max x1 x2))) 0 iv av
            ) ∧
            ((¬ x2 < (min (iv k 1) (kl (k + 1) : Int))) →
              P 0 iv av
            )
          )
        )
      )
    )) : OkN Y (e + 1) mX2_sameFrom [.ref (gl_b Y + k), .int (i32 x1), .int (i32 x2), .int (i32 x3)] RV iv av 116 P := by
  obtain ⟨hkc, hka, hkl, hkr0⟩ := Kk
  refine OkW.of rfl (by show _ ≤ 7; exact Nat.le_of_ble_eq_true rfl) fun X C0 hR => ?_
  have C : CX Y X RX2 "sameFrom" cX2_sameFrom 7 (some .int) (e + 1) 0 0 := C0
  replace h := h X C
  show Wa Y X 7 (g_MQ Y X 1 (g_N RV 116 P) 0 0) 0 0 0 [(0, .ref (gl_b Y + k)), (1, .int (i32 x1)), (2, .int (i32 x2)), (3, .int (i32 x3))] [] RV iv av 116
  refine r_aload_n (pc' := 1) C 0 rfl rfl dX2_sameFrom_0 rfl ?_
  refine r_geti (pc' := 4) (k := k) C fl_X2_13 (by omega) hkc (by decide) fr_2_1 dX2_sameFrom_1 rfl (fun f1 => ?_)
  replace h := h f1
  refine r_aload_n (pc' := 5) C 0 rfl rfl dX2_sameFrom_4 rfl ?_
  refine r_getr (pc' := 8) (k := k) (r := k + 1) C fl_X2_7 (by omega) hkc (by decide) fr_2_0 hkr0 dX2_sameFrom_5 rfl ?_
  refine r_alen (pc' := 9) (k := k + 1) (v := (kl (k + 1) : Int)) C (by omega) hka (by decide) rfl dX2_sameFrom_8 rfl ?_
  refine r_min (pc' := 12) C ml_X2_31 wd_min_s wd_math wd_min_c (by omega) (Nat.le_of_ble_eq_true rfl) (Nat.le_refl _) (Nat.le_refl _) f1 (by have := kl_le (k + 1); omega) dX2_sameFrom_9 rfl ?_
  refine r_istore (pc' := 14) (ls' := [(0, .ref (gl_b Y + k)), (1, .int (i32 x1)), (2, .int (i32 x2)), (3, .int (i32 x3)), (4, .int (i32 (min (iv k 1) (kl (k + 1) : Int))))]) C (by decide) rfl dX2_sameFrom_12 rfl ?_
  refine r_iload_n (pc' := 15) C 1 rfl rfl dX2_sameFrom_14 rfl ?_
  refine r_if_lt (pc' := 18) (tgt := 34) C hx1 dX2_sameFrom_15 (by decide) rfl (fun c2 => ?_) (fun c2 => ?_)
  · replace h := h.1 c2
    refine r_iconst (pc' := 35) C dX2_sameFrom_34 rfl ?_
    exact r_iret C (by decide) ⟨rfl, rfl, h⟩ dX2_sameFrom_35
  · replace h := h.2 c2
    refine r_iload_n (pc' := 19) C 2 rfl rfl dX2_sameFrom_18 rfl ?_
    refine r_if_lt (pc' := 22) (tgt := 34) C hx2 dX2_sameFrom_19 (by decide) rfl (fun c3 => ?_) (fun c3 => ?_)
    · replace h := h.1 c3
      refine r_iconst (pc' := 35) C dX2_sameFrom_34 rfl ?_
      exact r_iret C (by decide) ⟨rfl, rfl, h⟩ dX2_sameFrom_35
    · replace h := h.2 c3
      refine r_iload_n (pc' := 23) C 1 rfl rfl dX2_sameFrom_22 rfl ?_
      refine r_iload (pc' := 25) C 4 rfl dX2_sameFrom_23 rfl ?_
      refine r_icmp_ge (pc' := 28) (tgt := 34) C hx1 (by omega) dX2_sameFrom_25 (by decide) rfl (fun c4 => ?_) (fun c4 => ?_)
      · replace h := h.1 c4
        refine r_iconst (pc' := 35) C dX2_sameFrom_34 rfl ?_
        exact r_iret C (by decide) ⟨rfl, rfl, h⟩ dX2_sameFrom_35
      · replace h := h.2 c4
        refine r_iload_n (pc' := 29) C 2 rfl rfl dX2_sameFrom_28 rfl ?_
        refine r_iload (pc' := 31) C 4 rfl dX2_sameFrom_29 rfl ?_
        refine r_icmp_lt (pc' := 34) (tgt := 36) C hx2 (by omega) dX2_sameFrom_31 (by decide) rfl (fun c5 => ?_) (fun c5 => ?_)
        · replace h := h.1 c5
          refine r_iload_n (pc' := 37) C 3 rfl rfl dX2_sameFrom_36 rfl ?_
          refine r_iload (pc' := 39) C 4 rfl dX2_sameFrom_37 rfl ?_
          refine r_iload_n (pc' := 40) C 1 rfl rfl dX2_sameFrom_39 rfl ?_
          refine r_iload_n (pc' := 41) C 2 rfl rfl dX2_sameFrom_40 rfl ?_
          refine r_max (pc' := 44) C ml_X2_37 wd_max_s wd_math wd_max_c (by omega) (Nat.le_of_ble_eq_true rfl) (Nat.le_refl _) (Nat.le_refl _) hx1 hx2 dX2_sameFrom_41 rfl ?_
          refine r_isub (pc' := 45) C dX2_sameFrom_44 rfl ?_
          have o6 := h.1
          replace h := h.2
          refine r_min (pc' := 48) C ml_X2_31 wd_min_s wd_math wd_min_c (by omega) (Nat.le_of_ble_eq_true rfl) (Nat.le_refl _) (Nat.le_refl _) hx3 o6 dX2_sameFrom_45 rfl ?_
          refine r_istore (pc' := 50) (ls' := [(0, .ref (gl_b Y + k)), (1, .int (i32 x1)), (2, .int (i32 x2)), (3, .int (i32 x3)), (4, .int (i32 (min (iv k 1) (kl (k + 1) : Int)))), (5, .int (i32 (min x3 ((min (iv k 1) (kl (k + 1) : Int)) - (max x1 x2)))))]) C (by decide) rfl dX2_sameFrom_48 rfl ?_
          refine r_iconst (pc' := 51) C dX2_sameFrom_50 rfl ?_
          refine r_istore (pc' := 53) (ls' := [(0, .ref (gl_b Y + k)), (1, .int (i32 x1)), (2, .int (i32 x2)), (3, .int (i32 x3)), (4, .int (i32 (min (iv k 1) (kl (k + 1) : Int)))), (5, .int (i32 (min x3 ((min (iv k 1) (kl (k + 1) : Int)) - (max x1 x2))))), (6, .int (i32 0))]) C (by decide) rfl dX2_sameFrom_51 rfl ?_
          exact Wa.sub [0, 1, 2, 5, 6] rfl h
        · replace h := h.2 c5
          refine r_iconst (pc' := 35) C dX2_sameFrom_34 rfl ?_
          exact r_iret C (by decide) ⟨rfl, rfl, h⟩ dX2_sameFrom_35
set_option maxHeartbeats 4000000 in
set_option maxRecDepth 100000 in
theorem o_X3_symbols {Y : Gl} {e : Nat} {rv : RVt} {n : Nat} {P : PN} {k : Nat} {iv av : IVt} (Kk : CodeK rv n k) (h : 
    P (kl (k + 1) : Int) iv av) : OkN Y e mX3_symbols [.ref (gl_b Y + k)] rv iv av n P := by
  obtain ⟨hkc, hka, hkb, hkd, hkl, hkr0, hkr1, hkr2⟩ := Kk
  refine OkW.of rfl (by show _ ≤ 1; exact Nat.le_of_ble_eq_true rfl) fun X C0 hR => ?_
  have C : CX Y X RX3 "symbols" cX3_symbols 1 (some .int) e 0 0 := C0
  show Wa Y X 1 (g_MQ Y X 1 (g_N rv n P) 0 0) 0 0 0 [(0, .ref (gl_b Y + k))] [] rv iv av n
  refine r_aload_n (pc' := 1) C 0 rfl rfl dX3_symbols_0 rfl ?_
  refine r_getr (pc' := 4) (k := k) (r := k + 1) C fl_X3_15 (by omega) hkc (by decide) fr_3_0 hkr0 dX3_symbols_1 rfl ?_
  refine r_alen (pc' := 5) (k := k + 1) (v := (kl (k + 1) : Int)) C (by omega) hka (by decide) rfl dX3_symbols_4 rfl ?_
  exact r_iret C (by have := kl_le (k + 1); omega) ⟨rfl, rfl, h⟩ dX3_symbols_5
def L_X3_forget_2 (Y : Gl) (X : Cx) (rv : RVt) (n : Nat) (P : PN) (k : Nat) (x1 : Int) (iv av : IVt) : Prop := Wa Y X 2 (g_MQ Y X 0 (g_N rv n P) 0 0) 0 0 2 [(0, .ref (gl_b Y + k)), (1, .int (i32 x1))] [] rv iv av n
set_option maxHeartbeats 4000000 in
set_option maxRecDepth 100000 in
theorem w_X3_forget_2 {Y : Gl} {X : Cx} {e : Nat} {rv : RVt} {n : Nat} {P : PN} {k : Nat} {x1 : Int} {iv av : IVt} (C : CX Y X RX3 "forget" cX3_forget 2 none e 0 0) (Kk : CodeK rv n k) (hx1 : InR x1) (h :
    (((kl (k + 1) : Int) ≤ x1) →
      P 0 iv av
    ) ∧
    ((¬ (kl (k + 1) : Int) ≤ x1) →
      (0 ≤ x1 ∧ x1 < (kl (k + 1) : Int)) ∧
      L_X3_forget_2 Y X rv n P k (x1 + 1) iv (up2 av (k + 1) x1.toNat 0)
    )) : L_X3_forget_2 Y X rv n P k x1 iv av := by
  obtain ⟨hkc, hka, hkb, hkd, hkl, hkr0, hkr1, hkr2⟩ := Kk
  unfold L_X3_forget_2
  refine r_iload_n (pc' := 3) C 1 rfl rfl dX3_forget_2 rfl ?_
  refine r_aload_n (pc' := 4) C 0 rfl rfl dX3_forget_3 rfl ?_
  refine r_getr (pc' := 7) (k := k) (r := k + 1) C fl_X3_15 (by omega) hkc (by decide) fr_3_0 hkr0 dX3_forget_4 rfl ?_
  refine r_alen (pc' := 8) (k := k + 1) (v := (kl (k + 1) : Int)) C (by omega) hka (by decide) rfl dX3_forget_7 rfl ?_
  refine r_icmp_ge (pc' := 11) (tgt := 24) C hx1 (by have := kl_le (k + 1); omega) dX3_forget_8 (by decide) rfl (fun c1 => ?_) (fun c1 => ?_)
  · replace h := h.1 c1
    exact r_vret C ⟨rfl, rfl, h⟩ dX3_forget_24
  · replace h := h.2 c1
    refine r_aload_n (pc' := 12) C 0 rfl rfl dX3_forget_11 rfl ?_
    refine r_getr (pc' := 15) (k := k) (r := k + 1) C fl_X3_15 (by omega) hkc (by decide) fr_3_0 hkr0 dX3_forget_12 rfl ?_
    refine r_iload_n (pc' := 16) C 1 rfl rfl dX3_forget_15 rfl ?_
    refine r_iconst (pc' := 17) C dX3_forget_16 rfl ?_
    have o2 := h.1
    replace h := h.2
    refine r_iast (pc' := 18) (k := k + 1) C (by omega) hka o2 (by decide) dX3_forget_17 rfl ?_
    refine r_iinc (pc' := 21) (ls' := [(0, .ref (gl_b Y + k)), (1, .int (i32 (x1 + 1)))]) C 1 rfl (by decide) rfl dX3_forget_18 rfl ?_
    refine r_goto (tgt := 2) C dX3_forget_21 (by decide) ?_
    exact Wa.sub [0, 1] rfl h
set_option maxHeartbeats 4000000 in
set_option maxRecDepth 100000 in
theorem o_X3_forget {Y : Gl} {e : Nat} {rv : RVt} {n : Nat} {P : PN} {k : Nat} {iv av : IVt} (Kk : CodeK rv n k) (h : ∀ X : Cx, CX Y X RX3 "forget" cX3_forget 2 none e 0 0 →
    L_X3_forget_2 Y X rv n P k 0 iv av) : OkN Y e mX3_forget [.ref (gl_b Y + k)] rv iv av n P := by
  obtain ⟨hkc, hka, hkb, hkd, hkl, hkr0, hkr1, hkr2⟩ := Kk
  refine OkW.of rfl (by show _ ≤ 2; exact Nat.le_of_ble_eq_true rfl) fun X C0 hR => ?_
  have C : CX Y X RX3 "forget" cX3_forget 2 none e 0 0 := C0
  replace h := h X C
  show Wa Y X 2 (g_MQ Y X 0 (g_N rv n P) 0 0) 0 0 0 [(0, .ref (gl_b Y + k))] [] rv iv av n
  refine r_iconst (pc' := 1) C dX3_forget_0 rfl ?_
  refine r_istore_n (pc' := 2) (ls' := [(0, .ref (gl_b Y + k)), (1, .int (i32 0))]) C (by decide) rfl rfl dX3_forget_1 rfl ?_
  exact Wa.sub [0, 1] rfl h
set_option maxHeartbeats 4000000 in
set_option maxRecDepth 100000 in
theorem o_X3_count {Y : Gl} {e : Nat} {rv : RVt} {n : Nat} {P : PN} {k : Nat} {x1 : Int} {iv av : IVt} (Kk : CodeK rv n k) (hx1 : InR x1) (h : 
    ((x1 < 0) →
      P 0 iv av
    ) ∧
    ((¬ x1 < 0) →
      (((kl (k + 1) : Int) ≤ x1) →
        P 0 iv av
      ) ∧
      ((¬ (kl (k + 1) : Int) ≤ x1) →
        (0 ≤ x1 ∧ x1 < (kl (k + 1) : Int)) ∧
        ((InR (av (k + 1) x1.toNat)) →
          (InR ((av (k + 1) x1.toNat) + 1)) ∧
          P 0 iv (up2 av (k + 1) x1.toNat ((av (k + 1) x1.toNat) + 1))
        )
      )
    )) : OkN Y e mX3_count [.ref (gl_b Y + k), .int (i32 x1)] rv iv av n P := by
  obtain ⟨hkc, hka, hkb, hkd, hkl, hkr0, hkr1, hkr2⟩ := Kk
  refine OkW.of rfl (by show _ ≤ 2; exact Nat.le_of_ble_eq_true rfl) fun X C0 hR => ?_
  have C : CX Y X RX3 "count" cX3_count 2 none e 0 0 := C0
  show Wa Y X 2 (g_MQ Y X 0 (g_N rv n P) 0 0) 0 0 0 [(0, .ref (gl_b Y + k)), (1, .int (i32 x1))] [] rv iv av n
  refine r_iload_n (pc' := 1) C 1 rfl rfl dX3_count_0 rfl ?_
  refine r_if_lt (pc' := 4) (tgt := 23) C hx1 dX3_count_1 (by decide) rfl (fun c1 => ?_) (fun c1 => ?_)
  · replace h := h.1 c1
    exact r_vret C ⟨rfl, rfl, h⟩ dX3_count_23
  · replace h := h.2 c1
    refine r_iload_n (pc' := 5) C 1 rfl rfl dX3_count_4 rfl ?_
    refine r_aload_n (pc' := 6) C 0 rfl rfl dX3_count_5 rfl ?_
    refine r_getr (pc' := 9) (k := k) (r := k + 1) C fl_X3_15 (by omega) hkc (by decide) fr_3_0 hkr0 dX3_count_6 rfl ?_
    refine r_alen (pc' := 10) (k := k + 1) (v := (kl (k + 1) : Int)) C (by omega) hka (by decide) rfl dX3_count_9 rfl ?_
    refine r_icmp_ge (pc' := 13) (tgt := 23) C hx1 (by have := kl_le (k + 1); omega) dX3_count_10 (by decide) rfl (fun c2 => ?_) (fun c2 => ?_)
    · replace h := h.1 c2
      exact r_vret C ⟨rfl, rfl, h⟩ dX3_count_23
    · replace h := h.2 c2
      refine r_aload_n (pc' := 14) C 0 rfl rfl dX3_count_13 rfl ?_
      refine r_getr (pc' := 17) (k := k) (r := k + 1) C fl_X3_15 (by omega) hkc (by decide) fr_3_0 hkr0 dX3_count_14 rfl ?_
      refine r_iload_n (pc' := 18) C 1 rfl rfl dX3_count_17 rfl ?_
      refine r_dup2 (pc' := 19) C rfl rfl dX3_count_18 rfl ?_
      have o3 := h.1
      replace h := h.2
      refine r_iald (pc' := 20) (k := k + 1) C (by omega) hka o3 dX3_count_19 rfl (fun f4 => ?_)
      replace h := h f4
      refine r_iconst (pc' := 21) C dX3_count_20 rfl ?_
      refine r_iadd (pc' := 22) C dX3_count_21 rfl ?_
      have o5 := h.1
      replace h := h.2
      refine r_iast (pc' := 23) (k := k + 1) C (by omega) hka o3 o5 dX3_count_22 rfl ?_
      exact r_vret C ⟨rfl, rfl, h⟩ dX3_count_23
set_option maxHeartbeats 4000000 in
set_option maxRecDepth 100000 in
theorem o_X3_countOf {Y : Gl} {e : Nat} {rv : RVt} {n : Nat} {P : PN} {k : Nat} {x1 : Int} {iv av : IVt} (Kk : CodeK rv n k) (hx1 : InR x1) (h : 
    ((x1 < 0) →
      P 0 iv av
    ) ∧
    ((¬ x1 < 0) →
      (((kl (k + 1) : Int) ≤ x1) →
        P 0 iv av
      ) ∧
      ((¬ (kl (k + 1) : Int) ≤ x1) →
        (0 ≤ x1 ∧ x1 < (kl (k + 1) : Int)) ∧
        ((InR (av (k + 1) x1.toNat)) →
          P (av (k + 1) x1.toNat) iv av
        )
      )
    )) : OkN Y e mX3_countOf [.ref (gl_b Y + k), .int (i32 x1)] rv iv av n P := by
  obtain ⟨hkc, hka, hkb, hkd, hkl, hkr0, hkr1, hkr2⟩ := Kk
  refine OkW.of rfl (by show _ ≤ 2; exact Nat.le_of_ble_eq_true rfl) fun X C0 hR => ?_
  have C : CX Y X RX3 "countOf" cX3_countOf 2 (some .int) e 0 0 := C0
  show Wa Y X 2 (g_MQ Y X 1 (g_N rv n P) 0 0) 0 0 0 [(0, .ref (gl_b Y + k)), (1, .int (i32 x1))] [] rv iv av n
  refine r_iload_n (pc' := 1) C 1 rfl rfl dX3_countOf_0 rfl ?_
  refine r_if_lt (pc' := 4) (tgt := 22) C hx1 dX3_countOf_1 (by decide) rfl (fun c1 => ?_) (fun c1 => ?_)
  · replace h := h.1 c1
    refine r_iconst (pc' := 23) C dX3_countOf_22 rfl ?_
    exact r_iret C (by decide) ⟨rfl, rfl, h⟩ dX3_countOf_23
  · replace h := h.2 c1
    refine r_iload_n (pc' := 5) C 1 rfl rfl dX3_countOf_4 rfl ?_
    refine r_aload_n (pc' := 6) C 0 rfl rfl dX3_countOf_5 rfl ?_
    refine r_getr (pc' := 9) (k := k) (r := k + 1) C fl_X3_15 (by omega) hkc (by decide) fr_3_0 hkr0 dX3_countOf_6 rfl ?_
    refine r_alen (pc' := 10) (k := k + 1) (v := (kl (k + 1) : Int)) C (by omega) hka (by decide) rfl dX3_countOf_9 rfl ?_
    refine r_icmp_ge (pc' := 13) (tgt := 22) C hx1 (by have := kl_le (k + 1); omega) dX3_countOf_10 (by decide) rfl (fun c2 => ?_) (fun c2 => ?_)
    · replace h := h.1 c2
      refine r_iconst (pc' := 23) C dX3_countOf_22 rfl ?_
      exact r_iret C (by decide) ⟨rfl, rfl, h⟩ dX3_countOf_23
    · replace h := h.2 c2
      refine r_aload_n (pc' := 14) C 0 rfl rfl dX3_countOf_13 rfl ?_
      refine r_getr (pc' := 17) (k := k) (r := k + 1) C fl_X3_15 (by omega) hkc (by decide) fr_3_0 hkr0 dX3_countOf_14 rfl ?_
      refine r_iload_n (pc' := 18) C 1 rfl rfl dX3_countOf_17 rfl ?_
      have o3 := h.1
      replace h := h.2
      refine r_iald (pc' := 19) (k := k + 1) C (by omega) hka o3 dX3_countOf_18 rfl (fun f4 => ?_)
      replace h := h f4
      refine r_goto (tgt := 23) C dX3_countOf_19 (by decide) ?_
      exact r_iret C f4 ⟨rfl, rfl, h⟩ dX3_countOf_23
set_option maxHeartbeats 4000000 in
set_option maxRecDepth 100000 in
theorem o_X3_lengthOf {Y : Gl} {e : Nat} {rv : RVt} {n : Nat} {P : PN} {k : Nat} {x1 : Int} {iv av : IVt} (Kk : CodeK rv n k) (hx1 : InR x1) (h : 
    ((x1 < 0) →
      P 0 iv av
    ) ∧
    ((¬ x1 < 0) →
      (((kl (k + 2) : Int) ≤ x1) →
        P 0 iv av
      ) ∧
      ((¬ (kl (k + 2) : Int) ≤ x1) →
        (0 ≤ x1 ∧ x1 < (kl (k + 2) : Int)) ∧
        ((InR (av (k + 2) x1.toNat)) →
          P (av (k + 2) x1.toNat) iv av
        )
      )
    )) : OkN Y e mX3_lengthOf [.ref (gl_b Y + k), .int (i32 x1)] rv iv av n P := by
  obtain ⟨hkc, hka, hkb, hkd, hkl, hkr0, hkr1, hkr2⟩ := Kk
  refine OkW.of rfl (by show _ ≤ 2; exact Nat.le_of_ble_eq_true rfl) fun X C0 hR => ?_
  have C : CX Y X RX3 "lengthOf" cX3_lengthOf 2 (some .int) e 0 0 := C0
  show Wa Y X 2 (g_MQ Y X 1 (g_N rv n P) 0 0) 0 0 0 [(0, .ref (gl_b Y + k)), (1, .int (i32 x1))] [] rv iv av n
  refine r_iload_n (pc' := 1) C 1 rfl rfl dX3_lengthOf_0 rfl ?_
  refine r_if_lt (pc' := 4) (tgt := 22) C hx1 dX3_lengthOf_1 (by decide) rfl (fun c1 => ?_) (fun c1 => ?_)
  · replace h := h.1 c1
    refine r_iconst (pc' := 23) C dX3_lengthOf_22 rfl ?_
    exact r_iret C (by decide) ⟨rfl, rfl, h⟩ dX3_lengthOf_23
  · replace h := h.2 c1
    refine r_iload_n (pc' := 5) C 1 rfl rfl dX3_lengthOf_4 rfl ?_
    refine r_aload_n (pc' := 6) C 0 rfl rfl dX3_lengthOf_5 rfl ?_
    refine r_getr (pc' := 9) (k := k) (r := k + 2) C fl_X3_21 (by omega) hkc (by decide) fr_3_1 hkr1 dX3_lengthOf_6 rfl ?_
    refine r_alen (pc' := 10) (k := k + 2) (v := (kl (k + 2) : Int)) C (by omega) hkb (by decide) rfl dX3_lengthOf_9 rfl ?_
    refine r_icmp_ge (pc' := 13) (tgt := 22) C hx1 (by have := kl_le (k + 2); omega) dX3_lengthOf_10 (by decide) rfl (fun c2 => ?_) (fun c2 => ?_)
    · replace h := h.1 c2
      refine r_iconst (pc' := 23) C dX3_lengthOf_22 rfl ?_
      exact r_iret C (by decide) ⟨rfl, rfl, h⟩ dX3_lengthOf_23
    · replace h := h.2 c2
      refine r_aload_n (pc' := 14) C 0 rfl rfl dX3_lengthOf_13 rfl ?_
      refine r_getr (pc' := 17) (k := k) (r := k + 2) C fl_X3_21 (by omega) hkc (by decide) fr_3_1 hkr1 dX3_lengthOf_14 rfl ?_
      refine r_iload_n (pc' := 18) C 1 rfl rfl dX3_lengthOf_17 rfl ?_
      have o3 := h.1
      replace h := h.2
      refine r_iald (pc' := 19) (k := k + 2) C (by omega) hkb o3 dX3_lengthOf_18 rfl (fun f4 => ?_)
      replace h := h f4
      refine r_goto (tgt := 23) C dX3_lengthOf_19 (by decide) ?_
      exact r_iret C f4 ⟨rfl, rfl, h⟩ dX3_lengthOf_23
set_option maxHeartbeats 4000000 in
set_option maxRecDepth 100000 in
theorem o_X3_turnedOf {Y : Gl} {e : Nat} {rv : RVt} {n : Nat} {P : PN} {k : Nat} {x1 : Int} {iv av : IVt} (Kk : CodeK rv n k) (hx1 : InR x1) (h : 
    ((x1 < 0) →
      P 0 iv av
    ) ∧
    ((¬ x1 < 0) →
      (((kl (k + 3) : Int) ≤ x1) →
        P 0 iv av
      ) ∧
      ((¬ (kl (k + 3) : Int) ≤ x1) →
        (0 ≤ x1 ∧ x1 < (kl (k + 3) : Int)) ∧
        ((InR (av (k + 3) x1.toNat)) →
          P (av (k + 3) x1.toNat) iv av
        )
      )
    )) : OkN Y e mX3_turnedOf [.ref (gl_b Y + k), .int (i32 x1)] rv iv av n P := by
  obtain ⟨hkc, hka, hkb, hkd, hkl, hkr0, hkr1, hkr2⟩ := Kk
  refine OkW.of rfl (by show _ ≤ 2; exact Nat.le_of_ble_eq_true rfl) fun X C0 hR => ?_
  have C : CX Y X RX3 "turnedOf" cX3_turnedOf 2 (some .int) e 0 0 := C0
  show Wa Y X 2 (g_MQ Y X 1 (g_N rv n P) 0 0) 0 0 0 [(0, .ref (gl_b Y + k)), (1, .int (i32 x1))] [] rv iv av n
  refine r_iload_n (pc' := 1) C 1 rfl rfl dX3_turnedOf_0 rfl ?_
  refine r_if_lt (pc' := 4) (tgt := 22) C hx1 dX3_turnedOf_1 (by decide) rfl (fun c1 => ?_) (fun c1 => ?_)
  · replace h := h.1 c1
    refine r_iconst (pc' := 23) C dX3_turnedOf_22 rfl ?_
    exact r_iret C (by decide) ⟨rfl, rfl, h⟩ dX3_turnedOf_23
  · replace h := h.2 c1
    refine r_iload_n (pc' := 5) C 1 rfl rfl dX3_turnedOf_4 rfl ?_
    refine r_aload_n (pc' := 6) C 0 rfl rfl dX3_turnedOf_5 rfl ?_
    refine r_getr (pc' := 9) (k := k) (r := k + 3) C fl_X3_24 (by omega) hkc (by decide) fr_3_2 hkr2 dX3_turnedOf_6 rfl ?_
    refine r_alen (pc' := 10) (k := k + 3) (v := (kl (k + 3) : Int)) C (by omega) hkd (by decide) rfl dX3_turnedOf_9 rfl ?_
    refine r_icmp_ge (pc' := 13) (tgt := 22) C hx1 (by have := kl_le (k + 3); omega) dX3_turnedOf_10 (by decide) rfl (fun c2 => ?_) (fun c2 => ?_)
    · replace h := h.1 c2
      refine r_iconst (pc' := 23) C dX3_turnedOf_22 rfl ?_
      exact r_iret C (by decide) ⟨rfl, rfl, h⟩ dX3_turnedOf_23
    · replace h := h.2 c2
      refine r_aload_n (pc' := 14) C 0 rfl rfl dX3_turnedOf_13 rfl ?_
      refine r_getr (pc' := 17) (k := k) (r := k + 3) C fl_X3_24 (by omega) hkc (by decide) fr_3_2 hkr2 dX3_turnedOf_14 rfl ?_
      refine r_iload_n (pc' := 18) C 1 rfl rfl dX3_turnedOf_17 rfl ?_
      have o3 := h.1
      replace h := h.2
      refine r_iald (pc' := 19) (k := k + 3) C (by omega) hkd o3 dX3_turnedOf_18 rfl (fun f4 => ?_)
      replace h := h f4
      refine r_goto (tgt := 23) C dX3_turnedOf_19 (by decide) ?_
      exact r_iret C f4 ⟨rfl, rfl, h⟩ dX3_turnedOf_23
set_option maxHeartbeats 4000000 in
set_option maxRecDepth 100000 in
theorem o_X3_setLength {Y : Gl} {e : Nat} {rv : RVt} {n : Nat} {P : PN} {k : Nat} {x1 : Int} {x2 : Int} {iv av : IVt} (Kk : CodeK rv n k) (hx1 : InR x1) (hx2 : InR x2) (h : 
    ((x1 < 0) →
      P 0 iv av
    ) ∧
    ((¬ x1 < 0) →
      (((kl (k + 2) : Int) ≤ x1) →
        P 0 iv av
      ) ∧
      ((¬ (kl (k + 2) : Int) ≤ x1) →
        (0 ≤ x1 ∧ x1 < (kl (k + 2) : Int)) ∧
        P 0 iv (up2 av (k + 2) x1.toNat x2)
      )
    )) : OkN Y e mX3_setLength [.ref (gl_b Y + k), .int (i32 x1), .int (i32 x2)] rv iv av n P := by
  obtain ⟨hkc, hka, hkb, hkd, hkl, hkr0, hkr1, hkr2⟩ := Kk
  refine OkW.of rfl (by show _ ≤ 3; exact Nat.le_of_ble_eq_true rfl) fun X C0 hR => ?_
  have C : CX Y X RX3 "setLength" cX3_setLength 3 none e 0 0 := C0
  show Wa Y X 3 (g_MQ Y X 0 (g_N rv n P) 0 0) 0 0 0 [(0, .ref (gl_b Y + k)), (1, .int (i32 x1)), (2, .int (i32 x2))] [] rv iv av n
  refine r_iload_n (pc' := 1) C 1 rfl rfl dX3_setLength_0 rfl ?_
  refine r_if_lt (pc' := 4) (tgt := 20) C hx1 dX3_setLength_1 (by decide) rfl (fun c1 => ?_) (fun c1 => ?_)
  · replace h := h.1 c1
    exact r_vret C ⟨rfl, rfl, h⟩ dX3_setLength_20
  · replace h := h.2 c1
    refine r_iload_n (pc' := 5) C 1 rfl rfl dX3_setLength_4 rfl ?_
    refine r_aload_n (pc' := 6) C 0 rfl rfl dX3_setLength_5 rfl ?_
    refine r_getr (pc' := 9) (k := k) (r := k + 2) C fl_X3_21 (by omega) hkc (by decide) fr_3_1 hkr1 dX3_setLength_6 rfl ?_
    refine r_alen (pc' := 10) (k := k + 2) (v := (kl (k + 2) : Int)) C (by omega) hkb (by decide) rfl dX3_setLength_9 rfl ?_
    refine r_icmp_ge (pc' := 13) (tgt := 20) C hx1 (by have := kl_le (k + 2); omega) dX3_setLength_10 (by decide) rfl (fun c2 => ?_) (fun c2 => ?_)
    · replace h := h.1 c2
      exact r_vret C ⟨rfl, rfl, h⟩ dX3_setLength_20
    · replace h := h.2 c2
      refine r_aload_n (pc' := 14) C 0 rfl rfl dX3_setLength_13 rfl ?_
      refine r_getr (pc' := 17) (k := k) (r := k + 2) C fl_X3_21 (by omega) hkc (by decide) fr_3_1 hkr1 dX3_setLength_14 rfl ?_
      refine r_iload_n (pc' := 18) C 1 rfl rfl dX3_setLength_17 rfl ?_
      refine r_iload_n (pc' := 19) C 2 rfl rfl dX3_setLength_18 rfl ?_
      have o3 := h.1
      replace h := h.2
      refine r_iast (pc' := 20) (k := k + 2) C (by omega) hkb o3 hx2 dX3_setLength_19 rfl ?_
      exact r_vret C ⟨rfl, rfl, h⟩ dX3_setLength_20
def L_X3_makeCodes_4 (Y : Gl) (X : Cx) (rv : RVt) (n : Nat) (P : PN) (k : Nat) (x1 : Int) (x2 : Int) (iv av : IVt) : Prop := Wa Y X 4 (g_MQ Y X 0 (g_N rv n P) 0 0) 0 0 4 [(0, .ref (gl_b Y + k)), (1, .int (i32 x1)), (2, .int (i32 x2))] [] rv iv av n
def L_X3_makeCodes_12 (Y : Gl) (X : Cx) (rv : RVt) (n : Nat) (P : PN) (k : Nat) (x1 : Int) (x2 : Int) (x3 : Int) (iv av : IVt) : Prop := Wa Y X 4 (g_MQ Y X 0 (g_N rv n P) 0 0) 0 0 12 [(0, .ref (gl_b Y + k)), (1, .int (i32 x1)), (2, .int (i32 x2)), (3, .int (i32 x3))] [] rv iv av n
set_option maxHeartbeats 4000000 in
set_option maxRecDepth 100000 in
theorem w_X3_makeCodes_12 {Y : Gl} {X : Cx} {e : Nat} {rv : RVt} {n : Nat} {P : PN} {k : Nat} {x1 : Int} {x2 : Int} {x3 : Int} {iv av : IVt} (C : CX Y X RX3 "makeCodes" cX3_makeCodes 4 none (e + 1) 0 0) (Kk : CodeK rv n k) (hx1 : InR x1) (hx2 : InR x2) (hx3 : InR x3) (h :
    (((kl (k + 2) : Int) ≤ x3) →
      L_X3_makeCodes_4 Y X rv n P k (x1 * 2) (x2 + 1) iv av
    ) ∧
    ((¬ (kl (k + 2) : Int) ≤ x3) →
      (((kl (k + 3) : Int) ≤ x3) →
        L_X3_makeCodes_4 Y X rv n P k (x1 * 2) (x2 + 1) iv av
      ) ∧
      ((¬ (kl (k + 3) : Int) ≤ x3) →
        (0 ≤ x3 ∧ x3 < (kl (k + 2) : Int)) ∧
        ((InR (av (k + 2) x3.toNat)) →
          ((¬ (av (k + 2) x3.toNat) = x2) →
            L_X3_makeCodes_12 Y X rv n P k x1 x2 (x3 + 1) iv av
          ) ∧
          (((av (k + 2) x3.toNat) = x2) →
            OkN Y e mX3_turn [.int (i32 x1), .int (i32 x2)] rv iv av n (fun r6 iv7 av8 =>
              (InR r6) →
              (0 ≤ x3 ∧ x3 < (kl (k + 3) : Int)) ∧
              L_X3_makeCodes_12 Y X rv n P k (x1 + 1) x2 (x3 + 1) iv7 (up2 av8 (k + 3) x3.toNat r6)
            )
          )
        )
      )
    )) : L_X3_makeCodes_12 Y X rv n P k x1 x2 x3 iv av := by
  obtain ⟨hkc, hka, hkb, hkd, hkl, hkr0, hkr1, hkr2⟩ := Kk
  unfold L_X3_makeCodes_12
  refine r_iload_n (pc' := 13) C 3 rfl rfl dX3_makeCodes_12 rfl ?_
  refine r_aload_n (pc' := 14) C 0 rfl rfl dX3_makeCodes_13 rfl ?_
  refine r_getr (pc' := 17) (k := k) (r := k + 2) C fl_X3_21 (by omega) hkc (by decide) fr_3_1 hkr1 dX3_makeCodes_14 rfl ?_
  refine r_alen (pc' := 18) (k := k + 2) (v := (kl (k + 2) : Int)) C (by omega) hkb (by decide) rfl dX3_makeCodes_17 rfl ?_
  refine r_icmp_ge (pc' := 21) (tgt := 60) C hx3 (by have := kl_le (k + 2); omega) dX3_makeCodes_18 (by decide) rfl (fun c1 => ?_) (fun c1 => ?_)
  · replace h := h.1 c1
    refine r_iload_n (pc' := 61) C 1 rfl rfl dX3_makeCodes_60 rfl ?_
    refine r_iconst (pc' := 62) C dX3_makeCodes_61 rfl ?_
    refine r_ishlC (pc' := 63) (m := 2) C (by decide) (by decide) dX3_makeCodes_62 rfl ?_
    refine r_istore_n (pc' := 64) (ls' := [(0, .ref (gl_b Y + k)), (1, .int (i32 (x1 * 2))), (2, .int (i32 x2)), (3, .int (i32 x3))]) C (by decide) rfl rfl dX3_makeCodes_63 rfl ?_
    refine r_iinc (pc' := 67) (ls' := [(0, .ref (gl_b Y + k)), (1, .int (i32 (x1 * 2))), (2, .int (i32 (x2 + 1))), (3, .int (i32 x3))]) C 2 rfl (by decide) rfl dX3_makeCodes_64 rfl ?_
    refine r_goto (tgt := 4) C dX3_makeCodes_67 (by decide) ?_
    exact Wa.sub [0, 1, 2] rfl h
  · replace h := h.2 c1
    refine r_iload_n (pc' := 22) C 3 rfl rfl dX3_makeCodes_21 rfl ?_
    refine r_aload_n (pc' := 23) C 0 rfl rfl dX3_makeCodes_22 rfl ?_
    refine r_getr (pc' := 26) (k := k) (r := k + 3) C fl_X3_24 (by omega) hkc (by decide) fr_3_2 hkr2 dX3_makeCodes_23 rfl ?_
    refine r_alen (pc' := 27) (k := k + 3) (v := (kl (k + 3) : Int)) C (by omega) hkd (by decide) rfl dX3_makeCodes_26 rfl ?_
    refine r_icmp_ge (pc' := 30) (tgt := 60) C hx3 (by have := kl_le (k + 3); omega) dX3_makeCodes_27 (by decide) rfl (fun c2 => ?_) (fun c2 => ?_)
    · replace h := h.1 c2
      refine r_iload_n (pc' := 61) C 1 rfl rfl dX3_makeCodes_60 rfl ?_
      refine r_iconst (pc' := 62) C dX3_makeCodes_61 rfl ?_
      refine r_ishlC (pc' := 63) (m := 2) C (by decide) (by decide) dX3_makeCodes_62 rfl ?_
      refine r_istore_n (pc' := 64) (ls' := [(0, .ref (gl_b Y + k)), (1, .int (i32 (x1 * 2))), (2, .int (i32 x2)), (3, .int (i32 x3))]) C (by decide) rfl rfl dX3_makeCodes_63 rfl ?_
      refine r_iinc (pc' := 67) (ls' := [(0, .ref (gl_b Y + k)), (1, .int (i32 (x1 * 2))), (2, .int (i32 (x2 + 1))), (3, .int (i32 x3))]) C 2 rfl (by decide) rfl dX3_makeCodes_64 rfl ?_
      refine r_goto (tgt := 4) C dX3_makeCodes_67 (by decide) ?_
      exact Wa.sub [0, 1, 2] rfl h
    · replace h := h.2 c2
      refine r_aload_n (pc' := 31) C 0 rfl rfl dX3_makeCodes_30 rfl ?_
      refine r_getr (pc' := 34) (k := k) (r := k + 2) C fl_X3_21 (by omega) hkc (by decide) fr_3_1 hkr1 dX3_makeCodes_31 rfl ?_
      refine r_iload_n (pc' := 35) C 3 rfl rfl dX3_makeCodes_34 rfl ?_
      have o3 := h.1
      replace h := h.2
      refine r_iald (pc' := 36) (k := k + 2) C (by omega) hkb o3 dX3_makeCodes_35 rfl (fun f4 => ?_)
      replace h := h f4
      refine r_iload_n (pc' := 37) C 2 rfl rfl dX3_makeCodes_36 rfl ?_
      refine r_icmp_ne (pc' := 40) (tgt := 54) C f4 hx2 dX3_makeCodes_37 (by decide) rfl (fun c5 => ?_) (fun c5 => ?_)
      · replace h := h.1 c5
        refine r_iinc (pc' := 57) (ls' := [(0, .ref (gl_b Y + k)), (1, .int (i32 x1)), (2, .int (i32 x2)), (3, .int (i32 (x3 + 1)))]) C 3 rfl (by decide) rfl dX3_makeCodes_54 rfl ?_
        refine r_goto (tgt := 12) C dX3_makeCodes_57 (by decide) ?_
        exact Wa.sub [0, 1, 2, 3] rfl h
      · replace h := h.2 c5
        refine r_aload_n (pc' := 41) C 0 rfl rfl dX3_makeCodes_40 rfl ?_
        refine r_getr (pc' := 44) (k := k) (r := k + 3) C fl_X3_24 (by omega) hkc (by decide) fr_3_2 hkr2 dX3_makeCodes_41 rfl ?_
        refine r_iload_n (pc' := 45) C 3 rfl rfl dX3_makeCodes_44 rfl ?_
        refine r_iload_n (pc' := 46) C 1 rfl rfl dX3_makeCodes_45 rfl ?_
        refine r_iload_n (pc' := 47) C 2 rfl rfl dX3_makeCodes_46 rfl ?_
        refine c_Si (pc' := 50) (mt := mX3_turn) (as := [.int (i32 x1), .int (i32 x2)]) (st := [.int (i32 x3), .ref (gl_b Y + (k + 3))]) C h rfl cl_X3_turn ml_X3_27 sm_X3_turn (by omega) (Nat.le_refl _) (Nat.le_refl _) rfl rfl (Nat.le_of_ble_eq_true rfl) dX3_makeCodes_47 rfl (fun r6 iv7 av8 f9 h => ?_)
        replace h := h f9
        have o10 := h.1
        replace h := h.2
        refine r_iast (pc' := 51) (k := k + 3) C (by omega) hkd o10 f9 dX3_makeCodes_50 rfl ?_
        refine r_iinc (pc' := 54) (ls' := [(0, .ref (gl_b Y + k)), (1, .int (i32 (x1 + 1))), (2, .int (i32 x2)), (3, .int (i32 x3))]) C 1 rfl (by decide) rfl dX3_makeCodes_51 rfl ?_
        refine r_iinc (pc' := 57) (ls' := [(0, .ref (gl_b Y + k)), (1, .int (i32 (x1 + 1))), (2, .int (i32 x2)), (3, .int (i32 (x3 + 1)))]) C 3 rfl (by decide) rfl dX3_makeCodes_54 rfl ?_
        refine r_goto (tgt := 12) C dX3_makeCodes_57 (by decide) ?_
        exact Wa.sub [0, 1, 2, 3] rfl h
set_option maxHeartbeats 4000000 in
set_option maxRecDepth 100000 in
theorem w_X3_makeCodes_4 {Y : Gl} {X : Cx} {e : Nat} {rv : RVt} {n : Nat} {P : PN} {k : Nat} {x1 : Int} {x2 : Int} {iv av : IVt} (C : CX Y X RX3 "makeCodes" cX3_makeCodes 4 none (e + 1) 0 0) (Kk : CodeK rv n k) (hx2 : InR x2) (h :
    ((15 < x2) →
      P 0 iv av
    ) ∧
    ((¬ 15 < x2) →
      L_X3_makeCodes_12 Y X rv n P k x1 x2 0 iv av
    )) : L_X3_makeCodes_4 Y X rv n P k x1 x2 iv av := by
  obtain ⟨hkc, hka, hkb, hkd, hkl, hkr0, hkr1, hkr2⟩ := Kk
  unfold L_X3_makeCodes_4
  refine r_iload_n (pc' := 5) C 2 rfl rfl dX3_makeCodes_4 rfl ?_
  refine r_bipush (pc' := 7) C dX3_makeCodes_5 (by decide) rfl ?_
  refine r_icmp_gt (pc' := 10) (tgt := 70) C hx2 (by decide) dX3_makeCodes_7 (by decide) rfl (fun c1 => ?_) (fun c1 => ?_)
  · replace h := h.1 c1
    exact r_vret C ⟨rfl, rfl, h⟩ dX3_makeCodes_70
  · replace h := h.2 c1
    refine r_iconst (pc' := 11) C dX3_makeCodes_10 rfl ?_
    refine r_istore_n (pc' := 12) (ls' := [(0, .ref (gl_b Y + k)), (1, .int (i32 x1)), (2, .int (i32 x2)), (3, .int (i32 0))]) C (by decide) rfl rfl dX3_makeCodes_11 rfl ?_
    exact Wa.sub [0, 1, 2, 3] rfl h
set_option maxHeartbeats 4000000 in
set_option maxRecDepth 100000 in
theorem o_X3_makeCodes {Y : Gl} {e : Nat} {rv : RVt} {n : Nat} {P : PN} {k : Nat} {iv av : IVt} (Kk : CodeK rv n k) (h : ∀ X : Cx, CX Y X RX3 "makeCodes" cX3_makeCodes 4 none (e + 1) 0 0 →
    L_X3_makeCodes_4 Y X rv n P k 0 1 iv av) : OkN Y (e + 1) mX3_makeCodes [.ref (gl_b Y + k)] rv iv av n P := by
  obtain ⟨hkc, hka, hkb, hkd, hkl, hkr0, hkr1, hkr2⟩ := Kk
  refine OkW.of rfl (by show _ ≤ 4; exact Nat.le_of_ble_eq_true rfl) fun X C0 hR => ?_
  have C : CX Y X RX3 "makeCodes" cX3_makeCodes 4 none (e + 1) 0 0 := C0
  replace h := h X C
  show Wa Y X 4 (g_MQ Y X 0 (g_N rv n P) 0 0) 0 0 0 [(0, .ref (gl_b Y + k))] [] rv iv av n
  refine r_iconst (pc' := 1) C dX3_makeCodes_0 rfl ?_
  refine r_istore_n (pc' := 2) (ls' := [(0, .ref (gl_b Y + k)), (1, .int (i32 0))]) C (by decide) rfl rfl dX3_makeCodes_1 rfl ?_
  refine r_iconst (pc' := 3) C dX3_makeCodes_2 rfl ?_
  refine r_istore_n (pc' := 4) (ls' := [(0, .ref (gl_b Y + k)), (1, .int (i32 0)), (2, .int (i32 1))]) C (by decide) rfl rfl dX3_makeCodes_3 rfl ?_
  exact Wa.sub [0, 1, 2] rfl h
def L_X3_turn_4 (Y : Gl) (X : Cx) (rv : RVt) (n : Nat) (P : PN) (x0 : Int) (x1 : Int) (x2 : Int) (x3 : Int) (iv av : IVt) : Prop := Wa Y X 4 (g_MQ Y X 1 (g_N rv n P) 0 0) 0 0 4 [(0, .int (i32 x0)), (1, .int (i32 x1)), (2, .int (i32 x2)), (3, .int (i32 x3))] [] rv iv av n
set_option maxHeartbeats 4000000 in
set_option maxRecDepth 100000 in
theorem w_X3_turn_4 {Y : Gl} {X : Cx} {e : Nat} {rv : RVt} {n : Nat} {P : PN} {x0 : Int} {x1 : Int} {x2 : Int} {x3 : Int} {iv av : IVt} (C : CX Y X RX3 "turn" cX3_turn 4 (some .int) e 0 0) (hx0 : InR x0) (hx1 : InR x1) (hx2 : InR x2) (hx3 : InR x3) (h :
    ((x1 ≤ x3) →
      P x2 iv av
    ) ∧
    ((¬ x1 ≤ x3) →
      (0 ≤ x3 ∧ x3 ≤ 31) ∧
      L_X3_turn_4 Y X rv n P x0 x1 (g_or (x2 * 2) ((x0 / 2 ^ x3.toNat) % 2)) (x3 + 1) iv av
    )) : L_X3_turn_4 Y X rv n P x0 x1 x2 x3 iv av := by
  unfold L_X3_turn_4
  refine r_iload_n (pc' := 5) C 3 rfl rfl dX3_turn_4 rfl ?_
  refine r_iload_n (pc' := 6) C 1 rfl rfl dX3_turn_5 rfl ?_
  refine r_icmp_ge (pc' := 9) (tgt := 25) C hx3 hx1 dX3_turn_6 (by decide) rfl (fun c1 => ?_) (fun c1 => ?_)
  · replace h := h.1 c1
    refine r_iload_n (pc' := 26) C 2 rfl rfl dX3_turn_25 rfl ?_
    exact r_iret C hx2 ⟨rfl, rfl, h⟩ dX3_turn_26
  · replace h := h.2 c1
    refine r_iload_n (pc' := 10) C 2 rfl rfl dX3_turn_9 rfl ?_
    refine r_iconst (pc' := 11) C dX3_turn_10 rfl ?_
    refine r_ishlC (pc' := 12) (m := 2) C (by decide) (by decide) dX3_turn_11 rfl ?_
    refine r_iload_n (pc' := 13) C 0 rfl rfl dX3_turn_12 rfl ?_
    refine r_iload_n (pc' := 14) C 3 rfl rfl dX3_turn_13 rfl ?_
    have o2 := h.1
    replace h := h.2
    refine r_ishr (pc' := 15) C hx0 o2 dX3_turn_14 rfl ?_
    refine r_iconst (pc' := 16) C dX3_turn_15 rfl ?_
    refine r_iandM (pc' := 17) (m := 2) C 1 (by decide) (by decide) (by decide) dX3_turn_16 rfl ?_
    refine r_ior (pc' := 18) C dX3_turn_17 rfl ?_
    refine r_istore_n (pc' := 19) (ls' := [(0, .int (i32 x0)), (1, .int (i32 x1)), (2, .int (i32 (g_or (x2 * 2) ((x0 / 2 ^ x3.toNat) % 2)))), (3, .int (i32 x3))]) C (by decide) rfl rfl dX3_turn_18 rfl ?_
    refine r_iinc (pc' := 22) (ls' := [(0, .int (i32 x0)), (1, .int (i32 x1)), (2, .int (i32 (g_or (x2 * 2) ((x0 / 2 ^ x3.toNat) % 2)))), (3, .int (i32 (x3 + 1)))]) C 3 rfl (by decide) rfl dX3_turn_19 rfl ?_
    refine r_goto (tgt := 4) C dX3_turn_22 (by decide) ?_
    exact Wa.sub [0, 1, 2, 3] rfl h
set_option maxHeartbeats 4000000 in
set_option maxRecDepth 100000 in
theorem o_X3_turn {Y : Gl} {e : Nat} {rv : RVt} {n : Nat} {P : PN} {x0 : Int} {x1 : Int} {iv av : IVt} (h : ∀ X : Cx, CX Y X RX3 "turn" cX3_turn 4 (some .int) e 0 0 →
    L_X3_turn_4 Y X rv n P x0 x1 0 0 iv av) : OkN Y e mX3_turn [.int (i32 x0), .int (i32 x1)] rv iv av n P := by
  refine OkW.of rfl (by show _ ≤ 4; exact Nat.le_of_ble_eq_true rfl) fun X C0 hR => ?_
  have C : CX Y X RX3 "turn" cX3_turn 4 (some .int) e 0 0 := C0
  replace h := h X C
  show Wa Y X 4 (g_MQ Y X 1 (g_N rv n P) 0 0) 0 0 0 [(0, .int (i32 x0)), (1, .int (i32 x1))] [] rv iv av n
  refine r_iconst (pc' := 1) C dX3_turn_0 rfl ?_
  refine r_istore_n (pc' := 2) (ls' := [(0, .int (i32 x0)), (1, .int (i32 x1)), (2, .int (i32 0))]) C (by decide) rfl rfl dX3_turn_1 rfl ?_
  refine r_iconst (pc' := 3) C dX3_turn_2 rfl ?_
  refine r_istore_n (pc' := 4) (ls' := [(0, .int (i32 x0)), (1, .int (i32 x1)), (2, .int (i32 0)), (3, .int (i32 0))]) C (by decide) rfl rfl dX3_turn_3 rfl ?_
  exact Wa.sub [0, 1, 2, 3] rfl h
def L_X3_used_6 (Y : Gl) (X : Cx) (rv : RVt) (n : Nat) (P : PN) (k : Nat) (x1 : Int) (iv av : IVt) : Prop := Wa Y X 2 (g_MQ Y X 1 (g_N rv n P) 0 0) 0 0 6 [(0, .ref (gl_b Y + k)), (1, .int (i32 x1))] [] rv iv av n
set_option maxHeartbeats 4000000 in
set_option maxRecDepth 100000 in
theorem w_X3_used_6 {Y : Gl} {X : Cx} {e : Nat} {rv : RVt} {n : Nat} {P : PN} {k : Nat} {x1 : Int} {iv av : IVt} (C : CX Y X RX3 "used" cX3_used 2 (some .int) e 0 0) (Kk : CodeK rv n k) (hx1 : InR x1) (h :
    ((x1 ≤ 0) →
      P x1 iv av
    ) ∧
    ((¬ x1 ≤ 0) →
      (0 ≤ (x1 - 1) ∧ (x1 - 1) < (kl (k + 2) : Int)) ∧
      ((InR (av (k + 2) (x1 - 1).toNat)) →
        ((¬ (av (k + 2) (x1 - 1).toNat) = 0) →
          P x1 iv av
        ) ∧
        (((av (k + 2) (x1 - 1).toNat) = 0) →
          L_X3_used_6 Y X rv n P k (x1 + (-1)) iv av
        )
      )
    )) : L_X3_used_6 Y X rv n P k x1 iv av := by
  obtain ⟨hkc, hka, hkb, hkd, hkl, hkr0, hkr1, hkr2⟩ := Kk
  unfold L_X3_used_6
  refine r_iload_n (pc' := 7) C 1 rfl rfl dX3_used_6 rfl ?_
  refine r_if_le (pc' := 10) (tgt := 27) C hx1 dX3_used_7 (by decide) rfl (fun c1 => ?_) (fun c1 => ?_)
  · replace h := h.1 c1
    refine r_iload_n (pc' := 28) C 1 rfl rfl dX3_used_27 rfl ?_
    exact r_iret C hx1 ⟨rfl, rfl, h⟩ dX3_used_28
  · replace h := h.2 c1
    refine r_aload_n (pc' := 11) C 0 rfl rfl dX3_used_10 rfl ?_
    refine r_getr (pc' := 14) (k := k) (r := k + 2) C fl_X3_21 (by omega) hkc (by decide) fr_3_1 hkr1 dX3_used_11 rfl ?_
    refine r_iload_n (pc' := 15) C 1 rfl rfl dX3_used_14 rfl ?_
    refine r_iconst (pc' := 16) C dX3_used_15 rfl ?_
    refine r_isub (pc' := 17) C dX3_used_16 rfl ?_
    have o2 := h.1
    replace h := h.2
    refine r_iald (pc' := 18) (k := k + 2) C (by omega) hkb o2 dX3_used_17 rfl (fun f3 => ?_)
    replace h := h f3
    refine r_if_ne (pc' := 21) (tgt := 27) C f3 dX3_used_18 (by decide) rfl (fun c4 => ?_) (fun c4 => ?_)
    · replace h := h.1 c4
      refine r_iload_n (pc' := 28) C 1 rfl rfl dX3_used_27 rfl ?_
      exact r_iret C hx1 ⟨rfl, rfl, h⟩ dX3_used_28
    · replace h := h.2 c4
      refine r_iinc (pc' := 24) (ls' := [(0, .ref (gl_b Y + k)), (1, .int (i32 (x1 + (-1))))]) C 1 rfl (by decide) rfl dX3_used_21 rfl ?_
      refine r_goto (tgt := 6) C dX3_used_24 (by decide) ?_
      exact Wa.sub [0, 1] rfl h
set_option maxHeartbeats 4000000 in
set_option maxRecDepth 100000 in
theorem o_X3_used {Y : Gl} {e : Nat} {rv : RVt} {n : Nat} {P : PN} {k : Nat} {iv av : IVt} (Kk : CodeK rv n k) (h : ∀ X : Cx, CX Y X RX3 "used" cX3_used 2 (some .int) e 0 0 →
    L_X3_used_6 Y X rv n P k (kl (k + 2) : Int) iv av) : OkN Y e mX3_used [.ref (gl_b Y + k)] rv iv av n P := by
  obtain ⟨hkc, hka, hkb, hkd, hkl, hkr0, hkr1, hkr2⟩ := Kk
  refine OkW.of rfl (by show _ ≤ 2; exact Nat.le_of_ble_eq_true rfl) fun X C0 hR => ?_
  have C : CX Y X RX3 "used" cX3_used 2 (some .int) e 0 0 := C0
  replace h := h X C
  show Wa Y X 2 (g_MQ Y X 1 (g_N rv n P) 0 0) 0 0 0 [(0, .ref (gl_b Y + k))] [] rv iv av n
  refine r_aload_n (pc' := 1) C 0 rfl rfl dX3_used_0 rfl ?_
  refine r_getr (pc' := 4) (k := k) (r := k + 2) C fl_X3_21 (by omega) hkc (by decide) fr_3_1 hkr1 dX3_used_1 rfl ?_
  refine r_alen (pc' := 5) (k := k + 2) (v := (kl (k + 2) : Int)) C (by omega) hkb (by decide) rfl dX3_used_4 rfl ?_
  refine r_istore_n (pc' := 6) (ls' := [(0, .ref (gl_b Y + k)), (1, .int (i32 (kl (k + 2) : Int)))]) C (by decide) rfl rfl dX3_used_5 rfl ?_
  exact Wa.sub [0, 1] rfl h
def L_X3_bitsFor_4 (Y : Gl) (X : Cx) (rv : RVt) (n : Nat) (P : PN) (k : Nat) (k1 : Nat) (x2 : Int) (x3 : Int) (iv av : IVt) : Prop := Wa Y X 4 (g_MQ Y X 1 (g_N rv n P) 0 0) 0 0 4 [(0, .ref (gl_b Y + k)), (1, .ref (gl_b Y + k1)), (2, .int (i32 x2)), (3, .int (i32 x3))] [] rv iv av n
set_option maxHeartbeats 4000000 in
set_option maxRecDepth 100000 in
theorem w_X3_bitsFor_4 {Y : Gl} {X : Cx} {e : Nat} {rv : RVt} {n : Nat} {P : PN} {k : Nat} {k1 : Nat} {x2 : Int} {x3 : Int} {iv av : IVt} (C : CX Y X RX3 "bitsFor" cX3_bitsFor 4 (some .int) (e + 1) 0 0) (Kk : CodeK rv n k) (Kk1 : CodeK rv n k1) (hx2 : InR x2) (hx3 : InR x3) (h :
    (((kl (k + 2) : Int) ≤ x3) →
      P x2 iv av
    ) ∧
    ((¬ (kl (k + 2) : Int) ≤ x3) →
      (0 ≤ x3 ∧ x3 < (kl (k + 2) : Int)) ∧
      ((InR (av (k + 2) x3.toNat)) →
        OkN Y e mX3_countOf [.ref (gl_b Y + k1), .int (i32 x3)] rv iv av n (fun r4 iv5 av6 =>
          (InR r4) →
          L_X3_bitsFor_4 Y X rv n P k k1 (x2 + ((av (k + 2) x3.toNat) * r4)) (x3 + 1) iv5 av6
        )
      )
    )) : L_X3_bitsFor_4 Y X rv n P k k1 x2 x3 iv av := by
  obtain ⟨hkc, hka, hkb, hkd, hkl, hkr0, hkr1, hkr2⟩ := Kk
  obtain ⟨hk1c, hk1a, hk1b, hk1d, hk1l, hk1r0, hk1r1, hk1r2⟩ := Kk1
  unfold L_X3_bitsFor_4
  refine r_iload_n (pc' := 5) C 3 rfl rfl dX3_bitsFor_4 rfl ?_
  refine r_aload_n (pc' := 6) C 0 rfl rfl dX3_bitsFor_5 rfl ?_
  refine r_getr (pc' := 9) (k := k) (r := k + 2) C fl_X3_21 (by omega) hkc (by decide) fr_3_1 hkr1 dX3_bitsFor_6 rfl ?_
  refine r_alen (pc' := 10) (k := k + 2) (v := (kl (k + 2) : Int)) C (by omega) hkb (by decide) rfl dX3_bitsFor_9 rfl ?_
  refine r_icmp_ge (pc' := 13) (tgt := 34) C hx3 (by have := kl_le (k + 2); omega) dX3_bitsFor_10 (by decide) rfl (fun c1 => ?_) (fun c1 => ?_)
  · replace h := h.1 c1
    refine r_iload_n (pc' := 35) C 2 rfl rfl dX3_bitsFor_34 rfl ?_
    exact r_iret C hx2 ⟨rfl, rfl, h⟩ dX3_bitsFor_35
  · replace h := h.2 c1
    refine r_iload_n (pc' := 14) C 2 rfl rfl dX3_bitsFor_13 rfl ?_
    refine r_aload_n (pc' := 15) C 0 rfl rfl dX3_bitsFor_14 rfl ?_
    refine r_getr (pc' := 18) (k := k) (r := k + 2) C fl_X3_21 (by omega) hkc (by decide) fr_3_1 hkr1 dX3_bitsFor_15 rfl ?_
    refine r_iload_n (pc' := 19) C 3 rfl rfl dX3_bitsFor_18 rfl ?_
    have o2 := h.1
    replace h := h.2
    refine r_iald (pc' := 20) (k := k + 2) C (by omega) hkb o2 dX3_bitsFor_19 rfl (fun f3 => ?_)
    replace h := h f3
    refine r_aload_n (pc' := 21) C 1 rfl rfl dX3_bitsFor_20 rfl ?_
    refine r_iload_n (pc' := 22) C 3 rfl rfl dX3_bitsFor_21 rfl ?_
    refine c_Vi (pc' := 25) (mt := mX3_countOf) (as := [.int (i32 x3)]) (st := [.int (i32 (av (k + 2) x3.toNat)), .int (i32 x2)]) (k := k1) C h rfl cl_X3_countOf ml_X3_30 im_X3_countOf sl_X3_countOf (by omega) (Nat.le_refl _) (Nat.le_refl _) rfl (by omega) hk1c (by decide) rfl rfl rfl (Nat.le_of_ble_eq_true rfl) dX3_bitsFor_22 rfl (fun r4 iv5 av6 f7 h => ?_)
    replace h := h f7
    refine r_imul (pc' := 26) C dX3_bitsFor_25 rfl ?_
    refine r_iadd (pc' := 27) C dX3_bitsFor_26 rfl ?_
    refine r_istore_n (pc' := 28) (ls' := [(0, .ref (gl_b Y + k)), (1, .ref (gl_b Y + k1)), (2, .int (i32 (x2 + ((av (k + 2) x3.toNat) * r4)))), (3, .int (i32 x3))]) C (by decide) rfl rfl dX3_bitsFor_27 rfl ?_
    refine r_iinc (pc' := 31) (ls' := [(0, .ref (gl_b Y + k)), (1, .ref (gl_b Y + k1)), (2, .int (i32 (x2 + ((av (k + 2) x3.toNat) * r4)))), (3, .int (i32 (x3 + 1)))]) C 3 rfl (by decide) rfl dX3_bitsFor_28 rfl ?_
    refine r_goto (tgt := 4) C dX3_bitsFor_31 (by decide) ?_
    exact Wa.sub [0, 1, 2, 3] rfl h
set_option maxHeartbeats 4000000 in
set_option maxRecDepth 100000 in
theorem o_X3_bitsFor {Y : Gl} {e : Nat} {rv : RVt} {n : Nat} {P : PN} {k : Nat} {k1 : Nat} {iv av : IVt} (Kk : CodeK rv n k) (Kk1 : CodeK rv n k1) (h : ∀ X : Cx, CX Y X RX3 "bitsFor" cX3_bitsFor 4 (some .int) (e + 1) 0 0 →
    L_X3_bitsFor_4 Y X rv n P k k1 0 0 iv av) : OkN Y (e + 1) mX3_bitsFor [.ref (gl_b Y + k), .ref (gl_b Y + k1)] rv iv av n P := by
  obtain ⟨hkc, hka, hkb, hkd, hkl, hkr0, hkr1, hkr2⟩ := Kk
  obtain ⟨hk1c, hk1a, hk1b, hk1d, hk1l, hk1r0, hk1r1, hk1r2⟩ := Kk1
  refine OkW.of rfl (by show _ ≤ 4; exact Nat.le_of_ble_eq_true rfl) fun X C0 hR => ?_
  have C : CX Y X RX3 "bitsFor" cX3_bitsFor 4 (some .int) (e + 1) 0 0 := C0
  replace h := h X C
  show Wa Y X 4 (g_MQ Y X 1 (g_N rv n P) 0 0) 0 0 0 [(0, .ref (gl_b Y + k)), (1, .ref (gl_b Y + k1))] [] rv iv av n
  refine r_iconst (pc' := 1) C dX3_bitsFor_0 rfl ?_
  refine r_istore_n (pc' := 2) (ls' := [(0, .ref (gl_b Y + k)), (1, .ref (gl_b Y + k1)), (2, .int (i32 0))]) C (by decide) rfl rfl dX3_bitsFor_1 rfl ?_
  refine r_iconst (pc' := 3) C dX3_bitsFor_2 rfl ?_
  refine r_istore_n (pc' := 4) (ls' := [(0, .ref (gl_b Y + k)), (1, .ref (gl_b Y + k1)), (2, .int (i32 0)), (3, .int (i32 0))]) C (by decide) rfl rfl dX3_bitsFor_3 rfl ?_
  exact Wa.sub [0, 1, 2, 3] rfl h
set_option maxHeartbeats 4000000 in
set_option maxRecDepth 100000 in
theorem o_X4_bytes {Y : Gl} {e : Nat} {P : PN} {iv av : IVt} (h : 
    P 2 iv av) : OkN Y e mX4_bytes [.ref (gl_b Y + 1)] RV iv av 116 P := by
  refine OkW.of rfl (by show _ ≤ 1; exact Nat.le_of_ble_eq_true rfl) fun X C0 hR => ?_
  have C : CX Y X RX4 "bytes" cX4_bytes 1 (some (.object "SharedBlocks$Bytes")) e 0 0 := C0
  show Wa Y X 1 (g_MQ Y X 3 (g_N RV 116 P) 0 0) 0 0 0 [(0, .ref (gl_b Y + 1))] [] RV iv av 116
  refine r_aload_n (pc' := 1) C 0 rfl rfl dX4_bytes_0 rfl ?_
  refine r_getr (pc' := 4) (k := 1) (r := 2) C fl_X4_15 (by decide) kc_1 (by decide) fr_4_0 RV_1_0 dX4_bytes_1 rfl ?_
  exact r_aret C (Or.inl ⟨_, rfl⟩) ⟨rfl, rfl, h⟩ dX4_bytes_4
set_option maxHeartbeats 4000000 in
set_option maxRecDepth 100000 in
theorem o_X4_room {Y : Gl} {e : Nat} {P : PN} {iv av : IVt} (h : 
    OkN Y e mX2_room [.ref (gl_b Y + 2)] RV iv av 116 (fun r1 iv2 av3 =>
      (InR r1) →
      P r1 iv2 av3
    )) : OkN Y (e + 1) mX4_room [.ref (gl_b Y + 1)] RV iv av 116 P := by
  refine OkW.of rfl (by show _ ≤ 1; exact Nat.le_of_ble_eq_true rfl) fun X C0 hR => ?_
  have C : CX Y X RX4 "room" cX4_room 1 (some .int) (e + 1) 0 0 := C0
  show Wa Y X 1 (g_MQ Y X 1 (g_N RV 116 P) 0 0) 0 0 0 [(0, .ref (gl_b Y + 1))] [] RV iv av 116
  refine r_aload_n (pc' := 1) C 0 rfl rfl dX4_room_0 rfl ?_
  refine r_getr (pc' := 4) (k := 1) (r := 2) C fl_X4_15 (by decide) kc_1 (by decide) fr_4_0 RV_1_0 dX4_room_1 rfl ?_
  refine c_Vi (pc' := 7) (mt := mX2_room) (as := []) (st := []) (k := 2) C h rfl cl_X2_room ml_X4_25 im_X2_room sl_X2_room (by omega) (Nat.le_refl _) (Nat.le_refl _) rfl (by decide) kc_2 (by decide) rfl rfl rfl (Nat.le_of_ble_eq_true rfl) dX4_room_4 rfl (fun r1 iv2 av3 f4 h => ?_)
  replace h := h f4
  exact r_iret C f4 ⟨rfl, rfl, h⟩ dX4_room_7
set_option maxHeartbeats 4000000 in
set_option maxRecDepth 100000 in
theorem o_X4_start {Y : Gl} {e : Nat} {P : PN} {x1 : Int} {iv av : IVt} (hx1 : InR x1) (h : 
    ((x1 < 0) →
      P 0 iv av
    ) ∧
    ((¬ x1 < 0) →
      ((65 ≤ x1) →
        P 0 iv av
      ) ∧
      ((¬ 65 ≤ x1) →
        (0 ≤ x1 ∧ x1 < 65) ∧
        ((InR (av 4 x1.toNat)) →
          P (av 4 x1.toNat) iv av
        )
      )
    )) : OkN Y e mX4_start [.ref (gl_b Y + 1), .int (i32 x1)] RV iv av 116 P := by
  refine OkW.of rfl (by show _ ≤ 2; exact Nat.le_of_ble_eq_true rfl) fun X C0 hR => ?_
  have C : CX Y X RX4 "start" cX4_start 2 (some .int) e 0 0 := C0
  show Wa Y X 2 (g_MQ Y X 1 (g_N RV 116 P) 0 0) 0 0 0 [(0, .ref (gl_b Y + 1)), (1, .int (i32 x1))] [] RV iv av 116
  refine r_iload_n (pc' := 1) C 1 rfl rfl dX4_start_0 rfl ?_
  refine r_if_lt (pc' := 4) (tgt := 22) C hx1 dX4_start_1 (by decide) rfl (fun c1 => ?_) (fun c1 => ?_)
  · replace h := h.1 c1
    refine r_iconst (pc' := 23) C dX4_start_22 rfl ?_
    exact r_iret C (by decide) ⟨rfl, rfl, h⟩ dX4_start_23
  · replace h := h.2 c1
    refine r_iload_n (pc' := 5) C 1 rfl rfl dX4_start_4 rfl ?_
    refine r_aload_n (pc' := 6) C 0 rfl rfl dX4_start_5 rfl ?_
    refine r_getr (pc' := 9) (k := 1) (r := 4) C fl_X4_21 (by decide) kc_1 (by decide) fr_4_1 RV_1_1 dX4_start_6 rfl ?_
    refine r_alen (pc' := 10) (k := 4) (v := 65) C (by decide) kc_4 (by decide) (by rw [kl_4]; rfl) dX4_start_9 rfl ?_
    refine r_icmp_ge (pc' := 13) (tgt := 22) C hx1 (by decide) dX4_start_10 (by decide) rfl (fun c2 => ?_) (fun c2 => ?_)
    · replace h := h.1 c2
      refine r_iconst (pc' := 23) C dX4_start_22 rfl ?_
      exact r_iret C (by decide) ⟨rfl, rfl, h⟩ dX4_start_23
    · replace h := h.2 c2
      refine r_aload_n (pc' := 14) C 0 rfl rfl dX4_start_13 rfl ?_
      refine r_getr (pc' := 17) (k := 1) (r := 4) C fl_X4_21 (by decide) kc_1 (by decide) fr_4_1 RV_1_1 dX4_start_14 rfl ?_
      refine r_iload_n (pc' := 18) C 1 rfl rfl dX4_start_17 rfl ?_
      have o3 := h.1
      replace h := h.2
      refine r_iald (pc' := 19) (k := 4) C (by decide) kc_4 (by have := kl_4; omega) dX4_start_18 rfl (fun f4 => ?_)
      replace h := h f4
      refine r_goto (tgt := 23) C dX4_start_19 (by decide) ?_
      exact r_iret C f4 ⟨rfl, rfl, h⟩ dX4_start_23
set_option maxHeartbeats 4000000 in
set_option maxRecDepth 100000 in
theorem o_X4_count {Y : Gl} {e : Nat} {P : PN} {x1 : Int} {iv av : IVt} (hx1 : InR x1) (h : 
    (InR (x1 + 1)) ∧
    OkN Y e mX4_start [.ref (gl_b Y + 1), .int (i32 (x1 + 1))] RV iv av 116 (fun r2 iv3 av4 =>
      (InR r2) →
      OkN Y e mX4_start [.ref (gl_b Y + 1), .int (i32 x1)] RV iv3 av4 116 (fun r6 iv7 av8 =>
        (InR r6) →
        (InR (r2 - r6)) ∧
        P (r2 - r6) iv7 av8
      )
    )) : OkN Y (e + 1) mX4_count [.ref (gl_b Y + 1), .int (i32 x1)] RV iv av 116 P := by
  refine OkW.of rfl (by show _ ≤ 2; exact Nat.le_of_ble_eq_true rfl) fun X C0 hR => ?_
  have C : CX Y X RX4 "count" cX4_count 2 (some .int) (e + 1) 0 0 := C0
  show Wa Y X 2 (g_MQ Y X 1 (g_N RV 116 P) 0 0) 0 0 0 [(0, .ref (gl_b Y + 1)), (1, .int (i32 x1))] [] RV iv av 116
  refine r_aload_n (pc' := 1) C 0 rfl rfl dX4_count_0 rfl ?_
  refine r_iload_n (pc' := 2) C 1 rfl rfl dX4_count_1 rfl ?_
  refine r_iconst (pc' := 3) C dX4_count_2 rfl ?_
  refine r_iadd (pc' := 4) C dX4_count_3 rfl ?_
  have o1 := h.1
  replace h := h.2
  refine c_Vi (pc' := 7) (mt := mX4_start) (as := [.int (i32 (x1 + 1))]) (st := []) (k := 1) C h rfl cl_X4_start ml_X4_29 im_X4_start sl_X4_start (by omega) (Nat.le_refl _) (Nat.le_refl _) rfl (by decide) kc_1 (by decide) rfl rfl rfl (Nat.le_of_ble_eq_true rfl) dX4_count_4 rfl (fun r2 iv3 av4 f5 h => ?_)
  replace h := h f5
  refine r_aload_n (pc' := 8) C 0 rfl rfl dX4_count_7 rfl ?_
  refine r_iload_n (pc' := 9) C 1 rfl rfl dX4_count_8 rfl ?_
  refine c_Vi (pc' := 12) (mt := mX4_start) (as := [.int (i32 x1)]) (st := [.int (i32 r2)]) (k := 1) C h rfl cl_X4_start ml_X4_29 im_X4_start sl_X4_start (by omega) (Nat.le_refl _) (Nat.le_refl _) rfl (by decide) kc_1 (by decide) rfl rfl rfl (Nat.le_of_ble_eq_true rfl) dX4_count_9 rfl (fun r6 iv7 av8 f9 h => ?_)
  replace h := h f9
  refine r_isub (pc' := 13) C dX4_count_12 rfl ?_
  have o10 := h.1
  replace h := h.2
  exact r_iret C o10 ⟨rfl, rfl, h⟩ dX4_count_13
set_option maxHeartbeats 4000000 in
set_option maxRecDepth 100000 in
theorem o_X4_set {Y : Gl} {e : Nat} {P : PN} {x1 : Int} {x2 : Int} {iv av : IVt} (hx1 : InR x1) (hx2 : InR x2) (h : 
    OkN Y e mX2_set [.ref (gl_b Y + 2), .int (i32 x1), .int (i32 x2)] RV iv av 116 (fun r1 iv2 av3 =>
      P 0 iv2 av3
    )) : OkN Y (e + 1) mX4_set [.ref (gl_b Y + 1), .int (i32 x1), .int (i32 x2)] RV iv av 116 P := by
  refine OkW.of rfl (by show _ ≤ 3; exact Nat.le_of_ble_eq_true rfl) fun X C0 hR => ?_
  have C : CX Y X RX4 "set" cX4_set 3 none (e + 1) 0 0 := C0
  show Wa Y X 3 (g_MQ Y X 0 (g_N RV 116 P) 0 0) 0 0 0 [(0, .ref (gl_b Y + 1)), (1, .int (i32 x1)), (2, .int (i32 x2))] [] RV iv av 116
  refine r_aload_n (pc' := 1) C 0 rfl rfl dX4_set_0 rfl ?_
  refine r_getr (pc' := 4) (k := 1) (r := 2) C fl_X4_15 (by decide) kc_1 (by decide) fr_4_0 RV_1_0 dX4_set_1 rfl ?_
  refine r_iload_n (pc' := 5) C 1 rfl rfl dX4_set_4 rfl ?_
  refine r_iload_n (pc' := 6) C 2 rfl rfl dX4_set_5 rfl ?_
  refine c_Vv (pc' := 9) (mt := mX2_set) (as := [.int (i32 x1), .int (i32 x2)]) (st := []) (k := 2) C h rfl cl_X2_set ml_X4_33 im_X2_set sl_X2_set (by omega) (Nat.le_refl _) (Nat.le_refl _) rfl (by decide) kc_2 (by decide) rfl rfl rfl (Nat.le_of_ble_eq_true rfl) dX4_set_6 rfl (fun r1 iv2 av3 h => ?_)
  exact r_vret C ⟨rfl, rfl, h⟩ dX4_set_9
set_option maxHeartbeats 4000000 in
set_option maxRecDepth 100000 in
theorem o_X4_open {Y : Gl} {e : Nat} {P : PN} {x1 : Int} {x2 : Int} {iv av : IVt} (hx1 : InR x1) (hx2 : InR x2) (h : 
    (InR (x1 + 1)) ∧
    OkN Y (e + 1) mX4_start [.ref (gl_b Y + 1), .int (i32 (x1 + 1))] RV iv av 116 (fun r2 iv3 av4 =>
      (InR r2) →
      OkN Y (e + 1) mX2_open [.ref (gl_b Y + 2), .int (i32 r2), .int (i32 x2)] RV iv3 av4 116 (fun r6 iv7 av8 =>
        OkN Y (e + 1) mX4_shiftBehind [.ref (gl_b Y + 1), .int (i32 x1), .int (i32 x2)] RV iv7 av8 116 (fun r10 iv11 av12 =>
          P r2 iv11 av12
        )
      )
    )) : OkN Y (e + 2) mX4_open [.ref (gl_b Y + 1), .int (i32 x1), .int (i32 x2)] RV iv av 116 P := by
  refine OkW.of rfl (by show _ ≤ 4; exact Nat.le_of_ble_eq_true rfl) fun X C0 hR => ?_
  have C : CX Y X RX4 "open" cX4_open 4 (some .int) (e + 2) 0 0 := C0
  show Wa Y X 4 (g_MQ Y X 1 (g_N RV 116 P) 0 0) 0 0 0 [(0, .ref (gl_b Y + 1)), (1, .int (i32 x1)), (2, .int (i32 x2))] [] RV iv av 116
  refine r_aload_n (pc' := 1) C 0 rfl rfl dX4_open_0 rfl ?_
  refine r_iload_n (pc' := 2) C 1 rfl rfl dX4_open_1 rfl ?_
  refine r_iconst (pc' := 3) C dX4_open_2 rfl ?_
  refine r_iadd (pc' := 4) C dX4_open_3 rfl ?_
  have o1 := h.1
  replace h := h.2
  refine c_Vi (pc' := 7) (mt := mX4_start) (as := [.int (i32 (x1 + 1))]) (st := []) (k := 1) C h rfl cl_X4_start ml_X4_29 im_X4_start sl_X4_start (by omega) (Nat.le_refl _) (Nat.le_refl _) rfl (by decide) kc_1 (by decide) rfl rfl rfl (Nat.le_of_ble_eq_true rfl) dX4_open_4 rfl (fun r2 iv3 av4 f5 h => ?_)
  replace h := h f5
  refine r_istore_n (pc' := 8) (ls' := [(0, .ref (gl_b Y + 1)), (1, .int (i32 x1)), (2, .int (i32 x2)), (3, .int (i32 r2))]) C (by decide) rfl rfl dX4_open_7 rfl ?_
  refine r_aload_n (pc' := 9) C 0 rfl rfl dX4_open_8 rfl ?_
  refine r_getr (pc' := 12) (k := 1) (r := 2) C fl_X4_15 (by decide) kc_1 (by decide) fr_4_0 RV_1_0 dX4_open_9 rfl ?_
  refine r_iload_n (pc' := 13) C 3 rfl rfl dX4_open_12 rfl ?_
  refine r_iload_n (pc' := 14) C 2 rfl rfl dX4_open_13 rfl ?_
  refine c_Vv (pc' := 17) (mt := mX2_open) (as := [.int (i32 r2), .int (i32 x2)]) (st := []) (k := 2) C h rfl cl_X2_open ml_X4_37 im_X2_open sl_X2_open (by omega) (Nat.le_refl _) (Nat.le_refl _) rfl (by decide) kc_2 (by decide) rfl rfl rfl (Nat.le_of_ble_eq_true rfl) dX4_open_14 rfl (fun r6 iv7 av8 h => ?_)
  refine r_aload_n (pc' := 18) C 0 rfl rfl dX4_open_17 rfl ?_
  refine r_iload_n (pc' := 19) C 1 rfl rfl dX4_open_18 rfl ?_
  refine r_iload_n (pc' := 20) C 2 rfl rfl dX4_open_19 rfl ?_
  refine c_Vv (pc' := 23) (mt := mX4_shiftBehind) (as := [.int (i32 x1), .int (i32 x2)]) (st := []) (k := 1) C h rfl cl_X4_shiftBehind ml_X4_40 im_X4_shiftBehind sl_X4_shiftBehind (by omega) (Nat.le_refl _) (Nat.le_refl _) rfl (by decide) kc_1 (by decide) rfl rfl rfl (Nat.le_of_ble_eq_true rfl) dX4_open_20 rfl (fun r10 iv11 av12 h => ?_)
  refine r_iload_n (pc' := 24) C 3 rfl rfl dX4_open_23 rfl ?_
  exact r_iret C f5 ⟨rfl, rfl, h⟩ dX4_open_24
set_option maxHeartbeats 4000000 in
set_option maxRecDepth 100000 in
theorem o_X4_drop {Y : Gl} {e : Nat} {P : PN} {x1 : Int} {iv av : IVt} (hx1 : InR x1) (h : 
    OkN Y (e + 1) mX4_count [.ref (gl_b Y + 1), .int (i32 x1)] RV iv av 116 (fun r1 iv2 av3 =>
      (InR r1) →
      OkN Y (e + 1) mX4_start [.ref (gl_b Y + 1), .int (i32 x1)] RV iv2 av3 116 (fun r5 iv6 av7 =>
        (InR r5) →
        OkN Y (e + 1) mX2_close [.ref (gl_b Y + 2), .int (i32 r5), .int (i32 r1)] RV iv6 av7 116 (fun r9 iv10 av11 =>
          (InR (-r1)) ∧
          OkN Y (e + 1) mX4_shiftBehind [.ref (gl_b Y + 1), .int (i32 x1), .int (i32 (-r1))] RV iv10 av11 116 (fun r14 iv15 av16 =>
            P 0 iv15 av16
          )
        )
      )
    )) : OkN Y (e + 2) mX4_drop [.ref (gl_b Y + 1), .int (i32 x1)] RV iv av 116 P := by
  refine OkW.of rfl (by show _ ≤ 3; exact Nat.le_of_ble_eq_true rfl) fun X C0 hR => ?_
  have C : CX Y X RX4 "drop" cX4_drop 3 none (e + 2) 0 0 := C0
  show Wa Y X 3 (g_MQ Y X 0 (g_N RV 116 P) 0 0) 0 0 0 [(0, .ref (gl_b Y + 1)), (1, .int (i32 x1))] [] RV iv av 116
  refine r_aload_n (pc' := 1) C 0 rfl rfl dX4_drop_0 rfl ?_
  refine r_iload_n (pc' := 2) C 1 rfl rfl dX4_drop_1 rfl ?_
  refine c_Vi (pc' := 5) (mt := mX4_count) (as := [.int (i32 x1)]) (st := []) (k := 1) C h rfl cl_X4_count ml_X4_43 im_X4_count sl_X4_count (by omega) (Nat.le_refl _) (Nat.le_refl _) rfl (by decide) kc_1 (by decide) rfl rfl rfl (Nat.le_of_ble_eq_true rfl) dX4_drop_2 rfl (fun r1 iv2 av3 f4 h => ?_)
  replace h := h f4
  refine r_istore_n (pc' := 6) (ls' := [(0, .ref (gl_b Y + 1)), (1, .int (i32 x1)), (2, .int (i32 r1))]) C (by decide) rfl rfl dX4_drop_5 rfl ?_
  refine r_aload_n (pc' := 7) C 0 rfl rfl dX4_drop_6 rfl ?_
  refine r_getr (pc' := 10) (k := 1) (r := 2) C fl_X4_15 (by decide) kc_1 (by decide) fr_4_0 RV_1_0 dX4_drop_7 rfl ?_
  refine r_aload_n (pc' := 11) C 0 rfl rfl dX4_drop_10 rfl ?_
  refine r_iload_n (pc' := 12) C 1 rfl rfl dX4_drop_11 rfl ?_
  refine c_Vi (pc' := 15) (mt := mX4_start) (as := [.int (i32 x1)]) (st := [.ref (gl_b Y + 2)]) (k := 1) C h rfl cl_X4_start ml_X4_29 im_X4_start sl_X4_start (by omega) (Nat.le_refl _) (Nat.le_refl _) rfl (by decide) kc_1 (by decide) rfl rfl rfl (Nat.le_of_ble_eq_true rfl) dX4_drop_12 rfl (fun r5 iv6 av7 f8 h => ?_)
  replace h := h f8
  refine r_iload_n (pc' := 16) C 2 rfl rfl dX4_drop_15 rfl ?_
  refine c_Vv (pc' := 19) (mt := mX2_close) (as := [.int (i32 r5), .int (i32 r1)]) (st := []) (k := 2) C h rfl cl_X2_close ml_X4_46 im_X2_close sl_X2_close (by omega) (Nat.le_refl _) (Nat.le_refl _) rfl (by decide) kc_2 (by decide) rfl rfl rfl (Nat.le_of_ble_eq_true rfl) dX4_drop_16 rfl (fun r9 iv10 av11 h => ?_)
  refine r_aload_n (pc' := 20) C 0 rfl rfl dX4_drop_19 rfl ?_
  refine r_iload_n (pc' := 21) C 1 rfl rfl dX4_drop_20 rfl ?_
  refine r_iload_n (pc' := 22) C 2 rfl rfl dX4_drop_21 rfl ?_
  refine r_ineg (pc' := 23) C dX4_drop_22 rfl ?_
  have o13 := h.1
  replace h := h.2
  refine c_Vv (pc' := 26) (mt := mX4_shiftBehind) (as := [.int (i32 x1), .int (i32 (-r1))]) (st := []) (k := 1) C h rfl cl_X4_shiftBehind ml_X4_40 im_X4_shiftBehind sl_X4_shiftBehind (by omega) (Nat.le_refl _) (Nat.le_refl _) rfl (by decide) kc_1 (by decide) rfl rfl rfl (Nat.le_of_ble_eq_true rfl) dX4_drop_23 rfl (fun r14 iv15 av16 h => ?_)
  exact r_vret C ⟨rfl, rfl, h⟩ dX4_drop_26
def L_X4_shiftBehind_8 (Y : Gl) (X : Cx) (P : PN) (x2 : Int) (x3 : Int) (iv av : IVt) : Prop := Wa Y X 4 (g_MQ Y X 0 (g_N RV 116 P) 0 0) 0 0 8 [(0, .ref (gl_b Y + 1)), (2, .int (i32 x2)), (3, .int (i32 x3))] [] RV iv av 116
set_option maxHeartbeats 4000000 in
set_option maxRecDepth 100000 in
theorem w_X4_shiftBehind_8 {Y : Gl} {X : Cx} {e : Nat} {P : PN} {x2 : Int} {x3 : Int} {iv av : IVt} (C : CX Y X RX4 "shiftBehind" cX4_shiftBehind 4 none (e + 1) 0 0) (hx3 : InR x3) (h :
    ((65 ≤ x3) →
      P 0 iv av
    ) ∧
    ((¬ 65 ≤ x3) →
      (0 ≤ x3 ∧ x3 < 65) ∧
      ((InR (av 4 x3.toNat)) →
        (InR ((av 4 x3.toNat) + x2)) ∧
        L_X4_shiftBehind_8 Y X P x2 (x3 + 1) iv (up2 av 4 x3.toNat ((av 4 x3.toNat) + x2))
      )
    )) : L_X4_shiftBehind_8 Y X P x2 x3 iv av := by
  unfold L_X4_shiftBehind_8
  refine r_iload_n (pc' := 9) C 2 rfl rfl dX4_shiftBehind_8 rfl ?_
  refine r_aload_n (pc' := 10) C 0 rfl rfl dX4_shiftBehind_9 rfl ?_
  refine r_getr (pc' := 13) (k := 1) (r := 4) C fl_X4_21 (by decide) kc_1 (by decide) fr_4_1 RV_1_1 dX4_shiftBehind_10 rfl ?_
  refine r_alen (pc' := 14) (k := 4) (v := 65) C (by decide) kc_4 (by decide) (by rw [kl_4]; rfl) dX4_shiftBehind_13 rfl ?_
  refine r_icmp_ge (pc' := 17) (tgt := 33) C hx3 (by decide) dX4_shiftBehind_14 (by decide) rfl (fun c1 => ?_) (fun c1 => ?_)
  · replace h := h.1 c1
    exact r_vret C ⟨rfl, rfl, h⟩ dX4_shiftBehind_33
  · replace h := h.2 c1
    refine r_aload_n (pc' := 18) C 0 rfl rfl dX4_shiftBehind_17 rfl ?_
    refine r_getr (pc' := 21) (k := 1) (r := 4) C fl_X4_21 (by decide) kc_1 (by decide) fr_4_1 RV_1_1 dX4_shiftBehind_18 rfl ?_
    refine r_iload_n (pc' := 22) C 2 rfl rfl dX4_shiftBehind_21 rfl ?_
    refine r_dup2 (pc' := 23) C rfl rfl dX4_shiftBehind_22 rfl ?_
    have o2 := h.1
    replace h := h.2
    refine r_iald (pc' := 24) (k := 4) C (by decide) kc_4 (by have := kl_4; omega) dX4_shiftBehind_23 rfl (fun f3 => ?_)
    replace h := h f3
    refine r_iload_n (pc' := 25) C 1 rfl rfl dX4_shiftBehind_24 rfl ?_
    refine r_iadd (pc' := 26) C dX4_shiftBehind_25 rfl ?_
    have o4 := h.1
    replace h := h.2
    refine r_iast (pc' := 27) (k := 4) C (by decide) kc_4 (by have := kl_4; omega) o4 dX4_shiftBehind_26 rfl ?_
    refine r_iinc (pc' := 30) (ls' := [(0, .ref (gl_b Y + 1)), (2, .int (i32 x2)), (3, .int (i32 (x3 + 1)))]) C 2 rfl (by decide) rfl dX4_shiftBehind_27 rfl ?_
    refine r_goto (tgt := 8) C dX4_shiftBehind_30 (by decide) ?_
    exact Wa.sub [0, 1, 2] rfl h
set_option maxHeartbeats 4000000 in
set_option maxRecDepth 100000 in
theorem o_X4_shiftBehind {Y : Gl} {e : Nat} {P : PN} {x1 : Int} {x2 : Int} {iv av : IVt} (hx1 : InR x1) (h : ∀ X : Cx, CX Y X RX4 "shiftBehind" cX4_shiftBehind 4 none (e + 1) 0 0 →
    L_X4_shiftBehind_8 Y X P x2 ((max x1 0) + 1) iv av) : OkN Y (e + 1) mX4_shiftBehind [.ref (gl_b Y + 1), .int (i32 x1), .int (i32 x2)] RV iv av 116 P := by
  refine OkW.of rfl (by show _ ≤ 4; exact Nat.le_of_ble_eq_true rfl) fun X C0 hR => ?_
  have C : CX Y X RX4 "shiftBehind" cX4_shiftBehind 4 none (e + 1) 0 0 := C0
  replace h := h X C
  show Wa Y X 4 (g_MQ Y X 0 (g_N RV 116 P) 0 0) 0 0 0 [(0, .ref (gl_b Y + 1)), (1, .int (i32 x1)), (2, .int (i32 x2))] [] RV iv av 116
  refine r_iload_n (pc' := 1) C 1 rfl rfl dX4_shiftBehind_0 rfl ?_
  refine r_iconst (pc' := 2) C dX4_shiftBehind_1 rfl ?_
  refine r_max (pc' := 5) C ml_X4_49 wd_max_s wd_math wd_max_c (by omega) (Nat.le_of_ble_eq_true rfl) (Nat.le_refl _) (Nat.le_refl _) hx1 (by decide) dX4_shiftBehind_2 rfl ?_
  refine r_iconst (pc' := 6) C dX4_shiftBehind_5 rfl ?_
  refine r_iadd (pc' := 7) C dX4_shiftBehind_6 rfl ?_
  refine r_istore_n (pc' := 8) (ls' := [(0, .ref (gl_b Y + 1)), (1, .int (i32 x1)), (2, .int (i32 x2)), (3, .int (i32 ((max x1 0) + 1)))]) C (by decide) rfl rfl dX4_shiftBehind_7 rfl ?_
  exact Wa.sub [0, 2, 3] rfl h
def L_X4_twin_14 (Y : Gl) (X : Cx) (P : PN) (x1 : Int) (x2 : Int) (x3 : Int) (iv av : IVt) : Prop := Wa Y X 4 (g_MQ Y X 1 (g_N RV 116 P) 0 0) 0 0 14 [(0, .ref (gl_b Y + 1)), (1, .int (i32 x1)), (2, .int (i32 x2)), (3, .int (i32 x3))] [] RV iv av 116
set_option maxHeartbeats 4000000 in
set_option maxRecDepth 100000 in
theorem w_X4_twin_14 {Y : Gl} {X : Cx} {e : Nat} {P : PN} {x1 : Int} {x2 : Int} {x3 : Int} {iv av : IVt} (C : CX Y X RX4 "twin" cX4_twin 4 (some .int) (e + 2) 0 0) (hx1 : InR x1) (hx2 : InR x2) (hx3 : InR x3) (h :
    ((x1 ≤ x3) →
      P (-1) iv av
    ) ∧
    ((¬ x1 ≤ x3) →
      OkN Y (e + 1) mX4_count [.ref (gl_b Y + 1), .int (i32 x3)] RV iv av 116 (fun r2 iv3 av4 =>
        (InR r2) →
        ((¬ r2 = x2) →
          L_X4_twin_14 Y X P x1 x2 (x3 + 1) iv3 av4
        ) ∧
        ((r2 = x2) →
          OkN Y (e + 1) mX4_start [.ref (gl_b Y + 1), .int (i32 x3)] RV iv3 av4 116 (fun r7 iv8 av9 =>
            (InR r7) →
            OkN Y (e + 1) mX4_start [.ref (gl_b Y + 1), .int (i32 x1)] RV iv8 av9 116 (fun r11 iv12 av13 =>
              (InR r11) →
              OkN Y (e + 1) mX2_sameFrom [.ref (gl_b Y + 2), .int (i32 r7), .int (i32 r11), .int (i32 x2)] RV iv12 av13 116 (fun r15 iv16 av17 =>
                (InR r15) →
                ((¬ r15 = x2) →
                  L_X4_twin_14 Y X P x1 x2 (x3 + 1) iv16 av17
                ) ∧
                ((r15 = x2) →
                  P x3 iv16 av17
                )
              )
            )
          )
        )
      )
    )) : L_X4_twin_14 Y X P x1 x2 x3 iv av := by
  unfold L_X4_twin_14
  refine r_iload_n (pc' := 15) C 3 rfl rfl dX4_twin_14 rfl ?_
  refine r_iload_n (pc' := 16) C 1 rfl rfl dX4_twin_15 rfl ?_
  refine r_icmp_ge (pc' := 19) (tgt := 58) C hx3 hx1 dX4_twin_16 (by decide) rfl (fun c1 => ?_) (fun c1 => ?_)
  · replace h := h.1 c1
    refine r_iconst (pc' := 59) C dX4_twin_58 rfl ?_
    exact r_iret C (by decide) ⟨rfl, rfl, h⟩ dX4_twin_59
  · replace h := h.2 c1
    refine r_aload_n (pc' := 20) C 0 rfl rfl dX4_twin_19 rfl ?_
    refine r_iload_n (pc' := 21) C 3 rfl rfl dX4_twin_20 rfl ?_
    refine c_Vi (pc' := 24) (mt := mX4_count) (as := [.int (i32 x3)]) (st := []) (k := 1) C h rfl cl_X4_count ml_X4_43 im_X4_count sl_X4_count (by omega) (Nat.le_refl _) (Nat.le_refl _) rfl (by decide) kc_1 (by decide) rfl rfl rfl (Nat.le_of_ble_eq_true rfl) dX4_twin_21 rfl (fun r2 iv3 av4 f5 h => ?_)
    replace h := h f5
    refine r_iload_n (pc' := 25) C 2 rfl rfl dX4_twin_24 rfl ?_
    refine r_icmp_ne (pc' := 28) (tgt := 52) C f5 hx2 dX4_twin_25 (by decide) rfl (fun c6 => ?_) (fun c6 => ?_)
    · replace h := h.1 c6
      refine r_iinc (pc' := 55) (ls' := [(0, .ref (gl_b Y + 1)), (1, .int (i32 x1)), (2, .int (i32 x2)), (3, .int (i32 (x3 + 1)))]) C 3 rfl (by decide) rfl dX4_twin_52 rfl ?_
      refine r_goto (tgt := 14) C dX4_twin_55 (by decide) ?_
      exact Wa.sub [0, 1, 2, 3] rfl h
    · replace h := h.2 c6
      refine r_aload_n (pc' := 29) C 0 rfl rfl dX4_twin_28 rfl ?_
      refine r_getr (pc' := 32) (k := 1) (r := 2) C fl_X4_15 (by decide) kc_1 (by decide) fr_4_0 RV_1_0 dX4_twin_29 rfl ?_
      refine r_aload_n (pc' := 33) C 0 rfl rfl dX4_twin_32 rfl ?_
      refine r_iload_n (pc' := 34) C 3 rfl rfl dX4_twin_33 rfl ?_
      refine c_Vi (pc' := 37) (mt := mX4_start) (as := [.int (i32 x3)]) (st := [.ref (gl_b Y + 2)]) (k := 1) C h rfl cl_X4_start ml_X4_29 im_X4_start sl_X4_start (by omega) (Nat.le_refl _) (Nat.le_refl _) rfl (by decide) kc_1 (by decide) rfl rfl rfl (Nat.le_of_ble_eq_true rfl) dX4_twin_34 rfl (fun r7 iv8 av9 f10 h => ?_)
      replace h := h f10
      refine r_aload_n (pc' := 38) C 0 rfl rfl dX4_twin_37 rfl ?_
      refine r_iload_n (pc' := 39) C 1 rfl rfl dX4_twin_38 rfl ?_
      refine c_Vi (pc' := 42) (mt := mX4_start) (as := [.int (i32 x1)]) (st := [.int (i32 r7), .ref (gl_b Y + 2)]) (k := 1) C h rfl cl_X4_start ml_X4_29 im_X4_start sl_X4_start (by omega) (Nat.le_refl _) (Nat.le_refl _) rfl (by decide) kc_1 (by decide) rfl rfl rfl (Nat.le_of_ble_eq_true rfl) dX4_twin_39 rfl (fun r11 iv12 av13 f14 h => ?_)
      replace h := h f14
      refine r_iload_n (pc' := 43) C 2 rfl rfl dX4_twin_42 rfl ?_
      refine c_Vi (pc' := 46) (mt := mX2_sameFrom) (as := [.int (i32 r7), .int (i32 r11), .int (i32 x2)]) (st := []) (k := 2) C h rfl cl_X2_sameFrom ml_X4_55 im_X2_sameFrom sl_X2_sameFrom (by omega) (Nat.le_refl _) (Nat.le_refl _) rfl (by decide) kc_2 (by decide) rfl rfl rfl (Nat.le_of_ble_eq_true rfl) dX4_twin_43 rfl (fun r15 iv16 av17 f18 h => ?_)
      replace h := h f18
      refine r_iload_n (pc' := 47) C 2 rfl rfl dX4_twin_46 rfl ?_
      refine r_icmp_ne (pc' := 50) (tgt := 52) C f18 hx2 dX4_twin_47 (by decide) rfl (fun c19 => ?_) (fun c19 => ?_)
      · replace h := h.1 c19
        refine r_iinc (pc' := 55) (ls' := [(0, .ref (gl_b Y + 1)), (1, .int (i32 x1)), (2, .int (i32 x2)), (3, .int (i32 (x3 + 1)))]) C 3 rfl (by decide) rfl dX4_twin_52 rfl ?_
        refine r_goto (tgt := 14) C dX4_twin_55 (by decide) ?_
        exact Wa.sub [0, 1, 2, 3] rfl h
      · replace h := h.2 c19
        refine r_iload_n (pc' := 51) C 3 rfl rfl dX4_twin_50 rfl ?_
        exact r_iret C hx3 ⟨rfl, rfl, h⟩ dX4_twin_51
set_option maxHeartbeats 4000000 in
set_option maxRecDepth 100000 in
theorem o_X4_twin {Y : Gl} {e : Nat} {P : PN} {x1 : Int} {iv av : IVt} (hx1 : InR x1) (h : ∀ X : Cx, CX Y X RX4 "twin" cX4_twin 4 (some .int) (e + 2) 0 0 →
    OkN Y (e + 1) mX4_count [.ref (gl_b Y + 1), .int (i32 x1)] RV iv av 116 (fun r1 iv2 av3 =>
      (InR r1) →
      ((¬ r1 = 0) →
        L_X4_twin_14 Y X P x1 r1 0 iv2 av3
      ) ∧
      ((r1 = 0) →
        P (-1) iv2 av3
      )
    )) : OkN Y (e + 2) mX4_twin [.ref (gl_b Y + 1), .int (i32 x1)] RV iv av 116 P := by
  refine OkW.of rfl (by show _ ≤ 4; exact Nat.le_of_ble_eq_true rfl) fun X C0 hR => ?_
  have C : CX Y X RX4 "twin" cX4_twin 4 (some .int) (e + 2) 0 0 := C0
  replace h := h X C
  show Wa Y X 4 (g_MQ Y X 1 (g_N RV 116 P) 0 0) 0 0 0 [(0, .ref (gl_b Y + 1)), (1, .int (i32 x1))] [] RV iv av 116
  refine r_aload_n (pc' := 1) C 0 rfl rfl dX4_twin_0 rfl ?_
  refine r_iload_n (pc' := 2) C 1 rfl rfl dX4_twin_1 rfl ?_
  refine c_Vi (pc' := 5) (mt := mX4_count) (as := [.int (i32 x1)]) (st := []) (k := 1) C h rfl cl_X4_count ml_X4_43 im_X4_count sl_X4_count (by omega) (Nat.le_refl _) (Nat.le_refl _) rfl (by decide) kc_1 (by decide) rfl rfl rfl (Nat.le_of_ble_eq_true rfl) dX4_twin_2 rfl (fun r1 iv2 av3 f4 h => ?_)
  replace h := h f4
  refine r_istore_n (pc' := 6) (ls' := [(0, .ref (gl_b Y + 1)), (1, .int (i32 x1)), (2, .int (i32 r1))]) C (by decide) rfl rfl dX4_twin_5 rfl ?_
  refine r_iload_n (pc' := 7) C 2 rfl rfl dX4_twin_6 rfl ?_
  refine r_if_ne (pc' := 10) (tgt := 12) C f4 dX4_twin_7 (by decide) rfl (fun c5 => ?_) (fun c5 => ?_)
  · replace h := h.1 c5
    refine r_iconst (pc' := 13) C dX4_twin_12 rfl ?_
    refine r_istore_n (pc' := 14) (ls' := [(0, .ref (gl_b Y + 1)), (1, .int (i32 x1)), (2, .int (i32 r1)), (3, .int (i32 0))]) C (by decide) rfl rfl dX4_twin_13 rfl ?_
    exact Wa.sub [0, 1, 2, 3] rfl h
  · replace h := h.2 c5
    refine r_iconst (pc' := 11) C dX4_twin_10 rfl ?_
    exact r_iret C (by decide) ⟨rfl, rfl, h⟩ dX4_twin_11
set_option maxHeartbeats 4000000 in
set_option maxRecDepth 100000 in
theorem o_X5_begin {Y : Gl} {e : Nat} {rv : RVt} {n : Nat} {P : PN} {x1 : Int} {iv av : IVt} (Kl : LayK rv n) (hx1 : InR x1) (h : 
    P 0 (up2 (up2 (up2 iv 5 4 x1) 5 5 0) 5 6 0) av) : OkN Y e mX5_begin [.ref (gl_b Y + 5), .int (i32 x1)] rv iv av n P := by
  obtain ⟨hln, hl0, hl1, hl2, hl3⟩ := Kl
  refine OkW.of rfl (by show _ ≤ 2; exact Nat.le_of_ble_eq_true rfl) fun X C0 hR => ?_
  have C : CX Y X RX5 "begin" cX5_begin 2 none e 0 0 := C0
  show Wa Y X 2 (g_MQ Y X 0 (g_N rv n P) 0 0) 0 0 0 [(0, .ref (gl_b Y + 5)), (1, .int (i32 x1))] [] rv iv av n
  refine r_aload_n (pc' := 1) C 0 rfl rfl dX5_begin_0 rfl ?_
  refine r_iload_n (pc' := 2) C 1 rfl rfl dX5_begin_1 rfl ?_
  refine r_puti (pc' := 5) (k := 5) C fl_X5_32 (by omega) kc_5 (by decide) fr_5_4 hx1 dX5_begin_2 rfl ?_
  refine r_aload_n (pc' := 6) C 0 rfl rfl dX5_begin_5 rfl ?_
  refine r_iconst (pc' := 7) C dX5_begin_6 rfl ?_
  refine r_puti (pc' := 10) (k := 5) C fl_X5_36 (by omega) kc_5 (by decide) fr_5_5 (by decide) dX5_begin_7 rfl ?_
  refine r_aload_n (pc' := 11) C 0 rfl rfl dX5_begin_10 rfl ?_
  refine r_iconst (pc' := 12) C dX5_begin_11 rfl ?_
  refine r_puti (pc' := 15) (k := 5) C fl_X5_39 (by omega) kc_5 (by decide) fr_5_6 (by decide) dX5_begin_12 rfl ?_
  exact r_vret C ⟨rfl, rfl, h⟩ dX5_begin_15
set_option maxHeartbeats 4000000 in
set_option maxRecDepth 100000 in
theorem o_X5_log {Y : Gl} {e : Nat} {P : PN} {iv av : IVt} (h : 
    ((InR (iv 5 4)) →
      P (iv 5 4) iv av
    )) : OkN Y e mX5_log [.ref (gl_b Y + 5)] RV iv av 116 P := by
  refine OkW.of rfl (by show _ ≤ 1; exact Nat.le_of_ble_eq_true rfl) fun X C0 hR => ?_
  have C : CX Y X RX5 "log" cX5_log 1 (some .int) e 0 0 := C0
  show Wa Y X 1 (g_MQ Y X 1 (g_N RV 116 P) 0 0) 0 0 0 [(0, .ref (gl_b Y + 5))] [] RV iv av 116
  refine r_aload_n (pc' := 1) C 0 rfl rfl dX5_log_0 rfl ?_
  refine r_geti (pc' := 4) (k := 5) C fl_X5_32 (by decide) kc_5 (by decide) fr_5_4 dX5_log_1 rfl (fun f1 => ?_)
  replace h := h f1
  exact r_iret C f1 ⟨rfl, rfl, h⟩ dX5_log_4
set_option maxHeartbeats 4000000 in
set_option maxRecDepth 100000 in
theorem o_X5_blockBytes {Y : Gl} {e : Nat} {P : PN} {iv av : IVt} (h : 
    ((InR (iv 5 4)) →
      (0 ≤ (iv 5 4) ∧ (iv 5 4) ≤ 31) ∧
      (InR (1 * 2 ^ (iv 5 4).toNat)) ∧
      P (1 * 2 ^ (iv 5 4).toNat) iv av
    )) : OkN Y e mX5_blockBytes [.ref (gl_b Y + 5)] RV iv av 116 P := by
  refine OkW.of rfl (by show _ ≤ 1; exact Nat.le_of_ble_eq_true rfl) fun X C0 hR => ?_
  have C : CX Y X RX5 "blockBytes" cX5_blockBytes 1 (some .int) e 0 0 := C0
  show Wa Y X 1 (g_MQ Y X 1 (g_N RV 116 P) 0 0) 0 0 0 [(0, .ref (gl_b Y + 5))] [] RV iv av 116
  refine r_iconst (pc' := 1) C dX5_blockBytes_0 rfl ?_
  refine r_aload_n (pc' := 2) C 0 rfl rfl dX5_blockBytes_1 rfl ?_
  refine r_geti (pc' := 5) (k := 5) C fl_X5_32 (by decide) kc_5 (by decide) fr_5_4 dX5_blockBytes_2 rfl (fun f1 => ?_)
  replace h := h f1
  have o2 := h.1
  replace h := h.2
  refine r_ishl (pc' := 6) C o2 dX5_blockBytes_5 rfl ?_
  have o3 := h.1
  replace h := h.2
  exact r_iret C o3 ⟨rfl, rfl, h⟩ dX5_blockBytes_6
set_option maxHeartbeats 4000000 in
set_option maxRecDepth 100000 in
theorem o_X5_fact {Y : Gl} {e : Nat} {P : PN} {x1 : Int} {x2 : Int} {iv av : IVt} (h : 
    (InR ((x1 * 8) + x2)) ∧
    ((((x1 * 8) + x2) < 0) →
      P 0 iv av
    ) ∧
    ((¬ ((x1 * 8) + x2) < 0) →
      ((512 ≤ ((x1 * 8) + x2)) →
        P 0 iv av
      ) ∧
      ((¬ 512 ≤ ((x1 * 8) + x2)) →
        (0 ≤ ((x1 * 8) + x2) ∧ ((x1 * 8) + x2) < 512) ∧
        ((InR (av 6 ((x1 * 8) + x2).toNat)) →
          P (av 6 ((x1 * 8) + x2).toNat) iv av
        )
      )
    )) : OkN Y e mX5_fact [.ref (gl_b Y + 5), .int (i32 x1), .int (i32 x2)] RV iv av 116 P := by
  refine OkW.of rfl (by show _ ≤ 4; exact Nat.le_of_ble_eq_true rfl) fun X C0 hR => ?_
  have C : CX Y X RX5 "fact" cX5_fact 4 (some .int) e 0 0 := C0
  show Wa Y X 4 (g_MQ Y X 1 (g_N RV 116 P) 0 0) 0 0 0 [(0, .ref (gl_b Y + 5)), (1, .int (i32 x1)), (2, .int (i32 x2))] [] RV iv av 116
  refine r_iload_n (pc' := 1) C 1 rfl rfl dX5_fact_0 rfl ?_
  refine r_bipush (pc' := 3) C dX5_fact_1 (by decide) rfl ?_
  refine r_imul (pc' := 4) C dX5_fact_3 rfl ?_
  refine r_iload_n (pc' := 5) C 2 rfl rfl dX5_fact_4 rfl ?_
  refine r_iadd (pc' := 6) C dX5_fact_5 rfl ?_
  refine r_istore_n (pc' := 7) (ls' := [(0, .ref (gl_b Y + 5)), (1, .int (i32 x1)), (2, .int (i32 x2)), (3, .int (i32 ((x1 * 8) + x2)))]) C (by decide) rfl rfl dX5_fact_6 rfl ?_
  refine r_iload_n (pc' := 8) C 3 rfl rfl dX5_fact_7 rfl ?_
  have o1 := h.1
  replace h := h.2
  refine r_if_lt (pc' := 11) (tgt := 29) C o1 dX5_fact_8 (by decide) rfl (fun c2 => ?_) (fun c2 => ?_)
  · replace h := h.1 c2
    refine r_iconst (pc' := 30) C dX5_fact_29 rfl ?_
    exact r_iret C (by decide) ⟨rfl, rfl, h⟩ dX5_fact_30
  · replace h := h.2 c2
    refine r_iload_n (pc' := 12) C 3 rfl rfl dX5_fact_11 rfl ?_
    refine r_aload_n (pc' := 13) C 0 rfl rfl dX5_fact_12 rfl ?_
    refine r_getr (pc' := 16) (k := 5) (r := 6) C fl_X5_11 (by decide) kc_5 (by decide) fr_5_0 RV_5_0 dX5_fact_13 rfl ?_
    refine r_alen (pc' := 17) (k := 6) (v := 512) C (by decide) kc_6 (by decide) (by rw [kl_6]; rfl) dX5_fact_16 rfl ?_
    refine r_icmp_ge (pc' := 20) (tgt := 29) C o1 (by decide) dX5_fact_17 (by decide) rfl (fun c3 => ?_) (fun c3 => ?_)
    · replace h := h.1 c3
      refine r_iconst (pc' := 30) C dX5_fact_29 rfl ?_
      exact r_iret C (by decide) ⟨rfl, rfl, h⟩ dX5_fact_30
    · replace h := h.2 c3
      refine r_aload_n (pc' := 21) C 0 rfl rfl dX5_fact_20 rfl ?_
      refine r_getr (pc' := 24) (k := 5) (r := 6) C fl_X5_11 (by decide) kc_5 (by decide) fr_5_0 RV_5_0 dX5_fact_21 rfl ?_
      refine r_iload_n (pc' := 25) C 3 rfl rfl dX5_fact_24 rfl ?_
      have o4 := h.1
      replace h := h.2
      refine r_iald (pc' := 26) (k := 6) C (by decide) kc_6 (by have := kl_6; omega) dX5_fact_25 rfl (fun f5 => ?_)
      replace h := h f5
      refine r_goto (tgt := 30) C dX5_fact_26 (by decide) ?_
      exact r_iret C f5 ⟨rfl, rfl, h⟩ dX5_fact_30
set_option maxHeartbeats 4000000 in
set_option maxRecDepth 100000 in
theorem o_X5_note {Y : Gl} {e : Nat} {rv : RVt} {n : Nat} {P : PN} {x1 : Int} {x2 : Int} {x3 : Int} {iv av : IVt} (Kl : LayK rv n) (hx3 : InR x3) (h : 
    (InR ((x1 * 8) + x2)) ∧
    ((((x1 * 8) + x2) < 0) →
      P 0 iv av
    ) ∧
    ((¬ ((x1 * 8) + x2) < 0) →
      ((512 ≤ ((x1 * 8) + x2)) →
        P 0 iv av
      ) ∧
      ((¬ 512 ≤ ((x1 * 8) + x2)) →
        (0 ≤ ((x1 * 8) + x2) ∧ ((x1 * 8) + x2) < 512) ∧
        P 0 iv (up2 av 6 (((x1 * 8) + x2).toNat) x3)
      )
    )) : OkN Y e mX5_note [.ref (gl_b Y + 5), .int (i32 x1), .int (i32 x2), .int (i32 x3)] rv iv av n P := by
  obtain ⟨hln, hl0, hl1, hl2, hl3⟩ := Kl
  refine OkW.of rfl (by show _ ≤ 5; exact Nat.le_of_ble_eq_true rfl) fun X C0 hR => ?_
  have C : CX Y X RX5 "note" cX5_note 5 none e 0 0 := C0
  show Wa Y X 5 (g_MQ Y X 0 (g_N rv n P) 0 0) 0 0 0 [(0, .ref (gl_b Y + 5)), (1, .int (i32 x1)), (2, .int (i32 x2)), (3, .int (i32 x3))] [] rv iv av n
  refine r_iload_n (pc' := 1) C 1 rfl rfl dX5_note_0 rfl ?_
  refine r_bipush (pc' := 3) C dX5_note_1 (by decide) rfl ?_
  refine r_imul (pc' := 4) C dX5_note_3 rfl ?_
  refine r_iload_n (pc' := 5) C 2 rfl rfl dX5_note_4 rfl ?_
  refine r_iadd (pc' := 6) C dX5_note_5 rfl ?_
  refine r_istore (pc' := 8) (ls' := [(0, .ref (gl_b Y + 5)), (1, .int (i32 x1)), (2, .int (i32 x2)), (3, .int (i32 x3)), (4, .int (i32 ((x1 * 8) + x2)))]) C (by decide) rfl dX5_note_6 rfl ?_
  refine r_iload (pc' := 10) C 4 rfl dX5_note_8 rfl ?_
  have o1 := h.1
  replace h := h.2
  refine r_if_lt (pc' := 13) (tgt := 31) C o1 dX5_note_10 (by decide) rfl (fun c2 => ?_) (fun c2 => ?_)
  · replace h := h.1 c2
    exact r_vret C ⟨rfl, rfl, h⟩ dX5_note_31
  · replace h := h.2 c2
    refine r_iload (pc' := 15) C 4 rfl dX5_note_13 rfl ?_
    refine r_aload_n (pc' := 16) C 0 rfl rfl dX5_note_15 rfl ?_
    refine r_getr (pc' := 19) (k := 5) (r := 6) C fl_X5_11 (by omega) kc_5 (by decide) fr_5_0 hl0 dX5_note_16 rfl ?_
    refine r_alen (pc' := 20) (k := 6) (v := 512) C (by omega) kc_6 (by decide) (by rw [kl_6]; rfl) dX5_note_19 rfl ?_
    refine r_icmp_ge (pc' := 23) (tgt := 31) C o1 (by decide) dX5_note_20 (by decide) rfl (fun c3 => ?_) (fun c3 => ?_)
    · replace h := h.1 c3
      exact r_vret C ⟨rfl, rfl, h⟩ dX5_note_31
    · replace h := h.2 c3
      refine r_aload_n (pc' := 24) C 0 rfl rfl dX5_note_23 rfl ?_
      refine r_getr (pc' := 27) (k := 5) (r := 6) C fl_X5_11 (by omega) kc_5 (by decide) fr_5_0 hl0 dX5_note_24 rfl ?_
      refine r_iload (pc' := 29) C 4 rfl dX5_note_27 rfl ?_
      refine r_iload_n (pc' := 30) C 3 rfl rfl dX5_note_29 rfl ?_
      have o4 := h.1
      replace h := h.2
      refine r_iast (pc' := 31) (k := 6) C (by omega) kc_6 (by have := kl_6; omega) hx3 dX5_note_30 rfl ?_
      exact r_vret C ⟨rfl, rfl, h⟩ dX5_note_31
def L_X5_open_3 (Y : Gl) (X : Cx) (P : PN) (x1 : Int) (x2 : Int) (x3 : Int) (x4 : Int) (iv av : IVt) : Prop := Wa Y X 5 (g_MQ Y X 0 (g_N RV 116 P) 0 0) 0 0 3 [(0, .ref (gl_b Y + 5)), (1, .int (i32 x1)), (2, .int (i32 x2)), (3, .int (i32 x3)), (4, .int (i32 x4))] [] RV iv av 116
set_option maxHeartbeats 4000000 in
set_option maxRecDepth 100000 in
theorem w_X5_open_3 {Y : Gl} {X : Cx} {e : Nat} {P : PN} {x1 : Int} {x2 : Int} {x3 : Int} {x4 : Int} {iv av : IVt} (C : CX Y X RX5 "open" cX5_open 5 none (e + 1) 0 0) (hx1 : InR x1) (hx2 : InR x2) (hx3 : InR x3) (hx4 : InR x4) (h :
    ((8 ≤ x4) →
      OkN Y e mX5_note [.ref (gl_b Y + 5), .int (i32 x1), .int (i32 1), .int (i32 x2)] RV iv av 116 (fun r2 iv3 av4 =>
        OkN Y e mX5_note [.ref (gl_b Y + 5), .int (i32 x1), .int (i32 2), .int (i32 x3)] RV iv3 av4 116 (fun r6 iv7 av8 =>
          OkN Y e mX5_note [.ref (gl_b Y + 5), .int (i32 x1), .int (i32 4), .int (i32 (-2))] RV iv7 av8 116 (fun r10 iv11 av12 =>
            ((InR (iv11 5 5)) →
              OkN Y e mX5_note [.ref (gl_b Y + 5), .int (i32 x1), .int (i32 7), .int (i32 (iv11 5 5))] RV iv11 av12 116 (fun r15 iv16 av17 =>
                P 0 iv16 av17
              )
            )
          )
        )
      )
    ) ∧
    ((¬ 8 ≤ x4) →
      OkN Y e mX5_note [.ref (gl_b Y + 5), .int (i32 x1), .int (i32 x4), .int (i32 0)] RV iv av 116 (fun r19 iv20 av21 =>
        L_X5_open_3 Y X P x1 x2 x3 (x4 + 1) iv20 av21
      )
    )) : L_X5_open_3 Y X P x1 x2 x3 x4 iv av := by
  unfold L_X5_open_3
  refine r_iload (pc' := 5) C 4 rfl dX5_open_3 rfl ?_
  refine r_bipush (pc' := 7) C dX5_open_5 (by decide) rfl ?_
  refine r_icmp_ge (pc' := 10) (tgt := 24) C hx4 (by decide) dX5_open_7 (by decide) rfl (fun c1 => ?_) (fun c1 => ?_)
  · replace h := h.1 c1
    refine r_aload_n (pc' := 25) C 0 rfl rfl dX5_open_24 rfl ?_
    refine r_iload_n (pc' := 26) C 1 rfl rfl dX5_open_25 rfl ?_
    refine r_iconst (pc' := 27) C dX5_open_26 rfl ?_
    refine r_iload_n (pc' := 28) C 2 rfl rfl dX5_open_27 rfl ?_
    refine c_Vv (pc' := 31) (mt := mX5_note) (as := [.int (i32 x1), .int (i32 1), .int (i32 x2)]) (st := []) (k := 5) C h rfl cl_X5_note ml_X5_28 im_X5_note sl_X5_note (by omega) (Nat.le_refl _) (Nat.le_refl _) rfl (by decide) kc_5 (by decide) rfl rfl rfl (Nat.le_of_ble_eq_true rfl) dX5_open_28 rfl (fun r2 iv3 av4 h => ?_)
    refine r_aload_n (pc' := 32) C 0 rfl rfl dX5_open_31 rfl ?_
    refine r_iload_n (pc' := 33) C 1 rfl rfl dX5_open_32 rfl ?_
    refine r_iconst (pc' := 34) C dX5_open_33 rfl ?_
    refine r_iload_n (pc' := 35) C 3 rfl rfl dX5_open_34 rfl ?_
    refine c_Vv (pc' := 38) (mt := mX5_note) (as := [.int (i32 x1), .int (i32 2), .int (i32 x3)]) (st := []) (k := 5) C h rfl cl_X5_note ml_X5_28 im_X5_note sl_X5_note (by omega) (Nat.le_refl _) (Nat.le_refl _) rfl (by decide) kc_5 (by decide) rfl rfl rfl (Nat.le_of_ble_eq_true rfl) dX5_open_35 rfl (fun r6 iv7 av8 h => ?_)
    refine r_aload_n (pc' := 39) C 0 rfl rfl dX5_open_38 rfl ?_
    refine r_iload_n (pc' := 40) C 1 rfl rfl dX5_open_39 rfl ?_
    refine r_iconst (pc' := 41) C dX5_open_40 rfl ?_
    refine r_bipush (pc' := 43) C dX5_open_41 (by decide) rfl ?_
    refine c_Vv (pc' := 46) (mt := mX5_note) (as := [.int (i32 x1), .int (i32 4), .int (i32 (-2))]) (st := []) (k := 5) C h rfl cl_X5_note ml_X5_28 im_X5_note sl_X5_note (by omega) (Nat.le_refl _) (Nat.le_refl _) rfl (by decide) kc_5 (by decide) rfl rfl rfl (Nat.le_of_ble_eq_true rfl) dX5_open_43 rfl (fun r10 iv11 av12 h => ?_)
    refine r_aload_n (pc' := 47) C 0 rfl rfl dX5_open_46 rfl ?_
    refine r_iload_n (pc' := 48) C 1 rfl rfl dX5_open_47 rfl ?_
    refine r_bipush (pc' := 50) C dX5_open_48 (by decide) rfl ?_
    refine r_aload_n (pc' := 51) C 0 rfl rfl dX5_open_50 rfl ?_
    refine r_geti (pc' := 54) (k := 5) C fl_X5_36 (by decide) kc_5 (by decide) fr_5_5 dX5_open_51 rfl (fun f14 => ?_)
    replace h := h f14
    refine c_Vv (pc' := 57) (mt := mX5_note) (as := [.int (i32 x1), .int (i32 7), .int (i32 (iv11 5 5))]) (st := []) (k := 5) C h rfl cl_X5_note ml_X5_28 im_X5_note sl_X5_note (by omega) (Nat.le_refl _) (Nat.le_refl _) rfl (by decide) kc_5 (by decide) rfl rfl rfl (Nat.le_of_ble_eq_true rfl) dX5_open_54 rfl (fun r15 iv16 av17 h => ?_)
    exact r_vret C ⟨rfl, rfl, h⟩ dX5_open_57
  · replace h := h.2 c1
    refine r_aload_n (pc' := 11) C 0 rfl rfl dX5_open_10 rfl ?_
    refine r_iload_n (pc' := 12) C 1 rfl rfl dX5_open_11 rfl ?_
    refine r_iload (pc' := 14) C 4 rfl dX5_open_12 rfl ?_
    refine r_iconst (pc' := 15) C dX5_open_14 rfl ?_
    refine c_Vv (pc' := 18) (mt := mX5_note) (as := [.int (i32 x1), .int (i32 x4), .int (i32 0)]) (st := []) (k := 5) C h rfl cl_X5_note ml_X5_28 im_X5_note sl_X5_note (by omega) (Nat.le_refl _) (Nat.le_refl _) rfl (by decide) kc_5 (by decide) rfl rfl rfl (Nat.le_of_ble_eq_true rfl) dX5_open_15 rfl (fun r19 iv20 av21 h => ?_)
    refine r_iinc (pc' := 21) (ls' := [(0, .ref (gl_b Y + 5)), (1, .int (i32 x1)), (2, .int (i32 x2)), (3, .int (i32 x3)), (4, .int (i32 (x4 + 1)))]) C 4 rfl (by decide) rfl dX5_open_18 rfl ?_
    refine r_goto (tgt := 3) C dX5_open_21 (by decide) ?_
    exact Wa.sub [0, 1, 2, 3, 4] rfl h
set_option maxHeartbeats 4000000 in
set_option maxRecDepth 100000 in
theorem o_X5_open {Y : Gl} {e : Nat} {P : PN} {x1 : Int} {x2 : Int} {x3 : Int} {iv av : IVt} (h : ∀ X : Cx, CX Y X RX5 "open" cX5_open 5 none (e + 1) 0 0 →
    L_X5_open_3 Y X P x1 x2 x3 0 iv av) : OkN Y (e + 1) mX5_open [.ref (gl_b Y + 5), .int (i32 x1), .int (i32 x2), .int (i32 x3)] RV iv av 116 P := by
  refine OkW.of rfl (by show _ ≤ 5; exact Nat.le_of_ble_eq_true rfl) fun X C0 hR => ?_
  have C : CX Y X RX5 "open" cX5_open 5 none (e + 1) 0 0 := C0
  replace h := h X C
  show Wa Y X 5 (g_MQ Y X 0 (g_N RV 116 P) 0 0) 0 0 0 [(0, .ref (gl_b Y + 5)), (1, .int (i32 x1)), (2, .int (i32 x2)), (3, .int (i32 x3))] [] RV iv av 116
  refine r_iconst (pc' := 1) C dX5_open_0 rfl ?_
  refine r_istore (pc' := 3) (ls' := [(0, .ref (gl_b Y + 5)), (1, .int (i32 x1)), (2, .int (i32 x2)), (3, .int (i32 x3)), (4, .int (i32 0))]) C (by decide) rfl dX5_open_1 rfl ?_
  exact Wa.sub [0, 1, 2, 3, 4] rfl h
def L_X5_share_2 (Y : Gl) (X : Cx) (P : PN) (x1 : Int) (x2 : Int) (x3 : Int) (iv av : IVt) : Prop := Wa Y X 4 (g_MQ Y X 0 (g_N RV 116 P) 0 0) 0 0 2 [(0, .ref (gl_b Y + 5)), (1, .int (i32 x1)), (2, .int (i32 x2)), (3, .int (i32 x3))] [] RV iv av 116
set_option maxHeartbeats 4000000 in
set_option maxRecDepth 100000 in
theorem w_X5_share_2 {Y : Gl} {X : Cx} {e : Nat} {P : PN} {x1 : Int} {x2 : Int} {x3 : Int} {iv av : IVt} (C : CX Y X RX5 "share" cX5_share 4 none (e + 1) 0 0) (hx1 : InR x1) (hx2 : InR x2) (hx3 : InR x3) (h :
    ((8 ≤ x3) →
      P 0 iv av
    ) ∧
    ((¬ 8 ≤ x3) →
      OkN Y e mX5_fact [.ref (gl_b Y + 5), .int (i32 x2), .int (i32 x3)] RV iv av 116 (fun r2 iv3 av4 =>
        (InR r2) →
        OkN Y e mX5_note [.ref (gl_b Y + 5), .int (i32 x1), .int (i32 x3), .int (i32 r2)] RV iv3 av4 116 (fun r6 iv7 av8 =>
          L_X5_share_2 Y X P x1 x2 (x3 + 1) iv7 av8
        )
      )
    )) : L_X5_share_2 Y X P x1 x2 x3 iv av := by
  unfold L_X5_share_2
  refine r_iload_n (pc' := 3) C 3 rfl rfl dX5_share_2 rfl ?_
  refine r_bipush (pc' := 5) C dX5_share_3 (by decide) rfl ?_
  refine r_icmp_ge (pc' := 8) (tgt := 26) C hx3 (by decide) dX5_share_5 (by decide) rfl (fun c1 => ?_) (fun c1 => ?_)
  · replace h := h.1 c1
    exact r_vret C ⟨rfl, rfl, h⟩ dX5_share_26
  · replace h := h.2 c1
    refine r_aload_n (pc' := 9) C 0 rfl rfl dX5_share_8 rfl ?_
    refine r_iload_n (pc' := 10) C 1 rfl rfl dX5_share_9 rfl ?_
    refine r_iload_n (pc' := 11) C 3 rfl rfl dX5_share_10 rfl ?_
    refine r_aload_n (pc' := 12) C 0 rfl rfl dX5_share_11 rfl ?_
    refine r_iload_n (pc' := 13) C 2 rfl rfl dX5_share_12 rfl ?_
    refine r_iload_n (pc' := 14) C 3 rfl rfl dX5_share_13 rfl ?_
    refine c_Vi (pc' := 17) (mt := mX5_fact) (as := [.int (i32 x2), .int (i32 x3)]) (st := [.int (i32 x3), .int (i32 x1), .ref (gl_b Y + 5)]) (k := 5) C h rfl cl_X5_fact ml_X5_42 im_X5_fact sl_X5_fact (by omega) (Nat.le_refl _) (Nat.le_refl _) rfl (by decide) kc_5 (by decide) rfl rfl rfl (Nat.le_of_ble_eq_true rfl) dX5_share_14 rfl (fun r2 iv3 av4 f5 h => ?_)
    replace h := h f5
    refine c_Vv (pc' := 20) (mt := mX5_note) (as := [.int (i32 x1), .int (i32 x3), .int (i32 r2)]) (st := []) (k := 5) C h rfl cl_X5_note ml_X5_28 im_X5_note sl_X5_note (by omega) (Nat.le_refl _) (Nat.le_refl _) rfl (by decide) kc_5 (by decide) rfl rfl rfl (Nat.le_of_ble_eq_true rfl) dX5_share_17 rfl (fun r6 iv7 av8 h => ?_)
    refine r_iinc (pc' := 23) (ls' := [(0, .ref (gl_b Y + 5)), (1, .int (i32 x1)), (2, .int (i32 x2)), (3, .int (i32 (x3 + 1)))]) C 3 rfl (by decide) rfl dX5_share_20 rfl ?_
    refine r_goto (tgt := 2) C dX5_share_23 (by decide) ?_
    exact Wa.sub [0, 1, 2, 3] rfl h
set_option maxHeartbeats 4000000 in
set_option maxRecDepth 100000 in
theorem o_X5_share {Y : Gl} {e : Nat} {P : PN} {x1 : Int} {x2 : Int} {iv av : IVt} (h : ∀ X : Cx, CX Y X RX5 "share" cX5_share 4 none (e + 1) 0 0 →
    L_X5_share_2 Y X P x1 x2 0 iv av) : OkN Y (e + 1) mX5_share [.ref (gl_b Y + 5), .int (i32 x1), .int (i32 x2)] RV iv av 116 P := by
  refine OkW.of rfl (by show _ ≤ 4; exact Nat.le_of_ble_eq_true rfl) fun X C0 hR => ?_
  have C : CX Y X RX5 "share" cX5_share 4 none (e + 1) 0 0 := C0
  replace h := h X C
  show Wa Y X 4 (g_MQ Y X 0 (g_N RV 116 P) 0 0) 0 0 0 [(0, .ref (gl_b Y + 5)), (1, .int (i32 x1)), (2, .int (i32 x2))] [] RV iv av 116
  refine r_iconst (pc' := 1) C dX5_share_0 rfl ?_
  refine r_istore_n (pc' := 2) (ls' := [(0, .ref (gl_b Y + 5)), (1, .int (i32 x1)), (2, .int (i32 x2)), (3, .int (i32 0))]) C (by decide) rfl rfl dX5_share_1 rfl ?_
  exact Wa.sub [0, 1, 2, 3] rfl h
set_option maxHeartbeats 4000000 in
set_option maxRecDepth 100000 in
theorem o_X5_addBlock {Y : Gl} {e : Nat} {P : PN} {x1 : Int} {x2 : Int} {iv av : IVt} (hx1 : InR x1) (hx2 : InR x2) (h : 
    ((InR (iv 5 5)) →
      (((iv 5 5) < 0) →
        P 0 iv av
      ) ∧
      ((¬ (iv 5 5) < 0) →
        ((80 ≤ (iv 5 5)) →
          P 0 iv av
        ) ∧
        ((¬ 80 ≤ (iv 5 5)) →
          (0 ≤ (iv 5 5) ∧ (iv 5 5) < 80) ∧
          (InR ((iv 5 5) + 1)) ∧
          OkN Y e mX5_fact [.ref (gl_b Y + 5), .int (i32 x1), .int (i32 3)] RV (up2 iv 5 5 ((iv 5 5) + 1)) (up2 av 7 ((iv 5 5).toNat) x2) 116 (fun r9 iv10 av11 =>
            (InR r9) →
            (InR (r9 + 1)) ∧
            OkN Y e mX5_note [.ref (gl_b Y + 5), .int (i32 x1), .int (i32 3), .int (i32 (r9 + 1))] RV iv10 av11 116 (fun r14 iv15 av16 =>
              P 0 iv15 av16
            )
          )
        )
      )
    )) : OkN Y (e + 1) mX5_addBlock [.ref (gl_b Y + 5), .int (i32 x1), .int (i32 x2)] RV iv av 116 P := by
  refine OkW.of rfl (by show _ ≤ 3; exact Nat.le_of_ble_eq_true rfl) fun X C0 hR => ?_
  have C : CX Y X RX5 "addBlock" cX5_addBlock 3 none (e + 1) 0 0 := C0
  show Wa Y X 3 (g_MQ Y X 0 (g_N RV 116 P) 0 0) 0 0 0 [(0, .ref (gl_b Y + 5)), (1, .int (i32 x1)), (2, .int (i32 x2))] [] RV iv av 116
  refine r_aload_n (pc' := 1) C 0 rfl rfl dX5_addBlock_0 rfl ?_
  refine r_geti (pc' := 4) (k := 5) C fl_X5_36 (by decide) kc_5 (by decide) fr_5_5 dX5_addBlock_1 rfl (fun f1 => ?_)
  replace h := h f1
  refine r_if_lt (pc' := 7) (tgt := 53) C f1 dX5_addBlock_4 (by decide) rfl (fun c2 => ?_) (fun c2 => ?_)
  · replace h := h.1 c2
    exact r_vret C ⟨rfl, rfl, h⟩ dX5_addBlock_53
  · replace h := h.2 c2
    refine r_aload_n (pc' := 8) C 0 rfl rfl dX5_addBlock_7 rfl ?_
    refine r_geti (pc' := 11) (k := 5) C fl_X5_36 (by decide) kc_5 (by decide) fr_5_5 dX5_addBlock_8 rfl (fun f3 => ?_)
    refine r_aload_n (pc' := 12) C 0 rfl rfl dX5_addBlock_11 rfl ?_
    refine r_getr (pc' := 15) (k := 5) (r := 7) C fl_X5_15 (by decide) kc_5 (by decide) fr_5_1 RV_5_1 dX5_addBlock_12 rfl ?_
    refine r_alen (pc' := 16) (k := 7) (v := 80) C (by decide) kc_7 (by decide) (by rw [kl_7]; rfl) dX5_addBlock_15 rfl ?_
    refine r_icmp_ge (pc' := 19) (tgt := 53) C f1 (by decide) dX5_addBlock_16 (by decide) rfl (fun c4 => ?_) (fun c4 => ?_)
    · replace h := h.1 c4
      exact r_vret C ⟨rfl, rfl, h⟩ dX5_addBlock_53
    · replace h := h.2 c4
      refine r_aload_n (pc' := 20) C 0 rfl rfl dX5_addBlock_19 rfl ?_
      refine r_getr (pc' := 23) (k := 5) (r := 7) C fl_X5_15 (by decide) kc_5 (by decide) fr_5_1 RV_5_1 dX5_addBlock_20 rfl ?_
      refine r_aload_n (pc' := 24) C 0 rfl rfl dX5_addBlock_23 rfl ?_
      refine r_geti (pc' := 27) (k := 5) C fl_X5_36 (by decide) kc_5 (by decide) fr_5_5 dX5_addBlock_24 rfl (fun f5 => ?_)
      refine r_iload_n (pc' := 28) C 2 rfl rfl dX5_addBlock_27 rfl ?_
      have o6 := h.1
      replace h := h.2
      refine r_iast (pc' := 29) (k := 7) C (by decide) kc_7 (by have := kl_7; omega) hx2 dX5_addBlock_28 rfl ?_
      refine r_aload_n (pc' := 30) C 0 rfl rfl dX5_addBlock_29 rfl ?_
      refine r_dup (pc' := 31) C rfl dX5_addBlock_30 rfl ?_
      refine r_geti (pc' := 34) (k := 5) C fl_X5_36 (by decide) kc_5 (by decide) fr_5_5 dX5_addBlock_31 rfl (fun f7 => ?_)
      refine r_iconst (pc' := 35) C dX5_addBlock_34 rfl ?_
      refine r_iadd (pc' := 36) C dX5_addBlock_35 rfl ?_
      have o8 := h.1
      replace h := h.2
      refine r_puti (pc' := 39) (k := 5) C fl_X5_36 (by decide) kc_5 (by decide) fr_5_5 o8 dX5_addBlock_36 rfl ?_
      refine r_aload_n (pc' := 40) C 0 rfl rfl dX5_addBlock_39 rfl ?_
      refine r_iload_n (pc' := 41) C 1 rfl rfl dX5_addBlock_40 rfl ?_
      refine r_iconst (pc' := 42) C dX5_addBlock_41 rfl ?_
      refine r_aload_n (pc' := 43) C 0 rfl rfl dX5_addBlock_42 rfl ?_
      refine r_iload_n (pc' := 44) C 1 rfl rfl dX5_addBlock_43 rfl ?_
      refine r_iconst (pc' := 45) C dX5_addBlock_44 rfl ?_
      refine c_Vi (pc' := 48) (mt := mX5_fact) (as := [.int (i32 x1), .int (i32 3)]) (st := [.int (i32 3), .int (i32 x1), .ref (gl_b Y + 5)]) (k := 5) C h rfl cl_X5_fact ml_X5_42 im_X5_fact sl_X5_fact (by omega) (Nat.le_refl _) (Nat.le_refl _) rfl (by decide) kc_5 (by decide) rfl rfl rfl (Nat.le_of_ble_eq_true rfl) dX5_addBlock_45 rfl (fun r9 iv10 av11 f12 h => ?_)
      replace h := h f12
      refine r_iconst (pc' := 49) C dX5_addBlock_48 rfl ?_
      refine r_iadd (pc' := 50) C dX5_addBlock_49 rfl ?_
      have o13 := h.1
      replace h := h.2
      refine c_Vv (pc' := 53) (mt := mX5_note) (as := [.int (i32 x1), .int (i32 3), .int (i32 (r9 + 1))]) (st := []) (k := 5) C h rfl cl_X5_note ml_X5_28 im_X5_note sl_X5_note (by omega) (Nat.le_refl _) (Nat.le_refl _) rfl (by decide) kc_5 (by decide) rfl rfl rfl (Nat.le_of_ble_eq_true rfl) dX5_addBlock_50 rfl (fun r14 iv15 av16 h => ?_)
      exact r_vret C ⟨rfl, rfl, h⟩ dX5_addBlock_53
set_option maxHeartbeats 4000000 in
set_option maxRecDepth 100000 in
theorem o_X5_addZeros {Y : Gl} {e : Nat} {P : PN} {x1 : Int} {x2 : Int} {iv av : IVt} (hx1 : InR x1) (h : 
    OkN Y (e + 1) mX5_addBlock [.ref (gl_b Y + 5), .int (i32 x1), .int (i32 0)] RV iv av 116 (fun r1 iv2 av3 =>
      OkN Y (e + 1) mX5_fact [.ref (gl_b Y + 5), .int (i32 x1), .int (i32 6)] RV iv2 av3 116 (fun r5 iv6 av7 =>
        (InR r5) →
        (InR (r5 + x2)) ∧
        OkN Y (e + 1) mX5_note [.ref (gl_b Y + 5), .int (i32 x1), .int (i32 6), .int (i32 (r5 + x2))] RV iv6 av7 116 (fun r10 iv11 av12 =>
          P 0 iv11 av12
        )
      )
    )) : OkN Y (e + 2) mX5_addZeros [.ref (gl_b Y + 5), .int (i32 x1), .int (i32 x2)] RV iv av 116 P := by
  refine OkW.of rfl (by show _ ≤ 3; exact Nat.le_of_ble_eq_true rfl) fun X C0 hR => ?_
  have C : CX Y X RX5 "addZeros" cX5_addZeros 3 none (e + 2) 0 0 := C0
  show Wa Y X 3 (g_MQ Y X 0 (g_N RV 116 P) 0 0) 0 0 0 [(0, .ref (gl_b Y + 5)), (1, .int (i32 x1)), (2, .int (i32 x2))] [] RV iv av 116
  refine r_aload_n (pc' := 1) C 0 rfl rfl dX5_addZeros_0 rfl ?_
  refine r_iload_n (pc' := 2) C 1 rfl rfl dX5_addZeros_1 rfl ?_
  refine r_iconst (pc' := 3) C dX5_addZeros_2 rfl ?_
  refine c_Vv (pc' := 6) (mt := mX5_addBlock) (as := [.int (i32 x1), .int (i32 0)]) (st := []) (k := 5) C h rfl cl_X5_addBlock ml_X5_46 im_X5_addBlock sl_X5_addBlock (by omega) (Nat.le_refl _) (Nat.le_refl _) rfl (by decide) kc_5 (by decide) rfl rfl rfl (Nat.le_of_ble_eq_true rfl) dX5_addZeros_3 rfl (fun r1 iv2 av3 h => ?_)
  refine r_aload_n (pc' := 7) C 0 rfl rfl dX5_addZeros_6 rfl ?_
  refine r_iload_n (pc' := 8) C 1 rfl rfl dX5_addZeros_7 rfl ?_
  refine r_bipush (pc' := 10) C dX5_addZeros_8 (by decide) rfl ?_
  refine r_aload_n (pc' := 11) C 0 rfl rfl dX5_addZeros_10 rfl ?_
  refine r_iload_n (pc' := 12) C 1 rfl rfl dX5_addZeros_11 rfl ?_
  refine r_bipush (pc' := 14) C dX5_addZeros_12 (by decide) rfl ?_
  refine c_Vi (pc' := 17) (mt := mX5_fact) (as := [.int (i32 x1), .int (i32 6)]) (st := [.int (i32 6), .int (i32 x1), .ref (gl_b Y + 5)]) (k := 5) C h rfl cl_X5_fact ml_X5_42 im_X5_fact sl_X5_fact (by omega) (Nat.le_refl _) (Nat.le_refl _) rfl (by decide) kc_5 (by decide) rfl rfl rfl (Nat.le_of_ble_eq_true rfl) dX5_addZeros_14 rfl (fun r5 iv6 av7 f8 h => ?_)
  replace h := h f8
  refine r_iload_n (pc' := 18) C 2 rfl rfl dX5_addZeros_17 rfl ?_
  refine r_iadd (pc' := 19) C dX5_addZeros_18 rfl ?_
  have o9 := h.1
  replace h := h.2
  refine c_Vv (pc' := 22) (mt := mX5_note) (as := [.int (i32 x1), .int (i32 6), .int (i32 (r5 + x2))]) (st := []) (k := 5) C h rfl cl_X5_note ml_X5_28 im_X5_note sl_X5_note (by omega) (Nat.le_refl _) (Nat.le_refl _) rfl (by decide) kc_5 (by decide) rfl rfl rfl (Nat.le_of_ble_eq_true rfl) dX5_addZeros_19 rfl (fun r10 iv11 av12 h => ?_)
  exact r_vret C ⟨rfl, rfl, h⟩ dX5_addZeros_22
set_option maxHeartbeats 4000000 in
set_option maxRecDepth 100000 in
theorem o_X5_join {Y : Gl} {e : Nat} {P : PN} {x1 : Int} {x2 : Int} {iv av : IVt} (hx1 : InR x1) (hx2 : InR x2) (h : 
    ((InR (iv 5 6)) →
      OkN Y e mX5_note [.ref (gl_b Y + 5), .int (i32 x1), .int (i32 4), .int (i32 (iv 5 6))] RV iv av 116 (fun r2 iv3 av4 =>
        OkN Y e mX5_note [.ref (gl_b Y + 5), .int (i32 x1), .int (i32 5), .int (i32 x2)] RV iv3 av4 116 (fun r6 iv7 av8 =>
          P 0 iv7 av8
        )
      )
    )) : OkN Y (e + 1) mX5_join [.ref (gl_b Y + 5), .int (i32 x1), .int (i32 x2)] RV iv av 116 P := by
  refine OkW.of rfl (by show _ ≤ 3; exact Nat.le_of_ble_eq_true rfl) fun X C0 hR => ?_
  have C : CX Y X RX5 "join" cX5_join 3 none (e + 1) 0 0 := C0
  show Wa Y X 3 (g_MQ Y X 0 (g_N RV 116 P) 0 0) 0 0 0 [(0, .ref (gl_b Y + 5)), (1, .int (i32 x1)), (2, .int (i32 x2))] [] RV iv av 116
  refine r_aload_n (pc' := 1) C 0 rfl rfl dX5_join_0 rfl ?_
  refine r_iload_n (pc' := 2) C 1 rfl rfl dX5_join_1 rfl ?_
  refine r_iconst (pc' := 3) C dX5_join_2 rfl ?_
  refine r_aload_n (pc' := 4) C 0 rfl rfl dX5_join_3 rfl ?_
  refine r_geti (pc' := 7) (k := 5) C fl_X5_39 (by decide) kc_5 (by decide) fr_5_6 dX5_join_4 rfl (fun f1 => ?_)
  replace h := h f1
  refine c_Vv (pc' := 10) (mt := mX5_note) (as := [.int (i32 x1), .int (i32 4), .int (i32 (iv 5 6))]) (st := []) (k := 5) C h rfl cl_X5_note ml_X5_28 im_X5_note sl_X5_note (by omega) (Nat.le_refl _) (Nat.le_refl _) rfl (by decide) kc_5 (by decide) rfl rfl rfl (Nat.le_of_ble_eq_true rfl) dX5_join_7 rfl (fun r2 iv3 av4 h => ?_)
  refine r_aload_n (pc' := 11) C 0 rfl rfl dX5_join_10 rfl ?_
  refine r_iload_n (pc' := 12) C 1 rfl rfl dX5_join_11 rfl ?_
  refine r_iconst (pc' := 13) C dX5_join_12 rfl ?_
  refine r_iload_n (pc' := 14) C 2 rfl rfl dX5_join_13 rfl ?_
  refine c_Vv (pc' := 17) (mt := mX5_note) (as := [.int (i32 x1), .int (i32 5), .int (i32 x2)]) (st := []) (k := 5) C h rfl cl_X5_note ml_X5_28 im_X5_note sl_X5_note (by omega) (Nat.le_refl _) (Nat.le_refl _) rfl (by decide) kc_5 (by decide) rfl rfl rfl (Nat.le_of_ble_eq_true rfl) dX5_join_14 rfl (fun r6 iv7 av8 h => ?_)
  exact r_vret C ⟨rfl, rfl, h⟩ dX5_join_17
set_option maxHeartbeats 4000000 in
set_option maxRecDepth 100000 in
theorem o_X5_addFragment {Y : Gl} {e : Nat} {P : PN} {x1 : Int} {x2 : Int} {iv av : IVt} (hx1 : InR x1) (hx2 : InR x2) (h : 
    ((InR (iv 5 6)) →
      (((iv 5 6) < 0) →
        P 0 iv av
      ) ∧
      ((¬ (iv 5 6) < 0) →
        ((64 ≤ (iv 5 6)) →
          P 0 iv av
        ) ∧
        ((¬ 64 ≤ (iv 5 6)) →
          ((64 ≤ (iv 5 6)) →
            P 0 iv av
          ) ∧
          ((¬ 64 ≤ (iv 5 6)) →
            (0 ≤ (iv 5 6) ∧ (iv 5 6) < 64) ∧
            (InR ((iv 5 6) + 1)) ∧
            P 0 (up2 iv 5 6 ((iv 5 6) + 1)) (up2 (up2 av 8 ((iv 5 6).toNat) x1) 9 ((iv 5 6).toNat) x2)
          )
        )
      )
    )) : OkN Y e mX5_addFragment [.ref (gl_b Y + 5), .int (i32 x1), .int (i32 x2)] RV iv av 116 P := by
  refine OkW.of rfl (by show _ ≤ 4; exact Nat.le_of_ble_eq_true rfl) fun X C0 hR => ?_
  have C : CX Y X RX5 "addFragment" cX5_addFragment 4 none e 0 0 := C0
  show Wa Y X 4 (g_MQ Y X 0 (g_N RV 116 P) 0 0) 0 0 0 [(0, .ref (gl_b Y + 5)), (1, .int (i32 x1)), (2, .int (i32 x2))] [] RV iv av 116
  refine r_aload_n (pc' := 1) C 0 rfl rfl dX5_addFragment_0 rfl ?_
  refine r_geti (pc' := 4) (k := 5) C fl_X5_39 (by decide) kc_5 (by decide) fr_5_6 dX5_addFragment_1 rfl (fun f1 => ?_)
  replace h := h f1
  refine r_istore_n (pc' := 5) (ls' := [(0, .ref (gl_b Y + 5)), (1, .int (i32 x1)), (2, .int (i32 x2)), (3, .int (i32 (iv 5 6)))]) C (by decide) rfl rfl dX5_addFragment_4 rfl ?_
  refine r_iload_n (pc' := 6) C 3 rfl rfl dX5_addFragment_5 rfl ?_
  refine r_if_lt (pc' := 9) (tgt := 51) C f1 dX5_addFragment_6 (by decide) rfl (fun c2 => ?_) (fun c2 => ?_)
  · replace h := h.1 c2
    exact r_vret C ⟨rfl, rfl, h⟩ dX5_addFragment_51
  · replace h := h.2 c2
    refine r_iload_n (pc' := 10) C 3 rfl rfl dX5_addFragment_9 rfl ?_
    refine r_aload_n (pc' := 11) C 0 rfl rfl dX5_addFragment_10 rfl ?_
    refine r_getr (pc' := 14) (k := 5) (r := 8) C fl_X5_18 (by decide) kc_5 (by decide) fr_5_2 RV_5_2 dX5_addFragment_11 rfl ?_
    refine r_alen (pc' := 15) (k := 8) (v := 64) C (by decide) kc_8 (by decide) (by rw [kl_8]; rfl) dX5_addFragment_14 rfl ?_
    refine r_icmp_ge (pc' := 18) (tgt := 51) C f1 (by decide) dX5_addFragment_15 (by decide) rfl (fun c3 => ?_) (fun c3 => ?_)
    · replace h := h.1 c3
      exact r_vret C ⟨rfl, rfl, h⟩ dX5_addFragment_51
    · replace h := h.2 c3
      refine r_iload_n (pc' := 19) C 3 rfl rfl dX5_addFragment_18 rfl ?_
      refine r_aload_n (pc' := 20) C 0 rfl rfl dX5_addFragment_19 rfl ?_
      refine r_getr (pc' := 23) (k := 5) (r := 9) C fl_X5_21 (by decide) kc_5 (by decide) fr_5_3 RV_5_3 dX5_addFragment_20 rfl ?_
      refine r_alen (pc' := 24) (k := 9) (v := 64) C (by decide) kc_9 (by decide) (by rw [kl_9]; rfl) dX5_addFragment_23 rfl ?_
      refine r_icmp_ge (pc' := 27) (tgt := 51) C f1 (by decide) dX5_addFragment_24 (by decide) rfl (fun c4 => ?_) (fun c4 => ?_)
      · replace h := h.1 c4
        exact r_vret C ⟨rfl, rfl, h⟩ dX5_addFragment_51
      · replace h := h.2 c4
        refine r_aload_n (pc' := 28) C 0 rfl rfl dX5_addFragment_27 rfl ?_
        refine r_getr (pc' := 31) (k := 5) (r := 8) C fl_X5_18 (by decide) kc_5 (by decide) fr_5_2 RV_5_2 dX5_addFragment_28 rfl ?_
        refine r_iload_n (pc' := 32) C 3 rfl rfl dX5_addFragment_31 rfl ?_
        refine r_iload_n (pc' := 33) C 1 rfl rfl dX5_addFragment_32 rfl ?_
        have o5 := h.1
        replace h := h.2
        refine r_iast (pc' := 34) (k := 8) C (by decide) kc_8 (by have := kl_8; omega) hx1 dX5_addFragment_33 rfl ?_
        refine r_aload_n (pc' := 35) C 0 rfl rfl dX5_addFragment_34 rfl ?_
        refine r_getr (pc' := 38) (k := 5) (r := 9) C fl_X5_21 (by decide) kc_5 (by decide) fr_5_3 RV_5_3 dX5_addFragment_35 rfl ?_
        refine r_iload_n (pc' := 39) C 3 rfl rfl dX5_addFragment_38 rfl ?_
        refine r_iload_n (pc' := 40) C 2 rfl rfl dX5_addFragment_39 rfl ?_
        refine r_iast (pc' := 41) (k := 9) C (by decide) kc_9 (by have := kl_9; omega) hx2 dX5_addFragment_40 rfl ?_
        refine r_aload_n (pc' := 42) C 0 rfl rfl dX5_addFragment_41 rfl ?_
        refine r_dup (pc' := 43) C rfl dX5_addFragment_42 rfl ?_
        refine r_geti (pc' := 46) (k := 5) C fl_X5_39 (by decide) kc_5 (by decide) fr_5_6 dX5_addFragment_43 rfl (fun f6 => ?_)
        refine r_iconst (pc' := 47) C dX5_addFragment_46 rfl ?_
        refine r_iadd (pc' := 48) C dX5_addFragment_47 rfl ?_
        have o7 := h.1
        replace h := h.2
        refine r_puti (pc' := 51) (k := 5) C fl_X5_39 (by decide) kc_5 (by decide) fr_5_6 o7 dX5_addFragment_48 rfl ?_
        exact r_vret C ⟨rfl, rfl, h⟩ dX5_addFragment_51
set_option maxHeartbeats 4000000 in
set_option maxRecDepth 100000 in
theorem o_X5_fragmentCount {Y : Gl} {e : Nat} {P : PN} {iv av : IVt} (h : 
    ((InR (iv 5 6)) →
      P (iv 5 6) iv av
    )) : OkN Y e mX5_fragmentCount [.ref (gl_b Y + 5)] RV iv av 116 P := by
  refine OkW.of rfl (by show _ ≤ 1; exact Nat.le_of_ble_eq_true rfl) fun X C0 hR => ?_
  have C : CX Y X RX5 "fragmentCount" cX5_fragmentCount 1 (some .int) e 0 0 := C0
  show Wa Y X 1 (g_MQ Y X 1 (g_N RV 116 P) 0 0) 0 0 0 [(0, .ref (gl_b Y + 5))] [] RV iv av 116
  refine r_aload_n (pc' := 1) C 0 rfl rfl dX5_fragmentCount_0 rfl ?_
  refine r_geti (pc' := 4) (k := 5) C fl_X5_39 (by decide) kc_5 (by decide) fr_5_6 dX5_fragmentCount_1 rfl (fun f1 => ?_)
  replace h := h f1
  exact r_iret C f1 ⟨rfl, rfl, h⟩ dX5_fragmentCount_4
set_option maxHeartbeats 4000000 in
set_option maxRecDepth 100000 in
theorem o_X5_fragmentBegin {Y : Gl} {e : Nat} {P : PN} {x1 : Int} {iv av : IVt} (hx1 : InR x1) (h : 
    ((x1 < 0) →
      P 0 iv av
    ) ∧
    ((¬ x1 < 0) →
      ((64 ≤ x1) →
        P 0 iv av
      ) ∧
      ((¬ 64 ≤ x1) →
        (0 ≤ x1 ∧ x1 < 64) ∧
        ((InR (av 8 x1.toNat)) →
          P (av 8 x1.toNat) iv av
        )
      )
    )) : OkN Y e mX5_fragmentBegin [.ref (gl_b Y + 5), .int (i32 x1)] RV iv av 116 P := by
  refine OkW.of rfl (by show _ ≤ 2; exact Nat.le_of_ble_eq_true rfl) fun X C0 hR => ?_
  have C : CX Y X RX5 "fragmentBegin" cX5_fragmentBegin 2 (some .int) e 0 0 := C0
  show Wa Y X 2 (g_MQ Y X 1 (g_N RV 116 P) 0 0) 0 0 0 [(0, .ref (gl_b Y + 5)), (1, .int (i32 x1))] [] RV iv av 116
  refine r_iload_n (pc' := 1) C 1 rfl rfl dX5_fragmentBegin_0 rfl ?_
  refine r_if_lt (pc' := 4) (tgt := 22) C hx1 dX5_fragmentBegin_1 (by decide) rfl (fun c1 => ?_) (fun c1 => ?_)
  · replace h := h.1 c1
    refine r_iconst (pc' := 23) C dX5_fragmentBegin_22 rfl ?_
    exact r_iret C (by decide) ⟨rfl, rfl, h⟩ dX5_fragmentBegin_23
  · replace h := h.2 c1
    refine r_iload_n (pc' := 5) C 1 rfl rfl dX5_fragmentBegin_4 rfl ?_
    refine r_aload_n (pc' := 6) C 0 rfl rfl dX5_fragmentBegin_5 rfl ?_
    refine r_getr (pc' := 9) (k := 5) (r := 8) C fl_X5_18 (by decide) kc_5 (by decide) fr_5_2 RV_5_2 dX5_fragmentBegin_6 rfl ?_
    refine r_alen (pc' := 10) (k := 8) (v := 64) C (by decide) kc_8 (by decide) (by rw [kl_8]; rfl) dX5_fragmentBegin_9 rfl ?_
    refine r_icmp_ge (pc' := 13) (tgt := 22) C hx1 (by decide) dX5_fragmentBegin_10 (by decide) rfl (fun c2 => ?_) (fun c2 => ?_)
    · replace h := h.1 c2
      refine r_iconst (pc' := 23) C dX5_fragmentBegin_22 rfl ?_
      exact r_iret C (by decide) ⟨rfl, rfl, h⟩ dX5_fragmentBegin_23
    · replace h := h.2 c2
      refine r_aload_n (pc' := 14) C 0 rfl rfl dX5_fragmentBegin_13 rfl ?_
      refine r_getr (pc' := 17) (k := 5) (r := 8) C fl_X5_18 (by decide) kc_5 (by decide) fr_5_2 RV_5_2 dX5_fragmentBegin_14 rfl ?_
      refine r_iload_n (pc' := 18) C 1 rfl rfl dX5_fragmentBegin_17 rfl ?_
      have o3 := h.1
      replace h := h.2
      refine r_iald (pc' := 19) (k := 8) C (by decide) kc_8 (by have := kl_8; omega) dX5_fragmentBegin_18 rfl (fun f4 => ?_)
      replace h := h f4
      refine r_goto (tgt := 23) C dX5_fragmentBegin_19 (by decide) ?_
      exact r_iret C f4 ⟨rfl, rfl, h⟩ dX5_fragmentBegin_23
set_option maxHeartbeats 4000000 in
set_option maxRecDepth 100000 in
theorem o_X5_fragmentNumber {Y : Gl} {e : Nat} {P : PN} {x1 : Int} {iv av : IVt} (hx1 : InR x1) (h : 
    ((x1 < 0) →
      P 0 iv av
    ) ∧
    ((¬ x1 < 0) →
      ((64 ≤ x1) →
        P 0 iv av
      ) ∧
      ((¬ 64 ≤ x1) →
        (0 ≤ x1 ∧ x1 < 64) ∧
        ((InR (av 9 x1.toNat)) →
          P (av 9 x1.toNat) iv av
        )
      )
    )) : OkN Y e mX5_fragmentNumber [.ref (gl_b Y + 5), .int (i32 x1)] RV iv av 116 P := by
  refine OkW.of rfl (by show _ ≤ 2; exact Nat.le_of_ble_eq_true rfl) fun X C0 hR => ?_
  have C : CX Y X RX5 "fragmentNumber" cX5_fragmentNumber 2 (some .int) e 0 0 := C0
  show Wa Y X 2 (g_MQ Y X 1 (g_N RV 116 P) 0 0) 0 0 0 [(0, .ref (gl_b Y + 5)), (1, .int (i32 x1))] [] RV iv av 116
  refine r_iload_n (pc' := 1) C 1 rfl rfl dX5_fragmentNumber_0 rfl ?_
  refine r_if_lt (pc' := 4) (tgt := 22) C hx1 dX5_fragmentNumber_1 (by decide) rfl (fun c1 => ?_) (fun c1 => ?_)
  · replace h := h.1 c1
    refine r_iconst (pc' := 23) C dX5_fragmentNumber_22 rfl ?_
    exact r_iret C (by decide) ⟨rfl, rfl, h⟩ dX5_fragmentNumber_23
  · replace h := h.2 c1
    refine r_iload_n (pc' := 5) C 1 rfl rfl dX5_fragmentNumber_4 rfl ?_
    refine r_aload_n (pc' := 6) C 0 rfl rfl dX5_fragmentNumber_5 rfl ?_
    refine r_getr (pc' := 9) (k := 5) (r := 9) C fl_X5_21 (by decide) kc_5 (by decide) fr_5_3 RV_5_3 dX5_fragmentNumber_6 rfl ?_
    refine r_alen (pc' := 10) (k := 9) (v := 64) C (by decide) kc_9 (by decide) (by rw [kl_9]; rfl) dX5_fragmentNumber_9 rfl ?_
    refine r_icmp_ge (pc' := 13) (tgt := 22) C hx1 (by decide) dX5_fragmentNumber_10 (by decide) rfl (fun c2 => ?_) (fun c2 => ?_)
    · replace h := h.1 c2
      refine r_iconst (pc' := 23) C dX5_fragmentNumber_22 rfl ?_
      exact r_iret C (by decide) ⟨rfl, rfl, h⟩ dX5_fragmentNumber_23
    · replace h := h.2 c2
      refine r_aload_n (pc' := 14) C 0 rfl rfl dX5_fragmentNumber_13 rfl ?_
      refine r_getr (pc' := 17) (k := 5) (r := 9) C fl_X5_21 (by decide) kc_5 (by decide) fr_5_3 RV_5_3 dX5_fragmentNumber_14 rfl ?_
      refine r_iload_n (pc' := 18) C 1 rfl rfl dX5_fragmentNumber_17 rfl ?_
      have o3 := h.1
      replace h := h.2
      refine r_iald (pc' := 19) (k := 9) C (by decide) kc_9 (by have := kl_9; omega) dX5_fragmentNumber_18 rfl (fun f4 => ?_)
      replace h := h f4
      refine r_goto (tgt := 23) C dX5_fragmentNumber_19 (by decide) ?_
      exact r_iret C f4 ⟨rfl, rfl, h⟩ dX5_fragmentNumber_23
set_option maxHeartbeats 4000000 in
set_option maxRecDepth 100000 in
theorem o_X5_blockNumber {Y : Gl} {e : Nat} {P : PN} {x1 : Int} {x2 : Int} {iv av : IVt} (hx1 : InR x1) (h : 
    OkN Y e mX5_fact [.ref (gl_b Y + 5), .int (i32 x1), .int (i32 7)] RV iv av 116 (fun r1 iv2 av3 =>
      (InR r1) →
      (InR (r1 + x2)) ∧
      (((r1 + x2) < 0) →
        P 0 iv2 av3
      ) ∧
      ((¬ (r1 + x2) < 0) →
        ((80 ≤ (r1 + x2)) →
          P 0 iv2 av3
        ) ∧
        ((¬ 80 ≤ (r1 + x2)) →
          (0 ≤ (r1 + x2) ∧ (r1 + x2) < 80) ∧
          ((InR (av3 7 (r1 + x2).toNat)) →
            P (av3 7 (r1 + x2).toNat) iv2 av3
          )
        )
      )
    )) : OkN Y (e + 1) mX5_blockNumber [.ref (gl_b Y + 5), .int (i32 x1), .int (i32 x2)] RV iv av 116 P := by
  refine OkW.of rfl (by show _ ≤ 4; exact Nat.le_of_ble_eq_true rfl) fun X C0 hR => ?_
  have C : CX Y X RX5 "blockNumber" cX5_blockNumber 4 (some .int) (e + 1) 0 0 := C0
  show Wa Y X 4 (g_MQ Y X 1 (g_N RV 116 P) 0 0) 0 0 0 [(0, .ref (gl_b Y + 5)), (1, .int (i32 x1)), (2, .int (i32 x2))] [] RV iv av 116
  refine r_aload_n (pc' := 1) C 0 rfl rfl dX5_blockNumber_0 rfl ?_
  refine r_iload_n (pc' := 2) C 1 rfl rfl dX5_blockNumber_1 rfl ?_
  refine r_bipush (pc' := 4) C dX5_blockNumber_2 (by decide) rfl ?_
  refine c_Vi (pc' := 7) (mt := mX5_fact) (as := [.int (i32 x1), .int (i32 7)]) (st := []) (k := 5) C h rfl cl_X5_fact ml_X5_42 im_X5_fact sl_X5_fact (by omega) (Nat.le_refl _) (Nat.le_refl _) rfl (by decide) kc_5 (by decide) rfl rfl rfl (Nat.le_of_ble_eq_true rfl) dX5_blockNumber_4 rfl (fun r1 iv2 av3 f4 h => ?_)
  replace h := h f4
  refine r_iload_n (pc' := 8) C 2 rfl rfl dX5_blockNumber_7 rfl ?_
  refine r_iadd (pc' := 9) C dX5_blockNumber_8 rfl ?_
  refine r_istore_n (pc' := 10) (ls' := [(0, .ref (gl_b Y + 5)), (1, .int (i32 x1)), (2, .int (i32 x2)), (3, .int (i32 (r1 + x2)))]) C (by decide) rfl rfl dX5_blockNumber_9 rfl ?_
  refine r_iload_n (pc' := 11) C 3 rfl rfl dX5_blockNumber_10 rfl ?_
  have o5 := h.1
  replace h := h.2
  refine r_if_lt (pc' := 14) (tgt := 32) C o5 dX5_blockNumber_11 (by decide) rfl (fun c6 => ?_) (fun c6 => ?_)
  · replace h := h.1 c6
    refine r_iconst (pc' := 33) C dX5_blockNumber_32 rfl ?_
    exact r_iret C (by decide) ⟨rfl, rfl, h⟩ dX5_blockNumber_33
  · replace h := h.2 c6
    refine r_iload_n (pc' := 15) C 3 rfl rfl dX5_blockNumber_14 rfl ?_
    refine r_aload_n (pc' := 16) C 0 rfl rfl dX5_blockNumber_15 rfl ?_
    refine r_getr (pc' := 19) (k := 5) (r := 7) C fl_X5_15 (by decide) kc_5 (by decide) fr_5_1 RV_5_1 dX5_blockNumber_16 rfl ?_
    refine r_alen (pc' := 20) (k := 7) (v := 80) C (by decide) kc_7 (by decide) (by rw [kl_7]; rfl) dX5_blockNumber_19 rfl ?_
    refine r_icmp_ge (pc' := 23) (tgt := 32) C o5 (by decide) dX5_blockNumber_20 (by decide) rfl (fun c7 => ?_) (fun c7 => ?_)
    · replace h := h.1 c7
      refine r_iconst (pc' := 33) C dX5_blockNumber_32 rfl ?_
      exact r_iret C (by decide) ⟨rfl, rfl, h⟩ dX5_blockNumber_33
    · replace h := h.2 c7
      refine r_aload_n (pc' := 24) C 0 rfl rfl dX5_blockNumber_23 rfl ?_
      refine r_getr (pc' := 27) (k := 5) (r := 7) C fl_X5_15 (by decide) kc_5 (by decide) fr_5_1 RV_5_1 dX5_blockNumber_24 rfl ?_
      refine r_iload_n (pc' := 28) C 3 rfl rfl dX5_blockNumber_27 rfl ?_
      have o8 := h.1
      replace h := h.2
      refine r_iald (pc' := 29) (k := 7) C (by decide) kc_7 (by have := kl_7; omega) dX5_blockNumber_28 rfl (fun f9 => ?_)
      replace h := h f9
      refine r_goto (tgt := 33) C dX5_blockNumber_29 (by decide) ?_
      exact r_iret C f9 ⟨rfl, rfl, h⟩ dX5_blockNumber_33
def L_X5_blockBegin_10 (Y : Gl) (X : Cx) (P : PN) (x1 : Int) (x2 : Int) (x3 : Int) (x4 : Int) (iv av : IVt) : Prop := Wa Y X 5 (g_MQ Y X 1 (g_N RV 116 P) 0 0) 0 0 10 [(0, .ref (gl_b Y + 5)), (1, .int (i32 x1)), (2, .int (i32 x2)), (3, .int (i32 x3)), (4, .int (i32 x4))] [] RV iv av 116
set_option maxHeartbeats 4000000 in
set_option maxRecDepth 100000 in
theorem w_X5_blockBegin_10 {Y : Gl} {X : Cx} {e : Nat} {P : PN} {x1 : Int} {x2 : Int} {x3 : Int} {x4 : Int} {iv av : IVt} (C : CX Y X RX5 "blockBegin" cX5_blockBegin 5 (some .int) (e + 2) 0 0) (hx1 : InR x1) (hx2 : InR x2) (hx3 : InR x3) (hx4 : InR x4) (h :
    ((x2 ≤ x4) →
      P x3 iv av
    ) ∧
    ((¬ x2 ≤ x4) →
      OkN Y (e + 1) mX5_blockNumber [.ref (gl_b Y + 5), .int (i32 x1), .int (i32 x4)] RV iv av 116 (fun r2 iv3 av4 =>
        (InR r2) →
        L_X5_blockBegin_10 Y X P x1 x2 (x3 + (r2 % 16777216)) (x4 + 1) iv3 av4
      )
    )) : L_X5_blockBegin_10 Y X P x1 x2 x3 x4 iv av := by
  unfold L_X5_blockBegin_10
  refine r_iload (pc' := 12) C 4 rfl dX5_blockBegin_10 rfl ?_
  refine r_iload_n (pc' := 13) C 2 rfl rfl dX5_blockBegin_12 rfl ?_
  refine r_icmp_ge (pc' := 16) (tgt := 35) C hx4 hx2 dX5_blockBegin_13 (by decide) rfl (fun c1 => ?_) (fun c1 => ?_)
  · replace h := h.1 c1
    refine r_iload_n (pc' := 36) C 3 rfl rfl dX5_blockBegin_35 rfl ?_
    exact r_iret C hx3 ⟨rfl, rfl, h⟩ dX5_blockBegin_36
  · replace h := h.2 c1
    refine r_iload_n (pc' := 17) C 3 rfl rfl dX5_blockBegin_16 rfl ?_
    refine r_aload_n (pc' := 18) C 0 rfl rfl dX5_blockBegin_17 rfl ?_
    refine r_iload_n (pc' := 19) C 1 rfl rfl dX5_blockBegin_18 rfl ?_
    refine r_iload (pc' := 21) C 4 rfl dX5_blockBegin_19 rfl ?_
    refine c_Vi (pc' := 24) (mt := mX5_blockNumber) (as := [.int (i32 x1), .int (i32 x4)]) (st := [.int (i32 x3)]) (k := 5) C h rfl cl_X5_blockNumber ml_X5_50 im_X5_blockNumber sl_X5_blockNumber (by omega) (Nat.le_refl _) (Nat.le_refl _) rfl (by decide) kc_5 (by decide) rfl rfl rfl (Nat.le_of_ble_eq_true rfl) dX5_blockBegin_21 rfl (fun r2 iv3 av4 f5 h => ?_)
    replace h := h f5
    refine r_ldc (pc' := 26) (x := 16777215) C ct_X5_53 (by decide) dX5_blockBegin_24 rfl ?_
    refine r_iandM (pc' := 27) (m := 16777216) C 24 (by decide) (by decide) (by decide) dX5_blockBegin_26 rfl ?_
    refine r_iadd (pc' := 28) C dX5_blockBegin_27 rfl ?_
    refine r_istore_n (pc' := 29) (ls' := [(0, .ref (gl_b Y + 5)), (1, .int (i32 x1)), (2, .int (i32 x2)), (3, .int (i32 (x3 + (r2 % 16777216)))), (4, .int (i32 x4))]) C (by decide) rfl rfl dX5_blockBegin_28 rfl ?_
    refine r_iinc (pc' := 32) (ls' := [(0, .ref (gl_b Y + 5)), (1, .int (i32 x1)), (2, .int (i32 x2)), (3, .int (i32 (x3 + (r2 % 16777216)))), (4, .int (i32 (x4 + 1)))]) C 4 rfl (by decide) rfl dX5_blockBegin_29 rfl ?_
    refine r_goto (tgt := 10) C dX5_blockBegin_32 (by decide) ?_
    exact Wa.sub [0, 1, 2, 3, 4] rfl h
set_option maxHeartbeats 4000000 in
set_option maxRecDepth 100000 in
theorem o_X5_blockBegin {Y : Gl} {e : Nat} {P : PN} {x1 : Int} {x2 : Int} {iv av : IVt} (hx1 : InR x1) (h : ∀ X : Cx, CX Y X RX5 "blockBegin" cX5_blockBegin 5 (some .int) (e + 2) 0 0 →
    OkN Y (e + 1) mX5_fact [.ref (gl_b Y + 5), .int (i32 x1), .int (i32 2)] RV iv av 116 (fun r1 iv2 av3 =>
      (InR r1) →
      L_X5_blockBegin_10 Y X P x1 x2 r1 0 iv2 av3
    )) : OkN Y (e + 2) mX5_blockBegin [.ref (gl_b Y + 5), .int (i32 x1), .int (i32 x2)] RV iv av 116 P := by
  refine OkW.of rfl (by show _ ≤ 5; exact Nat.le_of_ble_eq_true rfl) fun X C0 hR => ?_
  have C : CX Y X RX5 "blockBegin" cX5_blockBegin 5 (some .int) (e + 2) 0 0 := C0
  replace h := h X C
  show Wa Y X 5 (g_MQ Y X 1 (g_N RV 116 P) 0 0) 0 0 0 [(0, .ref (gl_b Y + 5)), (1, .int (i32 x1)), (2, .int (i32 x2))] [] RV iv av 116
  refine r_aload_n (pc' := 1) C 0 rfl rfl dX5_blockBegin_0 rfl ?_
  refine r_iload_n (pc' := 2) C 1 rfl rfl dX5_blockBegin_1 rfl ?_
  refine r_iconst (pc' := 3) C dX5_blockBegin_2 rfl ?_
  refine c_Vi (pc' := 6) (mt := mX5_fact) (as := [.int (i32 x1), .int (i32 2)]) (st := []) (k := 5) C h rfl cl_X5_fact ml_X5_42 im_X5_fact sl_X5_fact (by omega) (Nat.le_refl _) (Nat.le_refl _) rfl (by decide) kc_5 (by decide) rfl rfl rfl (Nat.le_of_ble_eq_true rfl) dX5_blockBegin_3 rfl (fun r1 iv2 av3 f4 h => ?_)
  replace h := h f4
  refine r_istore_n (pc' := 7) (ls' := [(0, .ref (gl_b Y + 5)), (1, .int (i32 x1)), (2, .int (i32 x2)), (3, .int (i32 r1))]) C (by decide) rfl rfl dX5_blockBegin_6 rfl ?_
  refine r_iconst (pc' := 8) C dX5_blockBegin_7 rfl ?_
  refine r_istore (pc' := 10) (ls' := [(0, .ref (gl_b Y + 5)), (1, .int (i32 x1)), (2, .int (i32 x2)), (3, .int (i32 r1)), (4, .int (i32 0))]) C (by decide) rfl dX5_blockBegin_8 rfl ?_
  exact Wa.sub [0, 1, 2, 3, 4] rfl h
set_option maxHeartbeats 4000000 in
set_option maxRecDepth 100000 in
theorem o_X5_wholeBytes {Y : Gl} {e : Nat} {P : PN} {x1 : Int} {x2 : Int} {iv av : IVt} (hx1 : InR x1) (h : 
    OkN Y e mX5_blockBytes [.ref (gl_b Y + 5)] RV iv av 116 (fun r1 iv2 av3 =>
      (InR r1) →
      OkN Y e mX5_fact [.ref (gl_b Y + 5), .int (i32 x1), .int (i32 1)] RV iv2 av3 116 (fun r5 iv6 av7 =>
        (InR r5) →
        ((InR (iv6 5 4)) →
          (0 ≤ (iv6 5 4) ∧ (iv6 5 4) ≤ 31) ∧
          (InR (r5 - (x2 * 2 ^ (iv6 5 4).toNat))) ∧
          P (min r1 (r5 - (x2 * 2 ^ (iv6 5 4).toNat))) iv6 av7
        )
      )
    )) : OkN Y (e + 1) mX5_wholeBytes [.ref (gl_b Y + 5), .int (i32 x1), .int (i32 x2)] RV iv av 116 P := by
  refine OkW.of rfl (by show _ ≤ 3; exact Nat.le_of_ble_eq_true rfl) fun X C0 hR => ?_
  have C : CX Y X RX5 "wholeBytes" cX5_wholeBytes 3 (some .int) (e + 1) 0 0 := C0
  show Wa Y X 3 (g_MQ Y X 1 (g_N RV 116 P) 0 0) 0 0 0 [(0, .ref (gl_b Y + 5)), (1, .int (i32 x1)), (2, .int (i32 x2))] [] RV iv av 116
  refine r_aload_n (pc' := 1) C 0 rfl rfl dX5_wholeBytes_0 rfl ?_
  refine c_Vi (pc' := 4) (mt := mX5_blockBytes) (as := []) (st := []) (k := 5) C h rfl cl_X5_blockBytes ml_X5_54 im_X5_blockBytes sl_X5_blockBytes (by omega) (Nat.le_refl _) (Nat.le_refl _) rfl (by decide) kc_5 (by decide) rfl rfl rfl (Nat.le_of_ble_eq_true rfl) dX5_wholeBytes_1 rfl (fun r1 iv2 av3 f4 h => ?_)
  replace h := h f4
  refine r_aload_n (pc' := 5) C 0 rfl rfl dX5_wholeBytes_4 rfl ?_
  refine r_iload_n (pc' := 6) C 1 rfl rfl dX5_wholeBytes_5 rfl ?_
  refine r_iconst (pc' := 7) C dX5_wholeBytes_6 rfl ?_
  refine c_Vi (pc' := 10) (mt := mX5_fact) (as := [.int (i32 x1), .int (i32 1)]) (st := [.int (i32 r1)]) (k := 5) C h rfl cl_X5_fact ml_X5_42 im_X5_fact sl_X5_fact (by omega) (Nat.le_refl _) (Nat.le_refl _) rfl (by decide) kc_5 (by decide) rfl rfl rfl (Nat.le_of_ble_eq_true rfl) dX5_wholeBytes_7 rfl (fun r5 iv6 av7 f8 h => ?_)
  replace h := h f8
  refine r_iload_n (pc' := 11) C 2 rfl rfl dX5_wholeBytes_10 rfl ?_
  refine r_aload_n (pc' := 12) C 0 rfl rfl dX5_wholeBytes_11 rfl ?_
  refine r_geti (pc' := 15) (k := 5) C fl_X5_32 (by decide) kc_5 (by decide) fr_5_4 dX5_wholeBytes_12 rfl (fun f9 => ?_)
  replace h := h f9
  have o10 := h.1
  replace h := h.2
  refine r_ishl (pc' := 16) C o10 dX5_wholeBytes_15 rfl ?_
  refine r_isub (pc' := 17) C dX5_wholeBytes_16 rfl ?_
  have o11 := h.1
  replace h := h.2
  refine r_min (pc' := 20) C ml_X5_58 wd_min_s wd_math wd_min_c (by omega) (Nat.le_of_ble_eq_true rfl) (Nat.le_refl _) (Nat.le_refl _) f4 o11 dX5_wholeBytes_17 rfl ?_
  exact r_iret C (by omega) ⟨rfl, rfl, h⟩ dX5_wholeBytes_20
def L_X0_bits_31 (Y : Gl) (X : Cx) (P : PN) (iv av : IVt) : Prop := Wa Y X 3 (g_MQ Y X 0 (g_N RV 116 P) 0 0) 0 0 31 [(0, .ref (gl_b Y + 57))] [] RV iv av 116
set_option maxHeartbeats 4000000 in
set_option maxRecDepth 100000 in
theorem w_X0_bits_31 {Y : Gl} {X : Cx} {e : Nat} {P : PN} {iv av : IVt} (C : CX Y X RX0 "bits" cX0_bits 3 none (e + 1) 0 0) (h :
    ((InR (iv 57 2)) →
      (((iv 57 2) < 8) →
        P 0 iv av
      ) ∧
      ((¬ (iv 57 2) < 8) →
        ((InR (iv 57 1)) →
          OkN Y e mX2_add [.ref (gl_b Y + 12), .int (i32 (iv 57 1))] RV iv av 116 (fun r4 iv5 av6 =>
            ((InR (iv5 57 1)) →
              ((InR (iv5 57 2)) →
                (InR ((iv5 57 2) - 8)) ∧
                L_X0_bits_31 Y X P (up2 (up2 iv5 57 1 ((iv5 57 1) % 4294967296 / 256)) 57 2 ((iv5 57 2) - 8)) av6
              )
            )
          )
        )
      )
    )) : L_X0_bits_31 Y X P iv av := by
  unfold L_X0_bits_31
  refine r_aload_n (pc' := 32) C 0 rfl rfl dX0_bits_31 rfl ?_
  refine r_geti (pc' := 35) (k := 57) C fl_X0_17 (by decide) kc_57 (by decide) fr_0_2 dX0_bits_32 rfl (fun f1 => ?_)
  replace h := h f1
  refine r_bipush (pc' := 37) C dX0_bits_35 (by decide) rfl ?_
  refine r_icmp_lt (pc' := 40) (tgt := 76) C f1 (by decide) dX0_bits_37 (by decide) rfl (fun c2 => ?_) (fun c2 => ?_)
  · replace h := h.1 c2
    exact r_vret C ⟨rfl, rfl, h⟩ dX0_bits_76
  · replace h := h.2 c2
    refine r_aload_n (pc' := 41) C 0 rfl rfl dX0_bits_40 rfl ?_
    refine r_getr (pc' := 44) (k := 57) (r := 12) C fl_X0_7 (by decide) kc_57 (by decide) fr_0_0 RV_57_0 dX0_bits_41 rfl ?_
    refine r_aload_n (pc' := 45) C 0 rfl rfl dX0_bits_44 rfl ?_
    refine r_geti (pc' := 48) (k := 57) C fl_X0_13 (by decide) kc_57 (by decide) fr_0_1 dX0_bits_45 rfl (fun f3 => ?_)
    replace h := h f3
    refine c_Vv (pc' := 51) (mt := mX2_add) (as := [.int (i32 (iv 57 1))]) (st := []) (k := 12) C h rfl cl_X2_add ml_X0_20 im_X2_add sl_X2_add (by omega) (Nat.le_refl _) (Nat.le_refl _) rfl (by decide) kc_12 (by decide) rfl rfl rfl (Nat.le_of_ble_eq_true rfl) dX0_bits_48 rfl (fun r4 iv5 av6 h => ?_)
    refine r_aload_n (pc' := 52) C 0 rfl rfl dX0_bits_51 rfl ?_
    refine r_dup (pc' := 53) C rfl dX0_bits_52 rfl ?_
    refine r_geti (pc' := 56) (k := 57) C fl_X0_13 (by decide) kc_57 (by decide) fr_0_1 dX0_bits_53 rfl (fun f8 => ?_)
    replace h := h f8
    refine r_bipush (pc' := 58) C dX0_bits_56 (by decide) rfl ?_
    refine r_iushrC (pc' := 59) (m := 256) C (by decide) (by decide) dX0_bits_58 rfl ?_
    refine r_puti (pc' := 62) (k := 57) C fl_X0_13 (by decide) kc_57 (by decide) fr_0_1 (by omega) dX0_bits_59 rfl ?_
    refine r_aload_n (pc' := 63) C 0 rfl rfl dX0_bits_62 rfl ?_
    refine r_dup (pc' := 64) C rfl dX0_bits_63 rfl ?_
    refine r_geti (pc' := 67) (k := 57) C fl_X0_17 (by decide) kc_57 (by decide) fr_0_2 dX0_bits_64 rfl (fun f9 => ?_)
    have ef9 : (up2 iv5 57 1 ((iv5 57 1) % 4294967296 / 256)) 57 2 = (iv5 57 2) := by simp [up2]
    rw [ef9] at f9 ⊢
    replace h := h f9
    refine r_bipush (pc' := 69) C dX0_bits_67 (by decide) rfl ?_
    refine r_isub (pc' := 70) C dX0_bits_69 rfl ?_
    have o10 := h.1
    replace h := h.2
    refine r_puti (pc' := 73) (k := 57) C fl_X0_17 (by decide) kc_57 (by decide) fr_0_2 o10 dX0_bits_70 rfl ?_
    refine r_goto (tgt := 31) C dX0_bits_73 (by decide) ?_
    exact Wa.sub [0] rfl h
set_option maxHeartbeats 4000000 in
set_option maxRecDepth 100000 in
theorem o_X0_bits {Y : Gl} {e : Nat} {P : PN} {x1 : Int} {x2 : Int} {iv av : IVt} (h : ∀ X : Cx, CX Y X RX0 "bits" cX0_bits 3 none (e + 1) 0 0 →
    ((InR (iv 57 1)) →
      (0 ≤ x2 ∧ x2 ≤ 31) ∧
      ((InR (iv 57 2)) →
        (0 ≤ (iv 57 2) ∧ (iv 57 2) ≤ 31) ∧
        (InR ((iv 57 2) + x2)) ∧
        L_X0_bits_31 Y X P (up2 (up2 iv 57 1 (g_or (iv 57 1) ((g_and x1 ((1 * 2 ^ x2.toNat) - 1)) * 2 ^ (iv 57 2).toNat))) 57 2 ((iv 57 2) + x2)) av
      )
    )) : OkN Y (e + 1) mX0_bits [.ref (gl_b Y + 57), .int (i32 x1), .int (i32 x2)] RV iv av 116 P := by
  refine OkW.of rfl (by show _ ≤ 3; exact Nat.le_of_ble_eq_true rfl) fun X C0 hR => ?_
  have C : CX Y X RX0 "bits" cX0_bits 3 none (e + 1) 0 0 := C0
  replace h := h X C
  show Wa Y X 3 (g_MQ Y X 0 (g_N RV 116 P) 0 0) 0 0 0 [(0, .ref (gl_b Y + 57)), (1, .int (i32 x1)), (2, .int (i32 x2))] [] RV iv av 116
  refine r_aload_n (pc' := 1) C 0 rfl rfl dX0_bits_0 rfl ?_
  refine r_dup (pc' := 2) C rfl dX0_bits_1 rfl ?_
  refine r_geti (pc' := 5) (k := 57) C fl_X0_13 (by decide) kc_57 (by decide) fr_0_1 dX0_bits_2 rfl (fun f1 => ?_)
  replace h := h f1
  refine r_iload_n (pc' := 6) C 1 rfl rfl dX0_bits_5 rfl ?_
  refine r_iconst (pc' := 7) C dX0_bits_6 rfl ?_
  refine r_iload_n (pc' := 8) C 2 rfl rfl dX0_bits_7 rfl ?_
  have o2 := h.1
  replace h := h.2
  refine r_ishl (pc' := 9) C o2 dX0_bits_8 rfl ?_
  refine r_iconst (pc' := 10) C dX0_bits_9 rfl ?_
  refine r_isub (pc' := 11) C dX0_bits_10 rfl ?_
  refine r_iand (pc' := 12) C dX0_bits_11 rfl ?_
  refine r_aload_n (pc' := 13) C 0 rfl rfl dX0_bits_12 rfl ?_
  refine r_geti (pc' := 16) (k := 57) C fl_X0_17 (by decide) kc_57 (by decide) fr_0_2 dX0_bits_13 rfl (fun f3 => ?_)
  replace h := h f3
  have o4 := h.1
  replace h := h.2
  refine r_ishl (pc' := 17) C o4 dX0_bits_16 rfl ?_
  refine r_ior (pc' := 18) C dX0_bits_17 rfl ?_
  refine r_puti (pc' := 21) (k := 57) C fl_X0_13 (by decide) kc_57 (by decide) fr_0_1 (g_or_in _ _) dX0_bits_18 rfl ?_
  refine r_aload_n (pc' := 22) C 0 rfl rfl dX0_bits_21 rfl ?_
  refine r_dup (pc' := 23) C rfl dX0_bits_22 rfl ?_
  refine r_geti (pc' := 26) (k := 57) C fl_X0_17 (by decide) kc_57 (by decide) fr_0_2 dX0_bits_23 rfl (fun f5 => ?_)
  have ef5 : (up2 iv 57 1 (g_or (iv 57 1) ((g_and x1 ((1 * 2 ^ x2.toNat) - 1)) * 2 ^ (iv 57 2).toNat))) 57 2 = (iv 57 2) := by simp [up2]
  rw [ef5] at f5 ⊢
  refine r_iload_n (pc' := 27) C 2 rfl rfl dX0_bits_26 rfl ?_
  refine r_iadd (pc' := 28) C dX0_bits_27 rfl ?_
  have o6 := h.1
  replace h := h.2
  refine r_puti (pc' := 31) (k := 57) C fl_X0_17 (by decide) kc_57 (by decide) fr_0_2 o6 dX0_bits_28 rfl ?_
  exact Wa.sub [0] rfl h
set_option maxHeartbeats 4000000 in
set_option maxRecDepth 100000 in
theorem o_X0_bitsToByte {Y : Gl} {e : Nat} {P : PN} {x1 : Int} {iv av : IVt} (h : 
    ((InR (iv 57 2)) →
      P ((-((iv 57 2) + x1)) % 8) iv av
    )) : OkN Y e mX0_bitsToByte [.ref (gl_b Y + 57), .int (i32 x1)] RV iv av 116 P := by
  refine OkW.of rfl (by show _ ≤ 2; exact Nat.le_of_ble_eq_true rfl) fun X C0 hR => ?_
  have C : CX Y X RX0 "bitsToByte" cX0_bitsToByte 2 (some .int) e 0 0 := C0
  show Wa Y X 2 (g_MQ Y X 1 (g_N RV 116 P) 0 0) 0 0 0 [(0, .ref (gl_b Y + 57)), (1, .int (i32 x1))] [] RV iv av 116
  refine r_aload_n (pc' := 1) C 0 rfl rfl dX0_bitsToByte_0 rfl ?_
  refine r_geti (pc' := 4) (k := 57) C fl_X0_17 (by decide) kc_57 (by decide) fr_0_2 dX0_bitsToByte_1 rfl (fun f1 => ?_)
  replace h := h f1
  refine r_iload_n (pc' := 5) C 1 rfl rfl dX0_bitsToByte_4 rfl ?_
  refine r_iadd (pc' := 6) C dX0_bitsToByte_5 rfl ?_
  refine r_ineg (pc' := 7) C dX0_bitsToByte_6 rfl ?_
  refine r_bipush (pc' := 9) C dX0_bitsToByte_7 (by decide) rfl ?_
  refine r_iandM (pc' := 10) (m := 8) C 3 (by decide) (by decide) (by decide) dX0_bitsToByte_9 rfl ?_
  exact r_iret C (by omega) ⟨rfl, rfl, h⟩ dX0_bitsToByte_10
set_option maxHeartbeats 4000000 in
set_option maxRecDepth 100000 in
theorem o_X0_endByte {Y : Gl} {e : Nat} {P : PN} {iv av : IVt} (h : 
    OkN Y (e + 1) mX0_bitsToByte [.ref (gl_b Y + 57), .int (i32 0)] RV iv av 116 (fun r1 iv2 av3 =>
      (InR r1) →
      OkN Y (e + 1) mX0_bits [.ref (gl_b Y + 57), .int (i32 0), .int (i32 r1)] RV iv2 av3 116 (fun r5 iv6 av7 =>
        P 0 iv6 av7
      )
    )) : OkN Y (e + 2) mX0_endByte [.ref (gl_b Y + 57)] RV iv av 116 P := by
  refine OkW.of rfl (by show _ ≤ 1; exact Nat.le_of_ble_eq_true rfl) fun X C0 hR => ?_
  have C : CX Y X RX0 "endByte" cX0_endByte 1 none (e + 2) 0 0 := C0
  show Wa Y X 1 (g_MQ Y X 0 (g_N RV 116 P) 0 0) 0 0 0 [(0, .ref (gl_b Y + 57))] [] RV iv av 116
  refine r_aload_n (pc' := 1) C 0 rfl rfl dX0_endByte_0 rfl ?_
  refine r_iconst (pc' := 2) C dX0_endByte_1 rfl ?_
  refine r_aload_n (pc' := 3) C 0 rfl rfl dX0_endByte_2 rfl ?_
  refine r_iconst (pc' := 4) C dX0_endByte_3 rfl ?_
  refine c_Vi (pc' := 7) (mt := mX0_bitsToByte) (as := [.int (i32 0)]) (st := [.int (i32 0), .ref (gl_b Y + 57)]) (k := 57) C h rfl cl_X0_bitsToByte ml_X0_26 im_X0_bitsToByte sl_X0_bitsToByte (by omega) (Nat.le_refl _) (Nat.le_refl _) rfl (by decide) kc_57 (by decide) rfl rfl rfl (Nat.le_of_ble_eq_true rfl) dX0_endByte_4 rfl (fun r1 iv2 av3 f4 h => ?_)
  replace h := h f4
  refine c_Vv (pc' := 10) (mt := mX0_bits) (as := [.int (i32 0), .int (i32 r1)]) (st := []) (k := 57) C h rfl cl_X0_bits ml_X0_30 im_X0_bits sl_X0_bits (by omega) (Nat.le_refl _) (Nat.le_refl _) rfl (by decide) kc_57 (by decide) rfl rfl rfl (Nat.le_of_ble_eq_true rfl) dX0_endByte_7 rfl (fun r5 iv6 av7 h => ?_)
  exact r_vret C ⟨rfl, rfl, h⟩ dX0_endByte_10
set_option maxHeartbeats 4000000 in
set_option maxRecDepth 100000 in
theorem o_X1_begin {Y : Gl} {e : Nat} {P : PN} {x1 : Int} {x2 : Int} {iv av : IVt} (hx1 : InR x1) (hx2 : InR x2) (h : 
    P 0 (up2 (up2 (up2 (up2 iv 72 1 x1) 72 2 x2) 72 3 0) 72 4 0) av) : OkN Y e mX1_begin [.ref (gl_b Y + 72), .int (i32 x1), .int (i32 x2)] RV iv av 116 P := by
  refine OkW.of rfl (by show _ ≤ 3; exact Nat.le_of_ble_eq_true rfl) fun X C0 hR => ?_
  have C : CX Y X RX1 "begin" cX1_begin 3 none e 0 0 := C0
  show Wa Y X 3 (g_MQ Y X 0 (g_N RV 116 P) 0 0) 0 0 0 [(0, .ref (gl_b Y + 72)), (1, .int (i32 x1)), (2, .int (i32 x2))] [] RV iv av 116
  refine r_aload_n (pc' := 1) C 0 rfl rfl dX1_begin_0 rfl ?_
  refine r_iload_n (pc' := 2) C 1 rfl rfl dX1_begin_1 rfl ?_
  refine r_puti (pc' := 5) (k := 72) C fl_X1_13 (by decide) kc_72 (by decide) fr_1_1 hx1 dX1_begin_2 rfl ?_
  refine r_aload_n (pc' := 6) C 0 rfl rfl dX1_begin_5 rfl ?_
  refine r_iload_n (pc' := 7) C 2 rfl rfl dX1_begin_6 rfl ?_
  refine r_puti (pc' := 10) (k := 72) C fl_X1_17 (by decide) kc_72 (by decide) fr_1_2 hx2 dX1_begin_7 rfl ?_
  refine r_aload_n (pc' := 11) C 0 rfl rfl dX1_begin_10 rfl ?_
  refine r_iconst (pc' := 12) C dX1_begin_11 rfl ?_
  refine r_puti (pc' := 15) (k := 72) C fl_X1_20 (by decide) kc_72 (by decide) fr_1_3 (by decide) dX1_begin_12 rfl ?_
  refine r_aload_n (pc' := 16) C 0 rfl rfl dX1_begin_15 rfl ?_
  refine r_iconst (pc' := 17) C dX1_begin_16 rfl ?_
  refine r_putz (pc' := 20) (k := 72) C fl_X1_23 (by decide) kc_72 (by decide) fr_1_4 (by decide) dX1_begin_17 rfl ?_
  exact r_vret C ⟨rfl, rfl, h⟩ dX1_begin_20
set_option maxHeartbeats 4000000 in
set_option maxRecDepth 100000 in
theorem o_X1_isMissing {Y : Gl} {e : Nat} {P : PN} {iv av : IVt} (h : 
    ((InR (iv 72 4)) →
      (0 ≤ (iv 72 4) ∧ (iv 72 4) ≤ 1) ∧
      P (iv 72 4) iv av
    )) : OkN Y e mX1_isMissing [.ref (gl_b Y + 72)] RV iv av 116 P := by
  refine OkW.of rfl (by show _ ≤ 1; exact Nat.le_of_ble_eq_true rfl) fun X C0 hR => ?_
  have C : CX Y X RX1 "isMissing" cX1_isMissing 1 (some .boolean) e 0 0 := C0
  show Wa Y X 1 (g_MQ Y X 1 (g_N RV 116 P) 0 0) 0 0 0 [(0, .ref (gl_b Y + 72))] [] RV iv av 116
  refine r_aload_n (pc' := 1) C 0 rfl rfl dX1_isMissing_0 rfl ?_
  refine r_geti (pc' := 4) (k := 72) C fl_X1_23 (by decide) kc_72 (by decide) fr_1_4 dX1_isMissing_1 rfl (fun f1 => ?_)
  replace h := h f1
  have o2 := h.1
  replace h := h.2
  exact r_zret C o2 ⟨rfl, rfl, h⟩ dX1_isMissing_4
set_option maxHeartbeats 4000000 in
set_option maxRecDepth 100000 in
theorem o_X1_bit {Y : Gl} {e : Nat} {P : PN} {iv av : IVt} (h : 
    ((InR (iv 72 1)) →
      ((InR (iv 72 2)) →
        (((iv 72 1) < (iv 72 2)) →
          OkN Y e mX2_at [.ref (gl_b Y + 12), .int (i32 (iv 72 1))] RV iv av 116 (fun r5 iv6 av7 =>
            (InR r5) →
            ((InR (iv6 72 3)) →
              (0 ≤ (iv6 72 3) ∧ (iv6 72 3) ≤ 31) ∧
              (InR ((iv6 72 3) + 1)) ∧
              ((¬ ((iv6 72 3) + 1) = 8) →
                P ((r5 / 2 ^ (iv6 72 3).toNat) % 2) (up2 iv6 72 3 ((iv6 72 3) + 1)) av7
              ) ∧
              ((((iv6 72 3) + 1) = 8) →
                ((InR (iv6 72 1)) →
                  (InR ((iv6 72 1) + 1)) ∧
                  P ((r5 / 2 ^ (iv6 72 3).toNat) % 2) (up2 (up2 (up2 iv6 72 3 ((iv6 72 3) + 1)) 72 3 0) 72 1 ((iv6 72 1) + 1)) av7
                )
              )
            )
          )
        ) ∧
        ((¬ (iv 72 1) < (iv 72 2)) →
          P 0 (up2 iv 72 4 1) av
        )
      )
    )) : OkN Y (e + 1) mX1_bit [.ref (gl_b Y + 72)] RV iv av 116 P := by
  refine OkW.of rfl (by show _ ≤ 2; exact Nat.le_of_ble_eq_true rfl) fun X C0 hR => ?_
  have C : CX Y X RX1 "bit" cX1_bit 2 (some .int) (e + 1) 0 0 := C0
  show Wa Y X 2 (g_MQ Y X 1 (g_N RV 116 P) 0 0) 0 0 0 [(0, .ref (gl_b Y + 72))] [] RV iv av 116
  refine r_aload_n (pc' := 1) C 0 rfl rfl dX1_bit_0 rfl ?_
  refine r_geti (pc' := 4) (k := 72) C fl_X1_13 (by decide) kc_72 (by decide) fr_1_1 dX1_bit_1 rfl (fun f1 => ?_)
  replace h := h f1
  refine r_aload_n (pc' := 5) C 0 rfl rfl dX1_bit_4 rfl ?_
  refine r_geti (pc' := 8) (k := 72) C fl_X1_17 (by decide) kc_72 (by decide) fr_1_2 dX1_bit_5 rfl (fun f2 => ?_)
  replace h := h f2
  refine r_icmp_lt (pc' := 11) (tgt := 18) C f1 f2 dX1_bit_8 (by decide) rfl (fun c3 => ?_) (fun c3 => ?_)
  · replace h := h.1 c3
    refine r_aload_n (pc' := 19) C 0 rfl rfl dX1_bit_18 rfl ?_
    refine r_getr (pc' := 22) (k := 72) (r := 12) C fl_X1_7 (by decide) kc_72 (by decide) fr_1_0 RV_72_0 dX1_bit_19 rfl ?_
    refine r_aload_n (pc' := 23) C 0 rfl rfl dX1_bit_22 rfl ?_
    refine r_geti (pc' := 26) (k := 72) C fl_X1_13 (by decide) kc_72 (by decide) fr_1_1 dX1_bit_23 rfl (fun f4 => ?_)
    refine c_Vi (pc' := 29) (mt := mX2_at) (as := [.int (i32 (iv 72 1))]) (st := []) (k := 12) C h rfl cl_X2_at ml_X1_27 im_X2_at sl_X2_at (by omega) (Nat.le_refl _) (Nat.le_refl _) rfl (by decide) kc_12 (by decide) rfl rfl rfl (Nat.le_of_ble_eq_true rfl) dX1_bit_26 rfl (fun r5 iv6 av7 f8 h => ?_)
    replace h := h f8
    refine r_aload_n (pc' := 30) C 0 rfl rfl dX1_bit_29 rfl ?_
    refine r_geti (pc' := 33) (k := 72) C fl_X1_20 (by decide) kc_72 (by decide) fr_1_3 dX1_bit_30 rfl (fun f9 => ?_)
    replace h := h f9
    have o10 := h.1
    replace h := h.2
    refine r_ishr (pc' := 34) C f8 o10 dX1_bit_33 rfl ?_
    refine r_iconst (pc' := 35) C dX1_bit_34 rfl ?_
    refine r_iandM (pc' := 36) (m := 2) C 1 (by decide) (by decide) (by decide) dX1_bit_35 rfl ?_
    refine r_istore_n (pc' := 37) (ls' := [(0, .ref (gl_b Y + 72)), (1, .int (i32 ((r5 / 2 ^ (iv6 72 3).toNat) % 2)))]) C (by decide) rfl rfl dX1_bit_36 rfl ?_
    refine r_aload_n (pc' := 38) C 0 rfl rfl dX1_bit_37 rfl ?_
    refine r_dup (pc' := 39) C rfl dX1_bit_38 rfl ?_
    refine r_geti (pc' := 42) (k := 72) C fl_X1_20 (by decide) kc_72 (by decide) fr_1_3 dX1_bit_39 rfl (fun f11 => ?_)
    refine r_iconst (pc' := 43) C dX1_bit_42 rfl ?_
    refine r_iadd (pc' := 44) C dX1_bit_43 rfl ?_
    have o12 := h.1
    replace h := h.2
    refine r_puti (pc' := 47) (k := 72) C fl_X1_20 (by decide) kc_72 (by decide) fr_1_3 o12 dX1_bit_44 rfl ?_
    refine r_aload_n (pc' := 48) C 0 rfl rfl dX1_bit_47 rfl ?_
    refine r_geti (pc' := 51) (k := 72) C fl_X1_20 (by decide) kc_72 (by decide) fr_1_3 dX1_bit_48 rfl (fun f13 => ?_)
    have ef13 : (up2 iv6 72 3 ((iv6 72 3) + 1)) 72 3 = ((iv6 72 3) + 1) := by simp [up2]
    rw [ef13] at f13 ⊢
    refine r_bipush (pc' := 53) C dX1_bit_51 (by decide) rfl ?_
    refine r_icmp_ne (pc' := 56) (tgt := 71) C o12 (by decide) dX1_bit_53 (by decide) rfl (fun c14 => ?_) (fun c14 => ?_)
    · replace h := h.1 c14
      refine r_iload_n (pc' := 72) C 1 rfl rfl dX1_bit_71 rfl ?_
      exact r_iret C (by omega) ⟨rfl, rfl, h⟩ dX1_bit_72
    · replace h := h.2 c14
      refine r_aload_n (pc' := 57) C 0 rfl rfl dX1_bit_56 rfl ?_
      refine r_iconst (pc' := 58) C dX1_bit_57 rfl ?_
      refine r_puti (pc' := 61) (k := 72) C fl_X1_20 (by decide) kc_72 (by decide) fr_1_3 (by decide) dX1_bit_58 rfl ?_
      refine r_aload_n (pc' := 62) C 0 rfl rfl dX1_bit_61 rfl ?_
      refine r_dup (pc' := 63) C rfl dX1_bit_62 rfl ?_
      refine r_geti (pc' := 66) (k := 72) C fl_X1_13 (by decide) kc_72 (by decide) fr_1_1 dX1_bit_63 rfl (fun f15 => ?_)
      have ef15 : (up2 (up2 iv6 72 3 ((iv6 72 3) + 1)) 72 3 0) 72 1 = (iv6 72 1) := by simp [up2]
      rw [ef15] at f15 ⊢
      replace h := h f15
      refine r_iconst (pc' := 67) C dX1_bit_66 rfl ?_
      refine r_iadd (pc' := 68) C dX1_bit_67 rfl ?_
      have o16 := h.1
      replace h := h.2
      refine r_puti (pc' := 71) (k := 72) C fl_X1_13 (by decide) kc_72 (by decide) fr_1_1 o16 dX1_bit_68 rfl ?_
      refine r_iload_n (pc' := 72) C 1 rfl rfl dX1_bit_71 rfl ?_
      exact r_iret C (by omega) ⟨rfl, rfl, h⟩ dX1_bit_72
  · replace h := h.2 c3
    refine r_aload_n (pc' := 12) C 0 rfl rfl dX1_bit_11 rfl ?_
    refine r_iconst (pc' := 13) C dX1_bit_12 rfl ?_
    refine r_putz (pc' := 16) (k := 72) C fl_X1_23 (by decide) kc_72 (by decide) fr_1_4 (by decide) dX1_bit_13 rfl ?_
    refine r_iconst (pc' := 17) C dX1_bit_16 rfl ?_
    exact r_iret C (by decide) ⟨rfl, rfl, h⟩ dX1_bit_17
def L_X1_bits_4 (Y : Gl) (X : Cx) (P : PN) (x1 : Int) (x2 : Int) (x3 : Int) (iv av : IVt) : Prop := Wa Y X 4 (g_MQ Y X 1 (g_N RV 116 P) 0 0) 0 0 4 [(0, .ref (gl_b Y + 72)), (1, .int (i32 x1)), (2, .int (i32 x2)), (3, .int (i32 x3))] [] RV iv av 116
set_option maxHeartbeats 4000000 in
set_option maxRecDepth 100000 in
theorem w_X1_bits_4 {Y : Gl} {X : Cx} {e : Nat} {P : PN} {x1 : Int} {x2 : Int} {x3 : Int} {iv av : IVt} (C : CX Y X RX1 "bits" cX1_bits 4 (some .int) (e + 2) 0 0) (hx1 : InR x1) (hx2 : InR x2) (hx3 : InR x3) (h :
    ((x1 ≤ x3) →
      P x2 iv av
    ) ∧
    ((¬ x1 ≤ x3) →
      OkN Y (e + 1) mX1_bit [.ref (gl_b Y + 72)] RV iv av 116 (fun r2 iv3 av4 =>
        (InR r2) →
        (0 ≤ x3 ∧ x3 ≤ 31) ∧
        L_X1_bits_4 Y X P x1 (g_or x2 (r2 * 2 ^ x3.toNat)) (x3 + 1) iv3 av4
      )
    )) : L_X1_bits_4 Y X P x1 x2 x3 iv av := by
  unfold L_X1_bits_4
  refine r_iload_n (pc' := 5) C 3 rfl rfl dX1_bits_4 rfl ?_
  refine r_iload_n (pc' := 6) C 1 rfl rfl dX1_bits_5 rfl ?_
  refine r_icmp_ge (pc' := 9) (tgt := 24) C hx3 hx1 dX1_bits_6 (by decide) rfl (fun c1 => ?_) (fun c1 => ?_)
  · replace h := h.1 c1
    refine r_iload_n (pc' := 25) C 2 rfl rfl dX1_bits_24 rfl ?_
    exact r_iret C hx2 ⟨rfl, rfl, h⟩ dX1_bits_25
  · replace h := h.2 c1
    refine r_iload_n (pc' := 10) C 2 rfl rfl dX1_bits_9 rfl ?_
    refine r_aload_n (pc' := 11) C 0 rfl rfl dX1_bits_10 rfl ?_
    refine c_Vi (pc' := 14) (mt := mX1_bit) (as := []) (st := [.int (i32 x2)]) (k := 72) C h rfl cl_X1_bit ml_X1_33 im_X1_bit sl_X1_bit (by omega) (Nat.le_refl _) (Nat.le_refl _) rfl (by decide) kc_72 (by decide) rfl rfl rfl (Nat.le_of_ble_eq_true rfl) dX1_bits_11 rfl (fun r2 iv3 av4 f5 h => ?_)
    replace h := h f5
    refine r_iload_n (pc' := 15) C 3 rfl rfl dX1_bits_14 rfl ?_
    have o6 := h.1
    replace h := h.2
    refine r_ishl (pc' := 16) C o6 dX1_bits_15 rfl ?_
    refine r_ior (pc' := 17) C dX1_bits_16 rfl ?_
    refine r_istore_n (pc' := 18) (ls' := [(0, .ref (gl_b Y + 72)), (1, .int (i32 x1)), (2, .int (i32 (g_or x2 (r2 * 2 ^ x3.toNat)))), (3, .int (i32 x3))]) C (by decide) rfl rfl dX1_bits_17 rfl ?_
    refine r_iinc (pc' := 21) (ls' := [(0, .ref (gl_b Y + 72)), (1, .int (i32 x1)), (2, .int (i32 (g_or x2 (r2 * 2 ^ x3.toNat)))), (3, .int (i32 (x3 + 1)))]) C 3 rfl (by decide) rfl dX1_bits_18 rfl ?_
    refine r_goto (tgt := 4) C dX1_bits_21 (by decide) ?_
    exact Wa.sub [0, 1, 2, 3] rfl h
set_option maxHeartbeats 4000000 in
set_option maxRecDepth 100000 in
theorem o_X1_bits {Y : Gl} {e : Nat} {P : PN} {x1 : Int} {iv av : IVt} (h : ∀ X : Cx, CX Y X RX1 "bits" cX1_bits 4 (some .int) (e + 2) 0 0 →
    L_X1_bits_4 Y X P x1 0 0 iv av) : OkN Y (e + 2) mX1_bits [.ref (gl_b Y + 72), .int (i32 x1)] RV iv av 116 P := by
  refine OkW.of rfl (by show _ ≤ 4; exact Nat.le_of_ble_eq_true rfl) fun X C0 hR => ?_
  have C : CX Y X RX1 "bits" cX1_bits 4 (some .int) (e + 2) 0 0 := C0
  replace h := h X C
  show Wa Y X 4 (g_MQ Y X 1 (g_N RV 116 P) 0 0) 0 0 0 [(0, .ref (gl_b Y + 72)), (1, .int (i32 x1))] [] RV iv av 116
  refine r_iconst (pc' := 1) C dX1_bits_0 rfl ?_
  refine r_istore_n (pc' := 2) (ls' := [(0, .ref (gl_b Y + 72)), (1, .int (i32 x1)), (2, .int (i32 0))]) C (by decide) rfl rfl dX1_bits_1 rfl ?_
  refine r_iconst (pc' := 3) C dX1_bits_2 rfl ?_
  refine r_istore_n (pc' := 4) (ls' := [(0, .ref (gl_b Y + 72)), (1, .int (i32 x1)), (2, .int (i32 0)), (3, .int (i32 0))]) C (by decide) rfl rfl dX1_bits_3 rfl ?_
  exact Wa.sub [0, 1, 2, 3] rfl h
set_option maxHeartbeats 4000000 in
set_option maxRecDepth 100000 in
theorem o_X1_endByte {Y : Gl} {e : Nat} {P : PN} {iv av : IVt} (h : 
    ((InR (iv 72 3)) →
      (((iv 72 3) ≤ 0) →
        P 0 iv av
      ) ∧
      ((¬ (iv 72 3) ≤ 0) →
        ((InR (iv 72 1)) →
          (InR ((iv 72 1) + 1)) ∧
          P 0 (up2 (up2 iv 72 3 0) 72 1 ((iv 72 1) + 1)) av
        )
      )
    )) : OkN Y e mX1_endByte [.ref (gl_b Y + 72)] RV iv av 116 P := by
  refine OkW.of rfl (by show _ ≤ 1; exact Nat.le_of_ble_eq_true rfl) fun X C0 hR => ?_
  have C : CX Y X RX1 "endByte" cX1_endByte 1 none e 0 0 := C0
  show Wa Y X 1 (g_MQ Y X 0 (g_N RV 116 P) 0 0) 0 0 0 [(0, .ref (gl_b Y + 72))] [] RV iv av 116
  refine r_aload_n (pc' := 1) C 0 rfl rfl dX1_endByte_0 rfl ?_
  refine r_geti (pc' := 4) (k := 72) C fl_X1_20 (by decide) kc_72 (by decide) fr_1_3 dX1_endByte_1 rfl (fun f1 => ?_)
  replace h := h f1
  refine r_if_le (pc' := 7) (tgt := 22) C f1 dX1_endByte_4 (by decide) rfl (fun c2 => ?_) (fun c2 => ?_)
  · replace h := h.1 c2
    exact r_vret C ⟨rfl, rfl, h⟩ dX1_endByte_22
  · replace h := h.2 c2
    refine r_aload_n (pc' := 8) C 0 rfl rfl dX1_endByte_7 rfl ?_
    refine r_iconst (pc' := 9) C dX1_endByte_8 rfl ?_
    refine r_puti (pc' := 12) (k := 72) C fl_X1_20 (by decide) kc_72 (by decide) fr_1_3 (by decide) dX1_endByte_9 rfl ?_
    refine r_aload_n (pc' := 13) C 0 rfl rfl dX1_endByte_12 rfl ?_
    refine r_dup (pc' := 14) C rfl dX1_endByte_13 rfl ?_
    refine r_geti (pc' := 17) (k := 72) C fl_X1_13 (by decide) kc_72 (by decide) fr_1_1 dX1_endByte_14 rfl (fun f3 => ?_)
    have ef3 : (up2 iv 72 3 0) 72 1 = (iv 72 1) := by simp [up2]
    rw [ef3] at f3 ⊢
    replace h := h f3
    refine r_iconst (pc' := 18) C dX1_endByte_17 rfl ?_
    refine r_iadd (pc' := 19) C dX1_endByte_18 rfl ?_
    have o4 := h.1
    replace h := h.2
    refine r_puti (pc' := 22) (k := 72) C fl_X1_13 (by decide) kc_72 (by decide) fr_1_1 o4 dX1_endByte_19 rfl ?_
    exact r_vret C ⟨rfl, rfl, h⟩ dX1_endByte_22
set_option maxHeartbeats 4000000 in
set_option maxRecDepth 100000 in
theorem o_X1_bytesLeft {Y : Gl} {e : Nat} {P : PN} {iv av : IVt} (h : 
    ((InR (iv 72 2)) →
      ((InR (iv 72 1)) →
        (InR ((iv 72 2) - (iv 72 1))) ∧
        P ((iv 72 2) - (iv 72 1)) iv av
      )
    )) : OkN Y e mX1_bytesLeft [.ref (gl_b Y + 72)] RV iv av 116 P := by
  refine OkW.of rfl (by show _ ≤ 1; exact Nat.le_of_ble_eq_true rfl) fun X C0 hR => ?_
  have C : CX Y X RX1 "bytesLeft" cX1_bytesLeft 1 (some .int) e 0 0 := C0
  show Wa Y X 1 (g_MQ Y X 1 (g_N RV 116 P) 0 0) 0 0 0 [(0, .ref (gl_b Y + 72))] [] RV iv av 116
  refine r_aload_n (pc' := 1) C 0 rfl rfl dX1_bytesLeft_0 rfl ?_
  refine r_geti (pc' := 4) (k := 72) C fl_X1_17 (by decide) kc_72 (by decide) fr_1_2 dX1_bytesLeft_1 rfl (fun f1 => ?_)
  replace h := h f1
  refine r_aload_n (pc' := 5) C 0 rfl rfl dX1_bytesLeft_4 rfl ?_
  refine r_geti (pc' := 8) (k := 72) C fl_X1_13 (by decide) kc_72 (by decide) fr_1_1 dX1_bytesLeft_5 rfl (fun f2 => ?_)
  replace h := h f2
  refine r_isub (pc' := 9) C dX1_bytesLeft_8 rfl ?_
  have o3 := h.1
  replace h := h.2
  exact r_iret C o3 ⟨rfl, rfl, h⟩ dX1_bytesLeft_9
