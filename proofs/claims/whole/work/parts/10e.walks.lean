/-! Walks, laid by wip/whole/tool/walk.py: each says what is left of a method when its bytecode is run over symbols. -/
def L_X13_makeFixed_2 (Y : Gl) (X : Cx) (P : PN) (x1 : Int) (iv av : IVt) : Prop := Wa Y X 2 (g_MQ Y X 0 (g_N RV 116 P) 0 0) 0 0 2 [(0, .ref (gl_b Y + 73)), (1, .int (i32 x1))] [] RV iv av 116
set_option maxHeartbeats 4000000 in
set_option maxRecDepth 100000 in
theorem w_X13_makeFixed_2 {Y : Gl} {X : Cx} {e : Nat} {P : PN} {x1 : Int} {iv av : IVt} (C : CX Y X RX13 "makeFixed" cX13_makeFixed 2 none e 0 0) (hx1 : InR x1) (h :
    ((320 ≤ x1) →
      P 0 iv av
    ) ∧
    ((¬ 320 ≤ x1) →
      ((144 ≤ x1) →
        ((256 ≤ x1) →
          ((280 ≤ x1) →
            ((288 ≤ x1) →
              (0 ≤ x1 ∧ x1 < 339) ∧
              L_X13_makeFixed_2 Y X P (x1 + 1) iv (up2 av 100 x1.toNat 5)
            ) ∧
            ((¬ 288 ≤ x1) →
              (0 ≤ x1 ∧ x1 < 339) ∧
              L_X13_makeFixed_2 Y X P (x1 + 1) iv (up2 av 100 x1.toNat 8)
            )
          ) ∧
          ((¬ 280 ≤ x1) →
            (0 ≤ x1 ∧ x1 < 339) ∧
            L_X13_makeFixed_2 Y X P (x1 + 1) iv (up2 av 100 x1.toNat 7)
          )
        ) ∧
        ((¬ 256 ≤ x1) →
          (0 ≤ x1 ∧ x1 < 339) ∧
          L_X13_makeFixed_2 Y X P (x1 + 1) iv (up2 av 100 x1.toNat 9)
        )
      ) ∧
      ((¬ 144 ≤ x1) →
        (0 ≤ x1 ∧ x1 < 339) ∧
        L_X13_makeFixed_2 Y X P (x1 + 1) iv (up2 av 100 x1.toNat 8)
      )
    )) : L_X13_makeFixed_2 Y X P x1 iv av := by
  unfold L_X13_makeFixed_2
  refine r_iload_n (pc' := 3) C 1 rfl rfl dX13_makeFixed_2 rfl ?_
  refine r_sipush (pc' := 6) C dX13_makeFixed_3 (by decide) rfl ?_
  refine r_icmp_ge (pc' := 9) (tgt := 70) C hx1 (by decide) dX13_makeFixed_6 (by decide) rfl (fun c1 => ?_) (fun c1 => ?_)
  · replace h := h.1 c1
    exact r_vret C ⟨rfl, rfl, h⟩ dX13_makeFixed_70
  · replace h := h.2 c1
    refine r_aload_n (pc' := 10) C 0 rfl rfl dX13_makeFixed_9 rfl ?_
    refine r_getr (pc' := 13) (k := 73) (r := 100) C fl_X13_96 (by decide) kc_73 (by decide) fr_13_39 RV_73_39 dX13_makeFixed_10 rfl ?_
    refine r_iload_n (pc' := 14) C 1 rfl rfl dX13_makeFixed_13 rfl ?_
    refine r_iload_n (pc' := 15) C 1 rfl rfl dX13_makeFixed_14 rfl ?_
    refine r_sipush (pc' := 18) C dX13_makeFixed_15 (by decide) rfl ?_
    refine r_icmp_ge (pc' := 21) (tgt := 26) C hx1 (by decide) dX13_makeFixed_18 (by decide) rfl (fun c2 => ?_) (fun c2 => ?_)
    · replace h := h.1 c2
      refine r_iload_n (pc' := 27) C 1 rfl rfl dX13_makeFixed_26 rfl ?_
      refine r_sipush (pc' := 30) C dX13_makeFixed_27 (by decide) rfl ?_
      refine r_icmp_ge (pc' := 33) (tgt := 38) C hx1 (by decide) dX13_makeFixed_30 (by decide) rfl (fun c3 => ?_) (fun c3 => ?_)
      · replace h := h.1 c3
        refine r_iload_n (pc' := 39) C 1 rfl rfl dX13_makeFixed_38 rfl ?_
        refine r_sipush (pc' := 42) C dX13_makeFixed_39 (by decide) rfl ?_
        refine r_icmp_ge (pc' := 45) (tgt := 50) C hx1 (by decide) dX13_makeFixed_42 (by decide) rfl (fun c4 => ?_) (fun c4 => ?_)
        · replace h := h.1 c4
          refine r_iload_n (pc' := 51) C 1 rfl rfl dX13_makeFixed_50 rfl ?_
          refine r_sipush (pc' := 54) C dX13_makeFixed_51 (by decide) rfl ?_
          refine r_icmp_ge (pc' := 57) (tgt := 62) C hx1 (by decide) dX13_makeFixed_54 (by decide) rfl (fun c5 => ?_) (fun c5 => ?_)
          · replace h := h.1 c5
            refine r_iconst (pc' := 63) C dX13_makeFixed_62 rfl ?_
            have o6 := h.1
            replace h := h.2
            refine r_iast (pc' := 64) (k := 100) C (by decide) kc_100 (by have := kl_100; omega) (by decide) dX13_makeFixed_63 rfl ?_
            refine r_iinc (pc' := 67) (ls' := [(0, .ref (gl_b Y + 73)), (1, .int (i32 (x1 + 1)))]) C 1 rfl (by decide) rfl dX13_makeFixed_64 rfl ?_
            refine r_goto (tgt := 2) C dX13_makeFixed_67 (by decide) ?_
            exact Wa.sub [0, 1] rfl h
          · replace h := h.2 c5
            refine r_bipush (pc' := 59) C dX13_makeFixed_57 (by decide) rfl ?_
            refine r_goto (tgt := 63) C dX13_makeFixed_59 (by decide) ?_
            have o7 := h.1
            replace h := h.2
            refine r_iast (pc' := 64) (k := 100) C (by decide) kc_100 (by have := kl_100; omega) (by decide) dX13_makeFixed_63 rfl ?_
            refine r_iinc (pc' := 67) (ls' := [(0, .ref (gl_b Y + 73)), (1, .int (i32 (x1 + 1)))]) C 1 rfl (by decide) rfl dX13_makeFixed_64 rfl ?_
            refine r_goto (tgt := 2) C dX13_makeFixed_67 (by decide) ?_
            exact Wa.sub [0, 1] rfl h
        · replace h := h.2 c4
          refine r_bipush (pc' := 47) C dX13_makeFixed_45 (by decide) rfl ?_
          refine r_goto (tgt := 63) C dX13_makeFixed_47 (by decide) ?_
          have o8 := h.1
          replace h := h.2
          refine r_iast (pc' := 64) (k := 100) C (by decide) kc_100 (by have := kl_100; omega) (by decide) dX13_makeFixed_63 rfl ?_
          refine r_iinc (pc' := 67) (ls' := [(0, .ref (gl_b Y + 73)), (1, .int (i32 (x1 + 1)))]) C 1 rfl (by decide) rfl dX13_makeFixed_64 rfl ?_
          refine r_goto (tgt := 2) C dX13_makeFixed_67 (by decide) ?_
          exact Wa.sub [0, 1] rfl h
      · replace h := h.2 c3
        refine r_bipush (pc' := 35) C dX13_makeFixed_33 (by decide) rfl ?_
        refine r_goto (tgt := 63) C dX13_makeFixed_35 (by decide) ?_
        have o9 := h.1
        replace h := h.2
        refine r_iast (pc' := 64) (k := 100) C (by decide) kc_100 (by have := kl_100; omega) (by decide) dX13_makeFixed_63 rfl ?_
        refine r_iinc (pc' := 67) (ls' := [(0, .ref (gl_b Y + 73)), (1, .int (i32 (x1 + 1)))]) C 1 rfl (by decide) rfl dX13_makeFixed_64 rfl ?_
        refine r_goto (tgt := 2) C dX13_makeFixed_67 (by decide) ?_
        exact Wa.sub [0, 1] rfl h
    · replace h := h.2 c2
      refine r_bipush (pc' := 23) C dX13_makeFixed_21 (by decide) rfl ?_
      refine r_goto (tgt := 63) C dX13_makeFixed_23 (by decide) ?_
      have o10 := h.1
      replace h := h.2
      refine r_iast (pc' := 64) (k := 100) C (by decide) kc_100 (by have := kl_100; omega) (by decide) dX13_makeFixed_63 rfl ?_
      refine r_iinc (pc' := 67) (ls' := [(0, .ref (gl_b Y + 73)), (1, .int (i32 (x1 + 1)))]) C 1 rfl (by decide) rfl dX13_makeFixed_64 rfl ?_
      refine r_goto (tgt := 2) C dX13_makeFixed_67 (by decide) ?_
      exact Wa.sub [0, 1] rfl h
set_option maxHeartbeats 4000000 in
set_option maxRecDepth 100000 in
theorem o_X13_makeFixed {Y : Gl} {e : Nat} {P : PN} {iv av : IVt} (h : ∀ X : Cx, CX Y X RX13 "makeFixed" cX13_makeFixed 2 none e 0 0 →
    L_X13_makeFixed_2 Y X P 0 iv av) : OkN Y e mX13_makeFixed [.ref (gl_b Y + 73)] RV iv av 116 P := by
  refine OkW.of rfl (by show _ ≤ 2; exact Nat.le_of_ble_eq_true rfl) fun X C0 hR => ?_
  have C : CX Y X RX13 "makeFixed" cX13_makeFixed 2 none e 0 0 := C0
  replace h := h X C
  show Wa Y X 2 (g_MQ Y X 0 (g_N RV 116 P) 0 0) 0 0 0 [(0, .ref (gl_b Y + 73))] [] RV iv av 116
  refine r_iconst (pc' := 1) C dX13_makeFixed_0 rfl ?_
  refine r_istore_n (pc' := 2) (ls' := [(0, .ref (gl_b Y + 73)), (1, .int (i32 0))]) C (by decide) rfl rfl dX13_makeFixed_1 rfl ?_
  exact Wa.sub [0, 1] rfl h
def L_X13_packPart_62 (Y : Gl) (X : Cx) (P : PN) (a1 : Nat) (x2 : Int) (x3 : Int) (x4 : Int) (x5 : Int) (x6 : Int) (x7 : Int) (x8 : Int) (iv av : IVt) : Prop := Wa Y X 14 (g_MQ Y X 0 (g_N RV 116 P) 0 0) 0 0 62 [(0, .ref (gl_b Y + 73)), (1, .ref (gl_b Y + a1)), (2, .int (i32 x2)), (3, .int (i32 x3)), (4, .int (i32 x4)), (5, .int (i32 x5)), (6, .int (i32 x6)), (7, .int (i32 x7)), (8, .int (i32 x8))] [] RV iv av 116
def L_X13_packPart_140 (Y : Gl) (X : Cx) (P : PN) (a1 : Nat) (x2 : Int) (x3 : Int) (x4 : Int) (x5 : Int) (x6 : Int) (x7 : Int) (x8 : Int) (iv av : IVt) : Prop := Wa Y X 14 (g_MQ Y X 0 (g_N RV 116 P) 0 0) 0 0 140 [(0, .ref (gl_b Y + 73)), (1, .ref (gl_b Y + a1)), (2, .int (i32 x2)), (3, .int (i32 x3)), (4, .int (i32 x4)), (5, .int (i32 x5)), (6, .int (i32 x6)), (7, .int (i32 x7)), (8, .int (i32 x8))] [] RV iv av 116
def L_X13_packPart_192 (Y : Gl) (X : Cx) (P : PN) (a1 : Nat) (x2 : Int) (x3 : Int) (x4 : Int) (x5 : Int) (x6 : Int) (x7 : Int) (x8 : Int) (x9 : Int) (x10 : Int) (iv av : IVt) : Prop := Wa Y X 14 (g_MQ Y X 0 (g_N RV 116 P) 0 0) 0 0 192 [(0, .ref (gl_b Y + 73)), (1, .ref (gl_b Y + a1)), (2, .int (i32 x2)), (3, .int (i32 x3)), (4, .int (i32 x4)), (5, .int (i32 x5)), (6, .int (i32 x6)), (7, .int (i32 x7)), (8, .int (i32 x8)), (9, .int (i32 x9)), (10, .int (i32 x10))] [] RV iv av 116
def L_X13_packPart_309 (Y : Gl) (X : Cx) (P : PN) (a1 : Nat) (x2 : Int) (x3 : Int) (x4 : Int) (x6 : Int) (x7 : Int) (x8 : Int) (x9 : Int) (x10 : Int) (x12 : Int) (iv av : IVt) : Prop := Wa Y X 14 (g_MQ Y X 0 (g_N RV 116 P) 0 0) 0 0 309 [(0, .ref (gl_b Y + 73)), (1, .ref (gl_b Y + a1)), (2, .int (i32 x2)), (3, .int (i32 x3)), (4, .int (i32 x4)), (6, .int (i32 x6)), (7, .int (i32 x7)), (8, .int (i32 x8)), (9, .int (i32 x9)), (10, .int (i32 x10)), (12, .int (i32 x12))] [] RV iv av 116
def L_X13_packPart_359 (Y : Gl) (X : Cx) (P : PN) (a1 : Nat) (x2 : Int) (x4 : Int) (x13 : Int) (iv av : IVt) : Prop := Wa Y X 14 (g_MQ Y X 0 (g_N RV 116 P) 0 0) 0 0 359 [(0, .ref (gl_b Y + 73)), (1, .ref (gl_b Y + a1)), (2, .int (i32 x2)), (4, .int (i32 x4)), (13, .int (i32 x13))] [] RV iv av 116
def L_X13_packPart_391 (Y : Gl) (X : Cx) (P : PN) (a1 : Nat) (x6 : Int) (x7 : Int) (x8 : Int) (x9 : Int) (x10 : Int) (iv av : IVt) : Prop := Wa Y X 14 (g_MQ Y X 0 (g_N RV 116 P) 0 0) 0 0 391 [(0, .ref (gl_b Y + 73)), (6, .int (i32 x6)), (7, .int (i32 x7)), (8, .int (i32 x8)), (9, .int (i32 x9)), (10, .int (i32 x10))] [] RV iv av 116
def L_X13_packPart_453 (Y : Gl) (X : Cx) (P : PN) (a1 : Nat) (x8 : Int) (x13 : Int) (iv av : IVt) : Prop := Wa Y X 14 (g_MQ Y X 0 (g_N RV 116 P) 0 0) 0 0 453 [(0, .ref (gl_b Y + 73)), (8, .int (i32 x8)), (13, .int (i32 x13))] [] RV iv av 116
def L_X13_packPart_501 (Y : Gl) (X : Cx) (P : PN) (a1 : Nat) (x13 : Int) (iv av : IVt) : Prop := Wa Y X 14 (g_MQ Y X 0 (g_N RV 116 P) 0 0) 0 0 501 [(0, .ref (gl_b Y + 73)), (13, .int (i32 x13))] [] RV iv av 116
set_option maxHeartbeats 4000000 in
set_option maxRecDepth 100000 in
theorem w_X13_packPart_501 {Y : Gl} {X : Cx} {e : Nat} {P : PN} {a1 : Nat} {x13 : Int} {iv av : IVt} (C : CX Y X RX13 "packPart" cX13_packPart 14 none (e + 18) 0 0) (Ka1 : ArrK 101 a1) (hx13 : InR x13) (h :
    ((InR (iv 73 45)) →
      (((iv 73 45) ≤ x13) →
        OkN Y (e + 17) mX13_writeTokens [.ref (gl_b Y + 73), .ref (gl_b Y + 99)] RV iv av 116 (fun r3 iv4 av5 =>
          P 0 iv4 av5
        )
      ) ∧
      ((¬ (iv 73 45) ≤ x13) →
        (0 ≤ x13 ∧ x13 < 320) ∧
        ((InR (av 106 x13.toNat)) →
          (InR (320 + (av 106 x13.toNat))) ∧
          OkN Y (e + 17) mX13_writeCode [.ref (gl_b Y + 73), .ref (gl_b Y + 99), .int (i32 (320 + (av 106 x13.toNat)))] RV iv av 116 (fun r10 iv11 av12 =>
            ((InR (av12 107 x13.toNat)) →
              ((InR (av12 106 x13.toNat)) →
                OkN Y (e + 17) mX13_stepBits [.int (i32 (av12 106 x13.toNat))] RV iv11 av12 116 (fun r16 iv17 av18 =>
                  (InR r16) →
                  OkN Y (e + 17) mX13_writeNumber [.ref (gl_b Y + 73), .int (i32 (av12 107 x13.toNat)), .int (i32 r16)] RV iv17 av18 116 (fun r20 iv21 av22 =>
                    L_X13_packPart_501 Y X P a1 (x13 + 1) iv21 av22
                  )
                )
              )
            )
          )
        )
      )
    )) : L_X13_packPart_501 Y X P a1 x13 iv av := by
  obtain ⟨ha1c, ha1l⟩ := Ka1
  unfold L_X13_packPart_501
  refine r_iload (pc' := 503) C 1 rfl dX13_packPart_501 rfl ?_
  refine r_aload_n (pc' := 504) C 0 rfl rfl dX13_packPart_503 rfl ?_
  refine r_geti (pc' := 507) (k := 73) C fl_X13_195 (by decide) kc_73 (by decide) fr_13_45 dX13_packPart_504 rfl (fun f1 => ?_)
  replace h := h f1
  refine r_icmp_ge (pc' := 510) (tgt := 556) C hx13 f1 dX13_packPart_507 (by decide) rfl (fun c2 => ?_) (fun c2 => ?_)
  · replace h := h.1 c2
    refine r_aload_n (pc' := 557) C 0 rfl rfl dX13_packPart_556 rfl ?_
    refine r_aload_n (pc' := 558) C 0 rfl rfl dX13_packPart_557 rfl ?_
    refine r_getr (pc' := 561) (k := 73) (r := 99) C fl_X13_93 (by decide) kc_73 (by decide) fr_13_38 RV_73_38 dX13_packPart_558 rfl ?_
    refine c_Vv (pc' := 564) (mt := mX13_writeTokens) (as := [.ref (gl_b Y + 99)]) (st := []) (k := 73) C h rfl cl_X13_writeTokens ml_X13_247 im_X13_writeTokens sl_X13_writeTokens (by omega) (Nat.le_refl _) (Nat.le_refl _) rfl (by decide) kc_73 (by decide) rfl rfl rfl (Nat.le_of_ble_eq_true rfl) dX13_packPart_561 rfl (fun r3 iv4 av5 h => ?_)
    exact r_vret C ⟨rfl, rfl, h⟩ dX13_packPart_564
  · replace h := h.2 c2
    refine r_aload_n (pc' := 511) C 0 rfl rfl dX13_packPart_510 rfl ?_
    refine r_aload_n (pc' := 512) C 0 rfl rfl dX13_packPart_511 rfl ?_
    refine r_getr (pc' := 515) (k := 73) (r := 99) C fl_X13_93 (by decide) kc_73 (by decide) fr_13_38 RV_73_38 dX13_packPart_512 rfl ?_
    refine r_sipush (pc' := 518) C dX13_packPart_515 (by decide) rfl ?_
    refine r_aload_n (pc' := 519) C 0 rfl rfl dX13_packPart_518 rfl ?_
    refine r_getr (pc' := 522) (k := 73) (r := 106) C fl_X13_114 (by decide) kc_73 (by decide) fr_13_46 RV_73_46 dX13_packPart_519 rfl ?_
    refine r_iload (pc' := 524) C 1 rfl dX13_packPart_522 rfl ?_
    have o7 := h.1
    replace h := h.2
    refine r_iald (pc' := 525) (k := 106) C (by decide) kc_106 (by have := kl_106; omega) dX13_packPart_524 rfl (fun f8 => ?_)
    replace h := h f8
    refine r_iadd (pc' := 526) C dX13_packPart_525 rfl ?_
    have o9 := h.1
    replace h := h.2
    refine c_Vv (pc' := 529) (mt := mX13_writeCode) (as := [.ref (gl_b Y + 99), .int (i32 (320 + (av 106 x13.toNat)))]) (st := []) (k := 73) C h rfl cl_X13_writeCode ml_X13_206 im_X13_writeCode sl_X13_writeCode (by omega) (Nat.le_refl _) (Nat.le_refl _) rfl (by decide) kc_73 (by decide) rfl rfl rfl (Nat.le_of_ble_eq_true rfl) dX13_packPart_526 rfl (fun r10 iv11 av12 h => ?_)
    refine r_aload_n (pc' := 530) C 0 rfl rfl dX13_packPart_529 rfl ?_
    refine r_aload_n (pc' := 531) C 0 rfl rfl dX13_packPart_530 rfl ?_
    refine r_getr (pc' := 534) (k := 73) (r := 107) C fl_X13_117 (by decide) kc_73 (by decide) fr_13_47 RV_73_47 dX13_packPart_531 rfl ?_
    refine r_iload (pc' := 536) C 1 rfl dX13_packPart_534 rfl ?_
    refine r_iald (pc' := 537) (k := 107) C (by decide) kc_107 (by have := kl_107; omega) dX13_packPart_536 rfl (fun f14 => ?_)
    replace h := h f14
    refine r_aload_n (pc' := 538) C 0 rfl rfl dX13_packPart_537 rfl ?_
    refine r_getr (pc' := 541) (k := 73) (r := 106) C fl_X13_114 (by decide) kc_73 (by decide) fr_13_46 RV_73_46 dX13_packPart_538 rfl ?_
    refine r_iload (pc' := 543) C 1 rfl dX13_packPart_541 rfl ?_
    refine r_iald (pc' := 544) (k := 106) C (by decide) kc_106 (by have := kl_106; omega) dX13_packPart_543 rfl (fun f15 => ?_)
    replace h := h f15
    refine c_Si (pc' := 547) (mt := mX13_stepBits) (as := [.int (i32 (av12 106 x13.toNat))]) (st := [.int (i32 (av12 107 x13.toNat)), .ref (gl_b Y + 73)]) C h rfl cl_X13_stepBits ml_X13_237 sm_X13_stepBits (by omega) (Nat.le_refl _) (Nat.le_refl _) rfl rfl (Nat.le_of_ble_eq_true rfl) dX13_packPart_544 rfl (fun r16 iv17 av18 f19 h => ?_)
    replace h := h f19
    refine c_Vv (pc' := 550) (mt := mX13_writeNumber) (as := [.int (i32 (av12 107 x13.toNat)), .int (i32 r16)]) (st := []) (k := 73) C h rfl cl_X13_writeNumber ml_X13_210 im_X13_writeNumber sl_X13_writeNumber (by omega) (Nat.le_refl _) (Nat.le_refl _) rfl (by decide) kc_73 (by decide) rfl rfl rfl (Nat.le_of_ble_eq_true rfl) dX13_packPart_547 rfl (fun r20 iv21 av22 h => ?_)
    refine r_iinc (pc' := 553) (ls' := [(0, .ref (gl_b Y + 73)), (13, .int (i32 (x13 + 1)))]) C 1 rfl (by decide) rfl dX13_packPart_550 rfl ?_
    refine r_goto (tgt := 501) C dX13_packPart_553 (by decide) ?_
    exact Wa.sub [0, 1] rfl h
set_option maxHeartbeats 4000000 in
set_option maxRecDepth 100000 in
theorem w_X13_packPart_453 {Y : Gl} {X : Cx} {e : Nat} {P : PN} {a1 : Nat} {x8 : Int} {x13 : Int} {iv av : IVt} (C : CX Y X RX13 "packPart" cX13_packPart 14 none (e + 18) 0 0) (Ka1 : ArrK 101 a1) (hx8 : InR x8) (hx13 : InR x13) (h :
    ((x8 ≤ x13) →
      OkN Y (e + 17) mX13_makeCodes [.ref (gl_b Y + 73), .ref (gl_b Y + 99), .int (i32 320), .int (i32 19)] RV iv av 116 (fun r2 iv3 av4 =>
        L_X13_packPart_501 Y X P a1 0 iv3 av4
      )
    ) ∧
    ((¬ x8 ≤ x13) →
      OkN Y (e + 17) mX13_smallOrder [.int (i32 x13)] RV iv av 116 (fun r6 iv7 av8 =>
        (InR r6) →
        (0 ≤ (320 + r6) ∧ (320 + r6) < 339) ∧
        ((InR (av8 99 (320 + r6).toNat)) →
          OkN Y (e + 17) mX13_writeNumber [.ref (gl_b Y + 73), .int (i32 (av8 99 (320 + r6).toNat)), .int (i32 3)] RV iv7 av8 116 (fun r12 iv13 av14 =>
            L_X13_packPart_453 Y X P a1 x8 (x13 + 1) iv13 av14
          )
        )
      )
    )) : L_X13_packPart_453 Y X P a1 x8 x13 iv av := by
  obtain ⟨ha1c, ha1l⟩ := Ka1
  unfold L_X13_packPart_453
  refine r_iload (pc' := 455) C 2 rfl dX13_packPart_453 rfl ?_
  refine r_iload (pc' := 457) C 1 rfl dX13_packPart_455 rfl ?_
  refine r_icmp_ge (pc' := 460) (tgt := 485) C hx13 hx8 dX13_packPart_457 (by decide) rfl (fun c1 => ?_) (fun c1 => ?_)
  · replace h := h.1 c1
    refine r_aload_n (pc' := 486) C 0 rfl rfl dX13_packPart_485 rfl ?_
    refine r_aload_n (pc' := 487) C 0 rfl rfl dX13_packPart_486 rfl ?_
    refine r_getr (pc' := 490) (k := 73) (r := 99) C fl_X13_93 (by decide) kc_73 (by decide) fr_13_38 RV_73_38 dX13_packPart_487 rfl ?_
    refine r_sipush (pc' := 493) C dX13_packPart_490 (by decide) rfl ?_
    refine r_bipush (pc' := 495) C dX13_packPart_493 (by decide) rfl ?_
    refine c_Vv (pc' := 498) (mt := mX13_makeCodes) (as := [.ref (gl_b Y + 99), .int (i32 320), .int (i32 19)]) (st := []) (k := 73) C h rfl cl_X13_makeCodes ml_X13_202 im_X13_makeCodes sl_X13_makeCodes (by omega) (Nat.le_refl _) (Nat.le_refl _) rfl (by decide) kc_73 (by decide) rfl rfl rfl (Nat.le_of_ble_eq_true rfl) dX13_packPart_495 rfl (fun r2 iv3 av4 h => ?_)
    refine r_iconst (pc' := 499) C dX13_packPart_498 rfl ?_
    refine r_istore (pc' := 501) (ls' := [(0, .ref (gl_b Y + 73)), (8, .int (i32 x8)), (13, .int (i32 0))]) C (by decide) rfl dX13_packPart_499 rfl ?_
    exact Wa.sub [0, 2] rfl h
  · replace h := h.2 c1
    refine r_aload_n (pc' := 461) C 0 rfl rfl dX13_packPart_460 rfl ?_
    refine r_aload_n (pc' := 462) C 0 rfl rfl dX13_packPart_461 rfl ?_
    refine r_getr (pc' := 465) (k := 73) (r := 99) C fl_X13_93 (by decide) kc_73 (by decide) fr_13_38 RV_73_38 dX13_packPart_462 rfl ?_
    refine r_sipush (pc' := 468) C dX13_packPart_465 (by decide) rfl ?_
    refine r_iload (pc' := 470) C 2 rfl dX13_packPart_468 rfl ?_
    refine c_Si (pc' := 473) (mt := mX13_smallOrder) (as := [.int (i32 x13)]) (st := [.int (i32 320), .ref (gl_b Y + 99), .ref (gl_b Y + 73)]) C h rfl cl_X13_smallOrder ml_X13_230 sm_X13_smallOrder (by omega) (Nat.le_refl _) (Nat.le_refl _) rfl rfl (Nat.le_of_ble_eq_true rfl) dX13_packPart_470 rfl (fun r6 iv7 av8 f9 h => ?_)
    replace h := h f9
    refine r_iadd (pc' := 474) C dX13_packPart_473 rfl ?_
    have o10 := h.1
    replace h := h.2
    refine r_iald (pc' := 475) (k := 99) C (by decide) kc_99 (by have := kl_99; omega) dX13_packPart_474 rfl (fun f11 => ?_)
    replace h := h f11
    refine r_iconst (pc' := 476) C dX13_packPart_475 rfl ?_
    refine c_Vv (pc' := 479) (mt := mX13_writeNumber) (as := [.int (i32 (av8 99 (320 + r6).toNat)), .int (i32 3)]) (st := []) (k := 73) C h rfl cl_X13_writeNumber ml_X13_210 im_X13_writeNumber sl_X13_writeNumber (by omega) (Nat.le_refl _) (Nat.le_refl _) rfl (by decide) kc_73 (by decide) rfl rfl rfl (Nat.le_of_ble_eq_true rfl) dX13_packPart_476 rfl (fun r12 iv13 av14 h => ?_)
    refine r_iinc (pc' := 482) (ls' := [(0, .ref (gl_b Y + 73)), (8, .int (i32 x8)), (13, .int (i32 (x13 + 1)))]) C 2 rfl (by decide) rfl dX13_packPart_479 rfl ?_
    refine r_goto (tgt := 453) C dX13_packPart_482 (by decide) ?_
    exact Wa.sub [0, 1, 2] rfl h
set_option maxHeartbeats 4000000 in
set_option maxRecDepth 100000 in
theorem w_X13_packPart_391 {Y : Gl} {X : Cx} {e : Nat} {P : PN} {a1 : Nat} {x6 : Int} {x7 : Int} {x8 : Int} {x9 : Int} {x10 : Int} {iv av : IVt} (C : CX Y X RX13 "packPart" cX13_packPart 14 none (e + 18) 0 0) (Ka1 : ArrK 101 a1) (hx9 : InR x9) (hx10 : InR x10) (h :
    ((x9 < x10) →
      OkN Y (e + 17) mX13_writeNumber [.ref (gl_b Y + 73), .int (i32 2), .int (i32 2)] RV iv av 116 (fun r2 iv3 av4 =>
        (InR (x6 - 257)) ∧
        OkN Y (e + 17) mX13_writeNumber [.ref (gl_b Y + 73), .int (i32 (x6 - 257)), .int (i32 5)] RV iv3 av4 116 (fun r7 iv8 av9 =>
          (InR (x7 - 1)) ∧
          OkN Y (e + 17) mX13_writeNumber [.ref (gl_b Y + 73), .int (i32 (x7 - 1)), .int (i32 5)] RV iv8 av9 116 (fun r12 iv13 av14 =>
            (InR (x8 - 4)) ∧
            OkN Y (e + 17) mX13_writeNumber [.ref (gl_b Y + 73), .int (i32 (x8 - 4)), .int (i32 4)] RV iv13 av14 116 (fun r17 iv18 av19 =>
              L_X13_packPart_453 Y X P a1 x8 0 iv18 av19
            )
          )
        )
      )
    ) ∧
    ((¬ x9 < x10) →
      OkN Y (e + 17) mX13_writeNumber [.ref (gl_b Y + 73), .int (i32 1), .int (i32 2)] RV iv av 116 (fun r21 iv22 av23 =>
        OkN Y (e + 17) mX13_writeTokens [.ref (gl_b Y + 73), .ref (gl_b Y + 100)] RV iv22 av23 116 (fun r25 iv26 av27 =>
          P 0 iv26 av27
        )
      )
    )) : L_X13_packPart_391 Y X P a1 x6 x7 x8 x9 x10 iv av := by
  obtain ⟨ha1c, ha1l⟩ := Ka1
  unfold L_X13_packPart_391
  refine r_iload (pc' := 393) C 5 rfl dX13_packPart_391 rfl ?_
  refine r_iload (pc' := 395) C 4 rfl dX13_packPart_393 rfl ?_
  refine r_icmp_gt (pc' := 398) (tgt := 415) C hx10 hx9 dX13_packPart_395 (by decide) rfl (fun c1 => ?_) (fun c1 => ?_)
  · replace h := h.1 c1
    refine r_aload_n (pc' := 416) C 0 rfl rfl dX13_packPart_415 rfl ?_
    refine r_iconst (pc' := 417) C dX13_packPart_416 rfl ?_
    refine r_iconst (pc' := 418) C dX13_packPart_417 rfl ?_
    refine c_Vv (pc' := 421) (mt := mX13_writeNumber) (as := [.int (i32 2), .int (i32 2)]) (st := []) (k := 73) C h rfl cl_X13_writeNumber ml_X13_210 im_X13_writeNumber sl_X13_writeNumber (by omega) (Nat.le_refl _) (Nat.le_refl _) rfl (by decide) kc_73 (by decide) rfl rfl rfl (Nat.le_of_ble_eq_true rfl) dX13_packPart_418 rfl (fun r2 iv3 av4 h => ?_)
    refine r_aload_n (pc' := 422) C 0 rfl rfl dX13_packPart_421 rfl ?_
    refine r_iload (pc' := 424) C 1 rfl dX13_packPart_422 rfl ?_
    refine r_sipush (pc' := 427) C dX13_packPart_424 (by decide) rfl ?_
    refine r_isub (pc' := 428) C dX13_packPart_427 rfl ?_
    refine r_iconst (pc' := 429) C dX13_packPart_428 rfl ?_
    have o6 := h.1
    replace h := h.2
    refine c_Vv (pc' := 432) (mt := mX13_writeNumber) (as := [.int (i32 (x6 - 257)), .int (i32 5)]) (st := []) (k := 73) C h rfl cl_X13_writeNumber ml_X13_210 im_X13_writeNumber sl_X13_writeNumber (by omega) (Nat.le_refl _) (Nat.le_refl _) rfl (by decide) kc_73 (by decide) rfl rfl rfl (Nat.le_of_ble_eq_true rfl) dX13_packPart_429 rfl (fun r7 iv8 av9 h => ?_)
    refine r_aload_n (pc' := 433) C 0 rfl rfl dX13_packPart_432 rfl ?_
    refine r_iload (pc' := 435) C 2 rfl dX13_packPart_433 rfl ?_
    refine r_iconst (pc' := 436) C dX13_packPart_435 rfl ?_
    refine r_isub (pc' := 437) C dX13_packPart_436 rfl ?_
    refine r_iconst (pc' := 438) C dX13_packPart_437 rfl ?_
    have o11 := h.1
    replace h := h.2
    refine c_Vv (pc' := 441) (mt := mX13_writeNumber) (as := [.int (i32 (x7 - 1)), .int (i32 5)]) (st := []) (k := 73) C h rfl cl_X13_writeNumber ml_X13_210 im_X13_writeNumber sl_X13_writeNumber (by omega) (Nat.le_refl _) (Nat.le_refl _) rfl (by decide) kc_73 (by decide) rfl rfl rfl (Nat.le_of_ble_eq_true rfl) dX13_packPart_438 rfl (fun r12 iv13 av14 h => ?_)
    refine r_aload_n (pc' := 442) C 0 rfl rfl dX13_packPart_441 rfl ?_
    refine r_iload (pc' := 444) C 3 rfl dX13_packPart_442 rfl ?_
    refine r_iconst (pc' := 445) C dX13_packPart_444 rfl ?_
    refine r_isub (pc' := 446) C dX13_packPart_445 rfl ?_
    refine r_iconst (pc' := 447) C dX13_packPart_446 rfl ?_
    have o16 := h.1
    replace h := h.2
    refine c_Vv (pc' := 450) (mt := mX13_writeNumber) (as := [.int (i32 (x8 - 4)), .int (i32 4)]) (st := []) (k := 73) C h rfl cl_X13_writeNumber ml_X13_210 im_X13_writeNumber sl_X13_writeNumber (by omega) (Nat.le_refl _) (Nat.le_refl _) rfl (by decide) kc_73 (by decide) rfl rfl rfl (Nat.le_of_ble_eq_true rfl) dX13_packPart_447 rfl (fun r17 iv18 av19 h => ?_)
    refine r_iconst (pc' := 451) C dX13_packPart_450 rfl ?_
    refine r_istore (pc' := 453) (ls' := [(0, .ref (gl_b Y + 73)), (6, .int (i32 x6)), (7, .int (i32 x7)), (8, .int (i32 x8)), (9, .int (i32 x9)), (10, .int (i32 x10)), (13, .int (i32 0))]) C (by decide) rfl dX13_packPart_451 rfl ?_
    exact Wa.sub [0, 3, 6] rfl h
  · replace h := h.2 c1
    refine r_aload_n (pc' := 399) C 0 rfl rfl dX13_packPart_398 rfl ?_
    refine r_iconst (pc' := 400) C dX13_packPart_399 rfl ?_
    refine r_iconst (pc' := 401) C dX13_packPart_400 rfl ?_
    refine c_Vv (pc' := 404) (mt := mX13_writeNumber) (as := [.int (i32 1), .int (i32 2)]) (st := []) (k := 73) C h rfl cl_X13_writeNumber ml_X13_210 im_X13_writeNumber sl_X13_writeNumber (by omega) (Nat.le_refl _) (Nat.le_refl _) rfl (by decide) kc_73 (by decide) rfl rfl rfl (Nat.le_of_ble_eq_true rfl) dX13_packPart_401 rfl (fun r21 iv22 av23 h => ?_)
    refine r_aload_n (pc' := 405) C 0 rfl rfl dX13_packPart_404 rfl ?_
    refine r_aload_n (pc' := 406) C 0 rfl rfl dX13_packPart_405 rfl ?_
    refine r_getr (pc' := 409) (k := 73) (r := 100) C fl_X13_96 (by decide) kc_73 (by decide) fr_13_39 RV_73_39 dX13_packPart_406 rfl ?_
    refine c_Vv (pc' := 412) (mt := mX13_writeTokens) (as := [.ref (gl_b Y + 100)]) (st := []) (k := 73) C h rfl cl_X13_writeTokens ml_X13_247 im_X13_writeTokens sl_X13_writeTokens (by omega) (Nat.le_refl _) (Nat.le_refl _) rfl (by decide) kc_73 (by decide) rfl rfl rfl (Nat.le_of_ble_eq_true rfl) dX13_packPart_409 rfl (fun r25 iv26 av27 h => ?_)
    refine r_goto (tgt := 564) C dX13_packPart_412 (by decide) ?_
    exact r_vret C ⟨rfl, rfl, h⟩ dX13_packPart_564
set_option maxHeartbeats 4000000 in
set_option maxRecDepth 100000 in
theorem w_X13_packPart_359 {Y : Gl} {X : Cx} {e : Nat} {P : PN} {a1 : Nat} {x2 : Int} {x4 : Int} {x13 : Int} {iv av : IVt} (C : CX Y X RX13 "packPart" cX13_packPart 14 none (e + 18) 0 0) (Ka1 : ArrK 101 a1) (hx4 : InR x4) (hx13 : InR x13) (h :
    ((x4 ≤ x13) →
      P 0 iv av
    ) ∧
    ((¬ x4 ≤ x13) →
      (0 ≤ (x2 + x13) ∧ (x2 + x13) < (kl a1 : Int)) ∧
      ((-128 ≤ (av a1 (x2 + x13).toNat) ∧ (av a1 (x2 + x13).toNat) ≤ 127) →
        OkN Y (e + 17) mX13_writeNumber [.ref (gl_b Y + 73), .int (i32 ((av a1 (x2 + x13).toNat) % 256)), .int (i32 8)] RV iv av 116 (fun r4 iv5 av6 =>
          L_X13_packPart_359 Y X P a1 x2 x4 (x13 + 1) iv5 av6
        )
      )
    )) : L_X13_packPart_359 Y X P a1 x2 x4 x13 iv av := by
  obtain ⟨ha1c, ha1l⟩ := Ka1
  unfold L_X13_packPart_359
  refine r_iload (pc' := 361) C 4 rfl dX13_packPart_359 rfl ?_
  refine r_iload (pc' := 363) C 3 rfl dX13_packPart_361 rfl ?_
  refine r_icmp_ge (pc' := 366) (tgt := 388) C hx13 hx4 dX13_packPart_363 (by decide) rfl (fun c1 => ?_) (fun c1 => ?_)
  · replace h := h.1 c1
    refine r_goto (tgt := 564) C dX13_packPart_388 (by decide) ?_
    exact r_vret C ⟨rfl, rfl, h⟩ dX13_packPart_564
  · replace h := h.2 c1
    refine r_aload_n (pc' := 367) C 0 rfl rfl dX13_packPart_366 rfl ?_
    refine r_aload_n (pc' := 368) C 1 rfl rfl dX13_packPart_367 rfl ?_
    refine r_iload_n (pc' := 369) C 2 rfl rfl dX13_packPart_368 rfl ?_
    refine r_iload (pc' := 371) C 4 rfl dX13_packPart_369 rfl ?_
    refine r_iadd (pc' := 372) C dX13_packPart_371 rfl ?_
    have o2 := h.1
    replace h := h.2
    refine r_bald (pc' := 373) (k := a1) C (by omega) ha1c o2 dX13_packPart_372 rfl (fun f3 => ?_)
    replace h := h f3
    refine r_sipush (pc' := 376) C dX13_packPart_373 (by decide) rfl ?_
    refine r_iandM (pc' := 377) (m := 256) C 8 (by decide) (by decide) (by decide) dX13_packPart_376 rfl ?_
    refine r_bipush (pc' := 379) C dX13_packPart_377 (by decide) rfl ?_
    refine c_Vv (pc' := 382) (mt := mX13_writeNumber) (as := [.int (i32 ((av a1 (x2 + x13).toNat) % 256)), .int (i32 8)]) (st := []) (k := 73) C h rfl cl_X13_writeNumber ml_X13_210 im_X13_writeNumber sl_X13_writeNumber (by omega) (Nat.le_refl _) (Nat.le_refl _) rfl (by decide) kc_73 (by decide) rfl rfl rfl (Nat.le_of_ble_eq_true rfl) dX13_packPart_379 rfl (fun r4 iv5 av6 h => ?_)
    refine r_iinc (pc' := 385) (ls' := [(0, .ref (gl_b Y + 73)), (1, .ref (gl_b Y + a1)), (2, .int (i32 x2)), (4, .int (i32 x4)), (13, .int (i32 (x13 + 1)))]) C 4 rfl (by decide) rfl dX13_packPart_382 rfl ?_
    refine r_goto (tgt := 359) C dX13_packPart_385 (by decide) ?_
    exact Wa.sub [0, 1, 2, 3, 4] rfl h
set_option maxHeartbeats 4000000 in
set_option maxRecDepth 100000 in
theorem w_X13_packPart_309 {Y : Gl} {X : Cx} {e : Nat} {P : PN} {a1 : Nat} {x2 : Int} {x3 : Int} {x4 : Int} {x6 : Int} {x7 : Int} {x8 : Int} {x9 : Int} {x10 : Int} {x12 : Int} {iv av : IVt} (C : CX Y X RX13 "packPart" cX13_packPart 14 none (e + 18) 0 0) (Ka1 : ArrK 101 a1) (hx9 : InR x9) (hx10 : InR x10) (hx12 : InR x12) (h :
    ((x10 < x12) →
      L_X13_packPart_391 Y X P a1 x6 x7 x8 x9 x10 iv av
    ) ∧
    ((¬ x10 < x12) →
      ((x9 < x12) →
        L_X13_packPart_391 Y X P a1 x6 x7 x8 x9 x10 iv av
      ) ∧
      ((¬ x9 < x12) →
        OkN Y (e + 17) mX13_writeNumber [.ref (gl_b Y + 73), .int (i32 0), .int (i32 2)] RV iv av 116 (fun r3 iv4 av5 =>
          OkN Y (e + 17) mX13_endByte [.ref (gl_b Y + 73)] RV iv4 av5 116 (fun r7 iv8 av9 =>
            (InR (x4 - x3)) ∧
            OkN Y (e + 17) mX13_writeNumber [.ref (gl_b Y + 73), .int (i32 (x4 - x3)), .int (i32 16)] RV iv8 av9 116 (fun r12 iv13 av14 =>
              (InR ((65535 - x4) + x3)) ∧
              OkN Y (e + 17) mX13_writeNumber [.ref (gl_b Y + 73), .int (i32 ((65535 - x4) + x3)), .int (i32 16)] RV iv13 av14 116 (fun r17 iv18 av19 =>
                L_X13_packPart_359 Y X P a1 x2 x4 x3 iv18 av19
              )
            )
          )
        )
      )
    )) : L_X13_packPart_309 Y X P a1 x2 x3 x4 x6 x7 x8 x9 x10 x12 iv av := by
  obtain ⟨ha1c, ha1l⟩ := Ka1
  unfold L_X13_packPart_309
  refine r_iload (pc' := 311) C 10 rfl dX13_packPart_309 rfl ?_
  refine r_iload (pc' := 313) C 9 rfl dX13_packPart_311 rfl ?_
  refine r_icmp_gt (pc' := 316) (tgt := 391) C hx12 hx10 dX13_packPart_313 (by decide) rfl (fun c1 => ?_) (fun c1 => ?_)
  · replace h := h.1 c1
    exact Wa.sub [0, 5, 6, 7, 8, 9] rfl h
  · replace h := h.2 c1
    refine r_iload (pc' := 318) C 10 rfl dX13_packPart_316 rfl ?_
    refine r_iload (pc' := 320) C 8 rfl dX13_packPart_318 rfl ?_
    refine r_icmp_gt (pc' := 323) (tgt := 391) C hx12 hx9 dX13_packPart_320 (by decide) rfl (fun c2 => ?_) (fun c2 => ?_)
    · replace h := h.1 c2
      exact Wa.sub [0, 5, 6, 7, 8, 9] rfl h
    · replace h := h.2 c2
      refine r_aload_n (pc' := 324) C 0 rfl rfl dX13_packPart_323 rfl ?_
      refine r_iconst (pc' := 325) C dX13_packPart_324 rfl ?_
      refine r_iconst (pc' := 326) C dX13_packPart_325 rfl ?_
      refine c_Vv (pc' := 329) (mt := mX13_writeNumber) (as := [.int (i32 0), .int (i32 2)]) (st := []) (k := 73) C h rfl cl_X13_writeNumber ml_X13_210 im_X13_writeNumber sl_X13_writeNumber (by omega) (Nat.le_refl _) (Nat.le_refl _) rfl (by decide) kc_73 (by decide) rfl rfl rfl (Nat.le_of_ble_eq_true rfl) dX13_packPart_326 rfl (fun r3 iv4 av5 h => ?_)
      refine r_aload_n (pc' := 330) C 0 rfl rfl dX13_packPart_329 rfl ?_
      refine c_Vv (pc' := 333) (mt := mX13_endByte) (as := []) (st := []) (k := 73) C h rfl cl_X13_endByte ml_X13_243 im_X13_endByte sl_X13_endByte (by omega) (Nat.le_refl _) (Nat.le_refl _) rfl (by decide) kc_73 (by decide) rfl rfl rfl (Nat.le_of_ble_eq_true rfl) dX13_packPart_330 rfl (fun r7 iv8 av9 h => ?_)
      refine r_aload_n (pc' := 334) C 0 rfl rfl dX13_packPart_333 rfl ?_
      refine r_iload (pc' := 336) C 4 rfl dX13_packPart_334 rfl ?_
      refine r_iload_n (pc' := 337) C 3 rfl rfl dX13_packPart_336 rfl ?_
      refine r_isub (pc' := 338) C dX13_packPart_337 rfl ?_
      refine r_bipush (pc' := 340) C dX13_packPart_338 (by decide) rfl ?_
      have o11 := h.1
      replace h := h.2
      refine c_Vv (pc' := 343) (mt := mX13_writeNumber) (as := [.int (i32 (x4 - x3)), .int (i32 16)]) (st := []) (k := 73) C h rfl cl_X13_writeNumber ml_X13_210 im_X13_writeNumber sl_X13_writeNumber (by omega) (Nat.le_refl _) (Nat.le_refl _) rfl (by decide) kc_73 (by decide) rfl rfl rfl (Nat.le_of_ble_eq_true rfl) dX13_packPart_340 rfl (fun r12 iv13 av14 h => ?_)
      refine r_aload_n (pc' := 344) C 0 rfl rfl dX13_packPart_343 rfl ?_
      refine r_ldc (pc' := 346) (x := 65535) C ct_X13_246 (by decide) dX13_packPart_344 rfl ?_
      refine r_iload (pc' := 348) C 4 rfl dX13_packPart_346 rfl ?_
      refine r_isub (pc' := 349) C dX13_packPart_348 rfl ?_
      refine r_iload_n (pc' := 350) C 3 rfl rfl dX13_packPart_349 rfl ?_
      refine r_iadd (pc' := 351) C dX13_packPart_350 rfl ?_
      refine r_bipush (pc' := 353) C dX13_packPart_351 (by decide) rfl ?_
      have o16 := h.1
      replace h := h.2
      refine c_Vv (pc' := 356) (mt := mX13_writeNumber) (as := [.int (i32 ((65535 - x4) + x3)), .int (i32 16)]) (st := []) (k := 73) C h rfl cl_X13_writeNumber ml_X13_210 im_X13_writeNumber sl_X13_writeNumber (by omega) (Nat.le_refl _) (Nat.le_refl _) rfl (by decide) kc_73 (by decide) rfl rfl rfl (Nat.le_of_ble_eq_true rfl) dX13_packPart_353 rfl (fun r17 iv18 av19 h => ?_)
      refine r_iload_n (pc' := 357) C 3 rfl rfl dX13_packPart_356 rfl ?_
      refine r_istore (pc' := 359) (ls' := [(0, .ref (gl_b Y + 73)), (1, .ref (gl_b Y + a1)), (2, .int (i32 x2)), (3, .int (i32 x3)), (4, .int (i32 x4)), (6, .int (i32 x6)), (7, .int (i32 x7)), (8, .int (i32 x8)), (9, .int (i32 x9)), (10, .int (i32 x10)), (12, .int (i32 x12)), (13, .int (i32 x3))]) C (by decide) rfl dX13_packPart_357 rfl ?_
      exact Wa.sub [0, 1, 2, 4, 11] rfl h
set_option maxHeartbeats 4000000 in
set_option maxRecDepth 100000 in
theorem w_X13_packPart_192 {Y : Gl} {X : Cx} {e : Nat} {P : PN} {a1 : Nat} {x2 : Int} {x3 : Int} {x4 : Int} {x5 : Int} {x6 : Int} {x7 : Int} {x8 : Int} {x9 : Int} {x10 : Int} {iv av : IVt} (C : CX Y X RX13 "packPart" cX13_packPart 14 none (e + 18) 0 0) (Ka1 : ArrK 101 a1) (hx5 : InR x5) (hx10 : InR x10) (h :
    ((InR (iv 73 45)) →
      (((iv 73 45) ≤ x10) →
        OkN Y (e + 17) mX13_makeFixed [.ref (gl_b Y + 73)] RV iv av 116 (fun r3 iv4 av5 =>
          OkN Y (e + 17) mX13_bitsBy [.ref (gl_b Y + 73), .ref (gl_b Y + 100)] RV iv4 av5 116 (fun r7 iv8 av9 =>
            (InR r7) →
            ((InR (iv8 73 31)) →
              (InR ((iv8 73 31) + 3)) ∧
              (0 ≤ ((iv8 73 31) + 3)) ∧
              ((¬ (((iv8 73 31) + 3) % 8) = 0) →
                ((x5 = 0) →
                  OkN Y (e + 17) mX13_writeBit [.ref (gl_b Y + 73), .int (i32 0)] RV iv8 av9 116 (fun r16 iv17 av18 =>
                    L_X13_packPart_309 Y X P a1 x2 x3 x4 x6 x7 x8 x9 (3 + r7) (((3 + (8 - (((iv8 73 31) + 3) % 8))) + 32) + (8 * (x4 - x3))) iv17 av18
                  )
                ) ∧
                ((¬ x5 = 0) →
                  OkN Y (e + 17) mX13_writeBit [.ref (gl_b Y + 73), .int (i32 1)] RV iv8 av9 116 (fun r20 iv21 av22 =>
                    L_X13_packPart_309 Y X P a1 x2 x3 x4 x6 x7 x8 x9 (3 + r7) (((3 + (8 - (((iv8 73 31) + 3) % 8))) + 32) + (8 * (x4 - x3))) iv21 av22
                  )
                )
              ) ∧
              (((((iv8 73 31) + 3) % 8) = 0) →
                ((x5 = 0) →
                  OkN Y (e + 17) mX13_writeBit [.ref (gl_b Y + 73), .int (i32 0)] RV iv8 av9 116 (fun r25 iv26 av27 =>
                    L_X13_packPart_309 Y X P a1 x2 x3 x4 x6 x7 x8 x9 (3 + r7) (((3 + 0) + 32) + (8 * (x4 - x3))) iv26 av27
                  )
                ) ∧
                ((¬ x5 = 0) →
                  OkN Y (e + 17) mX13_writeBit [.ref (gl_b Y + 73), .int (i32 1)] RV iv8 av9 116 (fun r29 iv30 av31 =>
                    L_X13_packPart_309 Y X P a1 x2 x3 x4 x6 x7 x8 x9 (3 + r7) (((3 + 0) + 32) + (8 * (x4 - x3))) iv30 av31
                  )
                )
              )
            )
          )
        )
      ) ∧
      ((¬ (iv 73 45) ≤ x10) →
        (0 ≤ x10 ∧ x10 < 320) ∧
        ((InR (av 106 x10.toNat)) →
          (0 ≤ (320 + (av 106 x10.toNat)) ∧ (320 + (av 106 x10.toNat)) < 339) ∧
          ((InR (av 99 (320 + (av 106 x10.toNat)).toNat)) →
            OkN Y (e + 17) mX13_stepBits [.int (i32 (av 106 x10.toNat))] RV iv av 116 (fun r38 iv39 av40 =>
              (InR r38) →
              L_X13_packPart_192 Y X P a1 x2 x3 x4 x5 x6 x7 x8 ((x9 + (av 99 (320 + (av 106 x10.toNat)).toNat)) + r38) (x10 + 1) iv39 av40
            )
          )
        )
      )
    )) : L_X13_packPart_192 Y X P a1 x2 x3 x4 x5 x6 x7 x8 x9 x10 iv av := by
  obtain ⟨ha1c, ha1l⟩ := Ka1
  unfold L_X13_packPart_192
  refine r_iload (pc' := 194) C 10 rfl dX13_packPart_192 rfl ?_
  refine r_aload_n (pc' := 195) C 0 rfl rfl dX13_packPart_194 rfl ?_
  refine r_geti (pc' := 198) (k := 73) C fl_X13_195 (by decide) kc_73 (by decide) fr_13_45 dX13_packPart_195 rfl (fun f1 => ?_)
  replace h := h f1
  refine r_icmp_ge (pc' := 201) (tgt := 239) C hx10 f1 dX13_packPart_198 (by decide) rfl (fun c2 => ?_) (fun c2 => ?_)
  · replace h := h.1 c2
    refine r_aload_n (pc' := 240) C 0 rfl rfl dX13_packPart_239 rfl ?_
    refine c_Vv (pc' := 243) (mt := mX13_makeFixed) (as := []) (st := []) (k := 73) C h rfl cl_X13_makeFixed ml_X13_240 im_X13_makeFixed sl_X13_makeFixed (by omega) (Nat.le_refl _) (Nat.le_refl _) rfl (by decide) kc_73 (by decide) rfl rfl rfl (Nat.le_of_ble_eq_true rfl) dX13_packPart_240 rfl (fun r3 iv4 av5 h => ?_)
    refine r_iconst (pc' := 244) C dX13_packPart_243 rfl ?_
    refine r_aload_n (pc' := 245) C 0 rfl rfl dX13_packPart_244 rfl ?_
    refine r_aload_n (pc' := 246) C 0 rfl rfl dX13_packPart_245 rfl ?_
    refine r_getr (pc' := 249) (k := 73) (r := 100) C fl_X13_96 (by decide) kc_73 (by decide) fr_13_39 RV_73_39 dX13_packPart_246 rfl ?_
    refine c_Vi (pc' := 252) (mt := mX13_bitsBy) (as := [.ref (gl_b Y + 100)]) (st := [.int (i32 3)]) (k := 73) C h rfl cl_X13_bitsBy ml_X13_233 im_X13_bitsBy sl_X13_bitsBy (by omega) (Nat.le_refl _) (Nat.le_refl _) rfl (by decide) kc_73 (by decide) rfl rfl rfl (Nat.le_of_ble_eq_true rfl) dX13_packPart_249 rfl (fun r7 iv8 av9 f10 h => ?_)
    replace h := h f10
    refine r_iadd (pc' := 253) C dX13_packPart_252 rfl ?_
    refine r_istore (pc' := 255) (ls' := [(0, .ref (gl_b Y + 73)), (1, .ref (gl_b Y + a1)), (2, .int (i32 x2)), (3, .int (i32 x3)), (4, .int (i32 x4)), (5, .int (i32 x5)), (6, .int (i32 x6)), (7, .int (i32 x7)), (8, .int (i32 x8)), (9, .int (i32 x9)), (10, .int (i32 (3 + r7)))]) C (by decide) rfl dX13_packPart_253 rfl ?_
    refine r_aload_n (pc' := 256) C 0 rfl rfl dX13_packPart_255 rfl ?_
    refine r_geti (pc' := 259) (k := 73) C fl_X13_167 (by decide) kc_73 (by decide) fr_13_31 dX13_packPart_256 rfl (fun f11 => ?_)
    replace h := h f11
    refine r_iconst (pc' := 260) C dX13_packPart_259 rfl ?_
    refine r_iadd (pc' := 261) C dX13_packPart_260 rfl ?_
    refine r_bipush (pc' := 263) C dX13_packPart_261 (by decide) rfl ?_
    have o12 := h.1
    replace h := h.2
    have o13 := h.1
    replace h := h.2
    refine r_irem (pc' := 264) C ⟨o13, o12⟩ ⟨(by decide), (by decide)⟩ dX13_packPart_263 rfl ?_
    refine r_istore (pc' := 266) (ls' := [(0, .ref (gl_b Y + 73)), (1, .ref (gl_b Y + a1)), (2, .int (i32 x2)), (3, .int (i32 x3)), (4, .int (i32 x4)), (5, .int (i32 x5)), (6, .int (i32 x6)), (7, .int (i32 x7)), (8, .int (i32 x8)), (9, .int (i32 x9)), (10, .int (i32 (3 + r7))), (11, .int (i32 (((iv8 73 31) + 3) % 8)))]) C (by decide) rfl dX13_packPart_264 rfl ?_
    refine r_iconst (pc' := 267) C dX13_packPart_266 rfl ?_
    refine r_iload (pc' := 269) C 11 rfl dX13_packPart_267 rfl ?_
    refine r_if_ne (pc' := 272) (tgt := 276) C (by omega) dX13_packPart_269 (by decide) rfl (fun c14 => ?_) (fun c14 => ?_)
    · replace h := h.1 c14
      refine r_bipush (pc' := 278) C dX13_packPart_276 (by decide) rfl ?_
      refine r_iload (pc' := 280) C 11 rfl dX13_packPart_278 rfl ?_
      refine r_isub (pc' := 281) C dX13_packPart_280 rfl ?_
      refine r_iadd (pc' := 282) C dX13_packPart_281 rfl ?_
      refine r_bipush (pc' := 284) C dX13_packPart_282 (by decide) rfl ?_
      refine r_iadd (pc' := 285) C dX13_packPart_284 rfl ?_
      refine r_bipush (pc' := 287) C dX13_packPart_285 (by decide) rfl ?_
      refine r_iload (pc' := 289) C 4 rfl dX13_packPart_287 rfl ?_
      refine r_iload_n (pc' := 290) C 3 rfl rfl dX13_packPart_289 rfl ?_
      refine r_isub (pc' := 291) C dX13_packPart_290 rfl ?_
      refine r_imul (pc' := 292) C dX13_packPart_291 rfl ?_
      refine r_iadd (pc' := 293) C dX13_packPart_292 rfl ?_
      refine r_istore (pc' := 295) (ls' := [(0, .ref (gl_b Y + 73)), (1, .ref (gl_b Y + a1)), (2, .int (i32 x2)), (3, .int (i32 x3)), (4, .int (i32 x4)), (5, .int (i32 x5)), (6, .int (i32 x6)), (7, .int (i32 x7)), (8, .int (i32 x8)), (9, .int (i32 x9)), (10, .int (i32 (3 + r7))), (11, .int (i32 (((iv8 73 31) + 3) % 8))), (12, .int (i32 (((3 + (8 - (((iv8 73 31) + 3) % 8))) + 32) + (8 * (x4 - x3)))))]) C (by decide) rfl dX13_packPart_293 rfl ?_
      refine r_aload_n (pc' := 296) C 0 rfl rfl dX13_packPart_295 rfl ?_
      refine r_iload (pc' := 298) C 5 rfl dX13_packPart_296 rfl ?_
      refine r_if_eq (pc' := 301) (tgt := 305) C hx5 dX13_packPart_298 (by decide) rfl (fun c15 => ?_) (fun c15 => ?_)
      · replace h := h.1 c15
        refine r_iconst (pc' := 306) C dX13_packPart_305 rfl ?_
        refine c_Vv (pc' := 309) (mt := mX13_writeBit) (as := [.int (i32 0)]) (st := []) (k := 73) C h rfl cl_X13_writeBit ml_X13_170 im_X13_writeBit sl_X13_writeBit (by omega) (Nat.le_refl _) (Nat.le_refl _) rfl (by decide) kc_73 (by decide) rfl rfl rfl (Nat.le_of_ble_eq_true rfl) dX13_packPart_306 rfl (fun r16 iv17 av18 h => ?_)
        exact Wa.sub [0, 1, 2, 3, 4, 6, 7, 8, 9, 10, 12] rfl h
      · replace h := h.2 c15
        refine r_iconst (pc' := 302) C dX13_packPart_301 rfl ?_
        refine r_goto (tgt := 306) C dX13_packPart_302 (by decide) ?_
        refine c_Vv (pc' := 309) (mt := mX13_writeBit) (as := [.int (i32 1)]) (st := []) (k := 73) C h rfl cl_X13_writeBit ml_X13_170 im_X13_writeBit sl_X13_writeBit (by omega) (Nat.le_refl _) (Nat.le_refl _) rfl (by decide) kc_73 (by decide) rfl rfl rfl (Nat.le_of_ble_eq_true rfl) dX13_packPart_306 rfl (fun r20 iv21 av22 h => ?_)
        exact Wa.sub [0, 1, 2, 3, 4, 6, 7, 8, 9, 10, 12] rfl h
    · replace h := h.2 c14
      refine r_iconst (pc' := 273) C dX13_packPart_272 rfl ?_
      refine r_goto (tgt := 281) C dX13_packPart_273 (by decide) ?_
      refine r_iadd (pc' := 282) C dX13_packPart_281 rfl ?_
      refine r_bipush (pc' := 284) C dX13_packPart_282 (by decide) rfl ?_
      refine r_iadd (pc' := 285) C dX13_packPart_284 rfl ?_
      refine r_bipush (pc' := 287) C dX13_packPart_285 (by decide) rfl ?_
      refine r_iload (pc' := 289) C 4 rfl dX13_packPart_287 rfl ?_
      refine r_iload_n (pc' := 290) C 3 rfl rfl dX13_packPart_289 rfl ?_
      refine r_isub (pc' := 291) C dX13_packPart_290 rfl ?_
      refine r_imul (pc' := 292) C dX13_packPart_291 rfl ?_
      refine r_iadd (pc' := 293) C dX13_packPart_292 rfl ?_
      refine r_istore (pc' := 295) (ls' := [(0, .ref (gl_b Y + 73)), (1, .ref (gl_b Y + a1)), (2, .int (i32 x2)), (3, .int (i32 x3)), (4, .int (i32 x4)), (5, .int (i32 x5)), (6, .int (i32 x6)), (7, .int (i32 x7)), (8, .int (i32 x8)), (9, .int (i32 x9)), (10, .int (i32 (3 + r7))), (11, .int (i32 (((iv8 73 31) + 3) % 8))), (12, .int (i32 (((3 + 0) + 32) + (8 * (x4 - x3)))))]) C (by decide) rfl dX13_packPart_293 rfl ?_
      refine r_aload_n (pc' := 296) C 0 rfl rfl dX13_packPart_295 rfl ?_
      refine r_iload (pc' := 298) C 5 rfl dX13_packPart_296 rfl ?_
      refine r_if_eq (pc' := 301) (tgt := 305) C hx5 dX13_packPart_298 (by decide) rfl (fun c24 => ?_) (fun c24 => ?_)
      · replace h := h.1 c24
        refine r_iconst (pc' := 306) C dX13_packPart_305 rfl ?_
        refine c_Vv (pc' := 309) (mt := mX13_writeBit) (as := [.int (i32 0)]) (st := []) (k := 73) C h rfl cl_X13_writeBit ml_X13_170 im_X13_writeBit sl_X13_writeBit (by omega) (Nat.le_refl _) (Nat.le_refl _) rfl (by decide) kc_73 (by decide) rfl rfl rfl (Nat.le_of_ble_eq_true rfl) dX13_packPart_306 rfl (fun r25 iv26 av27 h => ?_)
        exact Wa.sub [0, 1, 2, 3, 4, 6, 7, 8, 9, 10, 12] rfl h
      · replace h := h.2 c24
        refine r_iconst (pc' := 302) C dX13_packPart_301 rfl ?_
        refine r_goto (tgt := 306) C dX13_packPart_302 (by decide) ?_
        refine c_Vv (pc' := 309) (mt := mX13_writeBit) (as := [.int (i32 1)]) (st := []) (k := 73) C h rfl cl_X13_writeBit ml_X13_170 im_X13_writeBit sl_X13_writeBit (by omega) (Nat.le_refl _) (Nat.le_refl _) rfl (by decide) kc_73 (by decide) rfl rfl rfl (Nat.le_of_ble_eq_true rfl) dX13_packPart_306 rfl (fun r29 iv30 av31 h => ?_)
        exact Wa.sub [0, 1, 2, 3, 4, 6, 7, 8, 9, 10, 12] rfl h
  · replace h := h.2 c2
    refine r_iload (pc' := 203) C 9 rfl dX13_packPart_201 rfl ?_
    refine r_aload_n (pc' := 204) C 0 rfl rfl dX13_packPart_203 rfl ?_
    refine r_getr (pc' := 207) (k := 73) (r := 99) C fl_X13_93 (by decide) kc_73 (by decide) fr_13_38 RV_73_38 dX13_packPart_204 rfl ?_
    refine r_sipush (pc' := 210) C dX13_packPart_207 (by decide) rfl ?_
    refine r_aload_n (pc' := 211) C 0 rfl rfl dX13_packPart_210 rfl ?_
    refine r_getr (pc' := 214) (k := 73) (r := 106) C fl_X13_114 (by decide) kc_73 (by decide) fr_13_46 RV_73_46 dX13_packPart_211 rfl ?_
    refine r_iload (pc' := 216) C 10 rfl dX13_packPart_214 rfl ?_
    have o33 := h.1
    replace h := h.2
    refine r_iald (pc' := 217) (k := 106) C (by decide) kc_106 (by have := kl_106; omega) dX13_packPart_216 rfl (fun f34 => ?_)
    replace h := h f34
    refine r_iadd (pc' := 218) C dX13_packPart_217 rfl ?_
    have o35 := h.1
    replace h := h.2
    refine r_iald (pc' := 219) (k := 99) C (by decide) kc_99 (by have := kl_99; omega) dX13_packPart_218 rfl (fun f36 => ?_)
    replace h := h f36
    refine r_iadd (pc' := 220) C dX13_packPart_219 rfl ?_
    refine r_aload_n (pc' := 221) C 0 rfl rfl dX13_packPart_220 rfl ?_
    refine r_getr (pc' := 224) (k := 73) (r := 106) C fl_X13_114 (by decide) kc_73 (by decide) fr_13_46 RV_73_46 dX13_packPart_221 rfl ?_
    refine r_iload (pc' := 226) C 10 rfl dX13_packPart_224 rfl ?_
    refine r_iald (pc' := 227) (k := 106) C (by decide) kc_106 (by have := kl_106; omega) dX13_packPart_226 rfl (fun f37 => ?_)
    refine c_Si (pc' := 230) (mt := mX13_stepBits) (as := [.int (i32 (av 106 x10.toNat))]) (st := [.int (i32 (x9 + (av 99 (320 + (av 106 x10.toNat)).toNat)))]) C h rfl cl_X13_stepBits ml_X13_237 sm_X13_stepBits (by omega) (Nat.le_refl _) (Nat.le_refl _) rfl rfl (Nat.le_of_ble_eq_true rfl) dX13_packPart_227 rfl (fun r38 iv39 av40 f41 h => ?_)
    replace h := h f41
    refine r_iadd (pc' := 231) C dX13_packPart_230 rfl ?_
    refine r_istore (pc' := 233) (ls' := [(0, .ref (gl_b Y + 73)), (1, .ref (gl_b Y + a1)), (2, .int (i32 x2)), (3, .int (i32 x3)), (4, .int (i32 x4)), (5, .int (i32 x5)), (6, .int (i32 x6)), (7, .int (i32 x7)), (8, .int (i32 x8)), (9, .int (i32 ((x9 + (av 99 (320 + (av 106 x10.toNat)).toNat)) + r38))), (10, .int (i32 x10))]) C (by decide) rfl dX13_packPart_231 rfl ?_
    refine r_iinc (pc' := 236) (ls' := [(0, .ref (gl_b Y + 73)), (1, .ref (gl_b Y + a1)), (2, .int (i32 x2)), (3, .int (i32 x3)), (4, .int (i32 x4)), (5, .int (i32 x5)), (6, .int (i32 x6)), (7, .int (i32 x7)), (8, .int (i32 x8)), (9, .int (i32 ((x9 + (av 99 (320 + (av 106 x10.toNat)).toNat)) + r38))), (10, .int (i32 (x10 + 1)))]) C 10 rfl (by decide) rfl dX13_packPart_233 rfl ?_
    refine r_goto (tgt := 192) C dX13_packPart_236 (by decide) ?_
    exact Wa.sub [0, 1, 2, 3, 4, 5, 6, 7, 8, 9, 10] rfl h
set_option maxHeartbeats 4000000 in
set_option maxRecDepth 100000 in
theorem w_X13_packPart_140 {Y : Gl} {X : Cx} {e : Nat} {P : PN} {a1 : Nat} {x2 : Int} {x3 : Int} {x4 : Int} {x5 : Int} {x6 : Int} {x7 : Int} {x8 : Int} {iv av : IVt} (C : CX Y X RX13 "packPart" cX13_packPart 14 none (e + 18) 0 0) (Ka1 : ArrK 101 a1) (hx8 : InR x8) (h :
    ((x8 ≤ 4) →
      OkN Y (e + 17) mX13_bitsBy [.ref (gl_b Y + 73), .ref (gl_b Y + 99)] RV iv av 116 (fun r2 iv3 av4 =>
        (InR r2) →
        L_X13_packPart_192 Y X P a1 x2 x3 x4 x5 x6 x7 x8 ((17 + (3 * x8)) + r2) 0 iv3 av4
      )
    ) ∧
    ((¬ x8 ≤ 4) →
      (InR (x8 - 1)) ∧
      OkN Y (e + 17) mX13_smallOrder [.int (i32 (x8 - 1))] RV iv av 116 (fun r7 iv8 av9 =>
        (InR r7) →
        (0 ≤ (320 + r7) ∧ (320 + r7) < 339) ∧
        ((InR (av9 99 (320 + r7).toNat)) →
          ((¬ (av9 99 (320 + r7).toNat) = 0) →
            OkN Y (e + 17) mX13_bitsBy [.ref (gl_b Y + 73), .ref (gl_b Y + 99)] RV iv8 av9 116 (fun r14 iv15 av16 =>
              (InR r14) →
              L_X13_packPart_192 Y X P a1 x2 x3 x4 x5 x6 x7 x8 ((17 + (3 * x8)) + r14) 0 iv15 av16
            )
          ) ∧
          (((av9 99 (320 + r7).toNat) = 0) →
            L_X13_packPart_140 Y X P a1 x2 x3 x4 x5 x6 x7 (x8 + (-1)) iv8 av9
          )
        )
      )
    )) : L_X13_packPart_140 Y X P a1 x2 x3 x4 x5 x6 x7 x8 iv av := by
  obtain ⟨ha1c, ha1l⟩ := Ka1
  unfold L_X13_packPart_140
  refine r_iload (pc' := 142) C 8 rfl dX13_packPart_140 rfl ?_
  refine r_iconst (pc' := 143) C dX13_packPart_142 rfl ?_
  refine r_icmp_le (pc' := 146) (tgt := 171) C hx8 (by decide) dX13_packPart_143 (by decide) rfl (fun c1 => ?_) (fun c1 => ?_)
  · replace h := h.1 c1
    refine r_bipush (pc' := 173) C dX13_packPart_171 (by decide) rfl ?_
    refine r_iconst (pc' := 174) C dX13_packPart_173 rfl ?_
    refine r_iload (pc' := 176) C 8 rfl dX13_packPart_174 rfl ?_
    refine r_imul (pc' := 177) C dX13_packPart_176 rfl ?_
    refine r_iadd (pc' := 178) C dX13_packPart_177 rfl ?_
    refine r_aload_n (pc' := 179) C 0 rfl rfl dX13_packPart_178 rfl ?_
    refine r_aload_n (pc' := 180) C 0 rfl rfl dX13_packPart_179 rfl ?_
    refine r_getr (pc' := 183) (k := 73) (r := 99) C fl_X13_93 (by decide) kc_73 (by decide) fr_13_38 RV_73_38 dX13_packPart_180 rfl ?_
    refine c_Vi (pc' := 186) (mt := mX13_bitsBy) (as := [.ref (gl_b Y + 99)]) (st := [.int (i32 (17 + (3 * x8)))]) (k := 73) C h rfl cl_X13_bitsBy ml_X13_233 im_X13_bitsBy sl_X13_bitsBy (by omega) (Nat.le_refl _) (Nat.le_refl _) rfl (by decide) kc_73 (by decide) rfl rfl rfl (Nat.le_of_ble_eq_true rfl) dX13_packPart_183 rfl (fun r2 iv3 av4 f5 h => ?_)
    replace h := h f5
    refine r_iadd (pc' := 187) C dX13_packPart_186 rfl ?_
    refine r_istore (pc' := 189) (ls' := [(0, .ref (gl_b Y + 73)), (1, .ref (gl_b Y + a1)), (2, .int (i32 x2)), (3, .int (i32 x3)), (4, .int (i32 x4)), (5, .int (i32 x5)), (6, .int (i32 x6)), (7, .int (i32 x7)), (8, .int (i32 x8)), (9, .int (i32 ((17 + (3 * x8)) + r2)))]) C (by decide) rfl dX13_packPart_187 rfl ?_
    refine r_iconst (pc' := 190) C dX13_packPart_189 rfl ?_
    refine r_istore (pc' := 192) (ls' := [(0, .ref (gl_b Y + 73)), (1, .ref (gl_b Y + a1)), (2, .int (i32 x2)), (3, .int (i32 x3)), (4, .int (i32 x4)), (5, .int (i32 x5)), (6, .int (i32 x6)), (7, .int (i32 x7)), (8, .int (i32 x8)), (9, .int (i32 ((17 + (3 * x8)) + r2))), (10, .int (i32 0))]) C (by decide) rfl dX13_packPart_190 rfl ?_
    exact Wa.sub [0, 1, 2, 3, 4, 5, 6, 7, 8, 9, 10] rfl h
  · replace h := h.2 c1
    refine r_aload_n (pc' := 147) C 0 rfl rfl dX13_packPart_146 rfl ?_
    refine r_getr (pc' := 150) (k := 73) (r := 99) C fl_X13_93 (by decide) kc_73 (by decide) fr_13_38 RV_73_38 dX13_packPart_147 rfl ?_
    refine r_sipush (pc' := 153) C dX13_packPart_150 (by decide) rfl ?_
    refine r_iload (pc' := 155) C 8 rfl dX13_packPart_153 rfl ?_
    refine r_iconst (pc' := 156) C dX13_packPart_155 rfl ?_
    refine r_isub (pc' := 157) C dX13_packPart_156 rfl ?_
    have o6 := h.1
    replace h := h.2
    refine c_Si (pc' := 160) (mt := mX13_smallOrder) (as := [.int (i32 (x8 - 1))]) (st := [.int (i32 320), .ref (gl_b Y + 99)]) C h rfl cl_X13_smallOrder ml_X13_230 sm_X13_smallOrder (by omega) (Nat.le_refl _) (Nat.le_refl _) rfl rfl (Nat.le_of_ble_eq_true rfl) dX13_packPart_157 rfl (fun r7 iv8 av9 f10 h => ?_)
    replace h := h f10
    refine r_iadd (pc' := 161) C dX13_packPart_160 rfl ?_
    have o11 := h.1
    replace h := h.2
    refine r_iald (pc' := 162) (k := 99) C (by decide) kc_99 (by have := kl_99; omega) dX13_packPart_161 rfl (fun f12 => ?_)
    replace h := h f12
    refine r_if_ne (pc' := 165) (tgt := 171) C f12 dX13_packPart_162 (by decide) rfl (fun c13 => ?_) (fun c13 => ?_)
    · replace h := h.1 c13
      refine r_bipush (pc' := 173) C dX13_packPart_171 (by decide) rfl ?_
      refine r_iconst (pc' := 174) C dX13_packPart_173 rfl ?_
      refine r_iload (pc' := 176) C 8 rfl dX13_packPart_174 rfl ?_
      refine r_imul (pc' := 177) C dX13_packPart_176 rfl ?_
      refine r_iadd (pc' := 178) C dX13_packPart_177 rfl ?_
      refine r_aload_n (pc' := 179) C 0 rfl rfl dX13_packPart_178 rfl ?_
      refine r_aload_n (pc' := 180) C 0 rfl rfl dX13_packPart_179 rfl ?_
      refine r_getr (pc' := 183) (k := 73) (r := 99) C fl_X13_93 (by decide) kc_73 (by decide) fr_13_38 RV_73_38 dX13_packPart_180 rfl ?_
      refine c_Vi (pc' := 186) (mt := mX13_bitsBy) (as := [.ref (gl_b Y + 99)]) (st := [.int (i32 (17 + (3 * x8)))]) (k := 73) C h rfl cl_X13_bitsBy ml_X13_233 im_X13_bitsBy sl_X13_bitsBy (by omega) (Nat.le_refl _) (Nat.le_refl _) rfl (by decide) kc_73 (by decide) rfl rfl rfl (Nat.le_of_ble_eq_true rfl) dX13_packPart_183 rfl (fun r14 iv15 av16 f17 h => ?_)
      replace h := h f17
      refine r_iadd (pc' := 187) C dX13_packPart_186 rfl ?_
      refine r_istore (pc' := 189) (ls' := [(0, .ref (gl_b Y + 73)), (1, .ref (gl_b Y + a1)), (2, .int (i32 x2)), (3, .int (i32 x3)), (4, .int (i32 x4)), (5, .int (i32 x5)), (6, .int (i32 x6)), (7, .int (i32 x7)), (8, .int (i32 x8)), (9, .int (i32 ((17 + (3 * x8)) + r14)))]) C (by decide) rfl dX13_packPart_187 rfl ?_
      refine r_iconst (pc' := 190) C dX13_packPart_189 rfl ?_
      refine r_istore (pc' := 192) (ls' := [(0, .ref (gl_b Y + 73)), (1, .ref (gl_b Y + a1)), (2, .int (i32 x2)), (3, .int (i32 x3)), (4, .int (i32 x4)), (5, .int (i32 x5)), (6, .int (i32 x6)), (7, .int (i32 x7)), (8, .int (i32 x8)), (9, .int (i32 ((17 + (3 * x8)) + r14))), (10, .int (i32 0))]) C (by decide) rfl dX13_packPart_190 rfl ?_
      exact Wa.sub [0, 1, 2, 3, 4, 5, 6, 7, 8, 9, 10] rfl h
    · replace h := h.2 c13
      refine r_iinc (pc' := 168) (ls' := [(0, .ref (gl_b Y + 73)), (1, .ref (gl_b Y + a1)), (2, .int (i32 x2)), (3, .int (i32 x3)), (4, .int (i32 x4)), (5, .int (i32 x5)), (6, .int (i32 x6)), (7, .int (i32 x7)), (8, .int (i32 (x8 + (-1))))]) C 8 rfl (by decide) rfl dX13_packPart_165 rfl ?_
      refine r_goto (tgt := 140) C dX13_packPart_168 (by decide) ?_
      exact Wa.sub [0, 1, 2, 3, 4, 5, 6, 7, 8] rfl h
set_option maxHeartbeats 4000000 in
set_option maxRecDepth 100000 in
theorem w_X13_packPart_62 {Y : Gl} {X : Cx} {e : Nat} {P : PN} {a1 : Nat} {x2 : Int} {x3 : Int} {x4 : Int} {x5 : Int} {x6 : Int} {x7 : Int} {x8 : Int} {iv av : IVt} (C : CX Y X RX13 "packPart" cX13_packPart 14 none (e + 18) 0 0) (Ka1 : ArrK 101 a1) (hx6 : InR x6) (hx8 : InR x8) (h :
    (InR (x6 + x7)) ∧
    (((x6 + x7) ≤ x8) →
      OkN Y (e + 17) mX13_tellRow [.ref (gl_b Y + 73), .int (i32 (x6 + x7))] RV iv av 116 (fun r3 iv4 av5 =>
        OkN Y (e + 17) mX13_findLengths [.ref (gl_b Y + 73), .int (i32 320), .int (i32 19), .int (i32 7)] RV iv4 av5 116 (fun r7 iv8 av9 =>
          L_X13_packPart_140 Y X P a1 x2 x3 x4 x5 x6 x7 19 iv8 av9
        )
      )
    ) ∧
    ((¬ (x6 + x7) ≤ x8) →
      ((x6 ≤ x8) →
        (0 ≤ ((288 + x8) - x6) ∧ ((288 + x8) - x6) < 339) ∧
        ((InR (av 99 ((288 + x8) - x6).toNat)) →
          (0 ≤ x8 ∧ x8 < 320) ∧
          L_X13_packPart_62 Y X P a1 x2 x3 x4 x5 x6 x7 (x8 + 1) iv (up2 av 105 x8.toNat (av 99 ((288 + x8) - x6).toNat))
        )
      ) ∧
      ((¬ x6 ≤ x8) →
        (0 ≤ x8 ∧ x8 < 339) ∧
        ((InR (av 99 x8.toNat)) →
          (0 ≤ x8 ∧ x8 < 320) ∧
          L_X13_packPart_62 Y X P a1 x2 x3 x4 x5 x6 x7 (x8 + 1) iv (up2 av 105 x8.toNat (av 99 x8.toNat))
        )
      )
    )) : L_X13_packPart_62 Y X P a1 x2 x3 x4 x5 x6 x7 x8 iv av := by
  obtain ⟨ha1c, ha1l⟩ := Ka1
  unfold L_X13_packPart_62
  refine r_iload (pc' := 64) C 8 rfl dX13_packPart_62 rfl ?_
  refine r_iload (pc' := 66) C 6 rfl dX13_packPart_64 rfl ?_
  refine r_iload (pc' := 68) C 7 rfl dX13_packPart_66 rfl ?_
  refine r_iadd (pc' := 69) C dX13_packPart_68 rfl ?_
  have o1 := h.1
  replace h := h.2
  refine r_icmp_ge (pc' := 72) (tgt := 116) C hx8 o1 dX13_packPart_69 (by decide) rfl (fun c2 => ?_) (fun c2 => ?_)
  · replace h := h.1 c2
    refine r_aload_n (pc' := 117) C 0 rfl rfl dX13_packPart_116 rfl ?_
    refine r_iload (pc' := 119) C 6 rfl dX13_packPart_117 rfl ?_
    refine r_iload (pc' := 121) C 7 rfl dX13_packPart_119 rfl ?_
    refine r_iadd (pc' := 122) C dX13_packPart_121 rfl ?_
    refine c_Vv (pc' := 125) (mt := mX13_tellRow) (as := [.int (i32 (x6 + x7))]) (st := []) (k := 73) C h rfl cl_X13_tellRow ml_X13_227 im_X13_tellRow sl_X13_tellRow (by omega) (Nat.le_refl _) (Nat.le_refl _) rfl (by decide) kc_73 (by decide) rfl rfl rfl (Nat.le_of_ble_eq_true rfl) dX13_packPart_122 rfl (fun r3 iv4 av5 h => ?_)
    refine r_aload_n (pc' := 126) C 0 rfl rfl dX13_packPart_125 rfl ?_
    refine r_sipush (pc' := 129) C dX13_packPart_126 (by decide) rfl ?_
    refine r_bipush (pc' := 131) C dX13_packPart_129 (by decide) rfl ?_
    refine r_bipush (pc' := 133) C dX13_packPart_131 (by decide) rfl ?_
    refine c_Vv (pc' := 136) (mt := mX13_findLengths) (as := [.int (i32 320), .int (i32 19), .int (i32 7)]) (st := []) (k := 73) C h rfl cl_X13_findLengths ml_X13_220 im_X13_findLengths sl_X13_findLengths (by omega) (Nat.le_refl _) (Nat.le_refl _) rfl (by decide) kc_73 (by decide) rfl rfl rfl (Nat.le_of_ble_eq_true rfl) dX13_packPart_133 rfl (fun r7 iv8 av9 h => ?_)
    refine r_bipush (pc' := 138) C dX13_packPart_136 (by decide) rfl ?_
    refine r_istore (pc' := 140) (ls' := [(0, .ref (gl_b Y + 73)), (1, .ref (gl_b Y + a1)), (2, .int (i32 x2)), (3, .int (i32 x3)), (4, .int (i32 x4)), (5, .int (i32 x5)), (6, .int (i32 x6)), (7, .int (i32 x7)), (8, .int (i32 19))]) C (by decide) rfl dX13_packPart_138 rfl ?_
    exact Wa.sub [0, 1, 2, 3, 4, 5, 6, 7, 8] rfl h
  · replace h := h.2 c2
    refine r_aload_n (pc' := 73) C 0 rfl rfl dX13_packPart_72 rfl ?_
    refine r_getr (pc' := 76) (k := 73) (r := 105) C fl_X13_111 (by decide) kc_73 (by decide) fr_13_44 RV_73_44 dX13_packPart_73 rfl ?_
    refine r_iload (pc' := 78) C 8 rfl dX13_packPart_76 rfl ?_
    refine r_iload (pc' := 80) C 8 rfl dX13_packPart_78 rfl ?_
    refine r_iload (pc' := 82) C 6 rfl dX13_packPart_80 rfl ?_
    refine r_icmp_ge (pc' := 85) (tgt := 95) C hx8 hx6 dX13_packPart_82 (by decide) rfl (fun c11 => ?_) (fun c11 => ?_)
    · replace h := h.1 c11
      refine r_aload_n (pc' := 96) C 0 rfl rfl dX13_packPart_95 rfl ?_
      refine r_getr (pc' := 99) (k := 73) (r := 99) C fl_X13_93 (by decide) kc_73 (by decide) fr_13_38 RV_73_38 dX13_packPart_96 rfl ?_
      refine r_sipush (pc' := 102) C dX13_packPart_99 (by decide) rfl ?_
      refine r_iload (pc' := 104) C 8 rfl dX13_packPart_102 rfl ?_
      refine r_iadd (pc' := 105) C dX13_packPart_104 rfl ?_
      refine r_iload (pc' := 107) C 6 rfl dX13_packPart_105 rfl ?_
      refine r_isub (pc' := 108) C dX13_packPart_107 rfl ?_
      have o12 := h.1
      replace h := h.2
      refine r_iald (pc' := 109) (k := 99) C (by decide) kc_99 (by have := kl_99; omega) dX13_packPart_108 rfl (fun f13 => ?_)
      replace h := h f13
      have o14 := h.1
      replace h := h.2
      refine r_iast (pc' := 110) (k := 105) C (by decide) kc_105 (by have := kl_105; omega) f13 dX13_packPart_109 rfl ?_
      refine r_iinc (pc' := 113) (ls' := [(0, .ref (gl_b Y + 73)), (1, .ref (gl_b Y + a1)), (2, .int (i32 x2)), (3, .int (i32 x3)), (4, .int (i32 x4)), (5, .int (i32 x5)), (6, .int (i32 x6)), (7, .int (i32 x7)), (8, .int (i32 (x8 + 1)))]) C 8 rfl (by decide) rfl dX13_packPart_110 rfl ?_
      refine r_goto (tgt := 62) C dX13_packPart_113 (by decide) ?_
      exact Wa.sub [0, 1, 2, 3, 4, 5, 6, 7, 8] rfl h
    · replace h := h.2 c11
      refine r_aload_n (pc' := 86) C 0 rfl rfl dX13_packPart_85 rfl ?_
      refine r_getr (pc' := 89) (k := 73) (r := 99) C fl_X13_93 (by decide) kc_73 (by decide) fr_13_38 RV_73_38 dX13_packPart_86 rfl ?_
      refine r_iload (pc' := 91) C 8 rfl dX13_packPart_89 rfl ?_
      have o15 := h.1
      replace h := h.2
      refine r_iald (pc' := 92) (k := 99) C (by decide) kc_99 (by have := kl_99; omega) dX13_packPart_91 rfl (fun f16 => ?_)
      replace h := h f16
      refine r_goto (tgt := 109) C dX13_packPart_92 (by decide) ?_
      have o17 := h.1
      replace h := h.2
      refine r_iast (pc' := 110) (k := 105) C (by decide) kc_105 (by have := kl_105; omega) f16 dX13_packPart_109 rfl ?_
      refine r_iinc (pc' := 113) (ls' := [(0, .ref (gl_b Y + 73)), (1, .ref (gl_b Y + a1)), (2, .int (i32 x2)), (3, .int (i32 x3)), (4, .int (i32 x4)), (5, .int (i32 x5)), (6, .int (i32 x6)), (7, .int (i32 x7)), (8, .int (i32 (x8 + 1)))]) C 8 rfl (by decide) rfl dX13_packPart_110 rfl ?_
      refine r_goto (tgt := 62) C dX13_packPart_113 (by decide) ?_
      exact Wa.sub [0, 1, 2, 3, 4, 5, 6, 7, 8] rfl h
set_option maxHeartbeats 4000000 in
set_option maxRecDepth 100000 in
theorem o_X13_packPart {Y : Gl} {e : Nat} {P : PN} {a1 : Nat} {x2 : Int} {x3 : Int} {x4 : Int} {x5 : Int} {iv av : IVt} (Ka1 : ArrK 101 a1) (hx2 : InR x2) (hx3 : InR x3) (hx4 : InR x4) (h : ∀ X : Cx, CX Y X RX13 "packPart" cX13_packPart 14 none (e + 18) 0 0 →
    OkN Y (e + 17) mX13_cutPart [.ref (gl_b Y + 73), .ref (gl_b Y + a1), .int (i32 x2), .int (i32 x3), .int (i32 x4)] RV iv av 116 (fun r1 iv2 av3 =>
      OkN Y (e + 17) mX13_countTokens [.ref (gl_b Y + 73)] RV iv2 av3 116 (fun r5 iv6 av7 =>
        OkN Y (e + 17) mX13_findLengths [.ref (gl_b Y + 73), .int (i32 0), .int (i32 288), .int (i32 15)] RV iv6 av7 116 (fun r9 iv10 av11 =>
          OkN Y (e + 17) mX13_findLengths [.ref (gl_b Y + 73), .int (i32 288), .int (i32 32), .int (i32 15)] RV iv10 av11 116 (fun r13 iv14 av15 =>
            OkN Y (e + 17) mX13_needed [.ref (gl_b Y + 73), .int (i32 0), .int (i32 286), .int (i32 257)] RV iv14 av15 116 (fun r17 iv18 av19 =>
              (InR r17) →
              OkN Y (e + 17) mX13_needed [.ref (gl_b Y + 73), .int (i32 288), .int (i32 30), .int (i32 1)] RV iv18 av19 116 (fun r21 iv22 av23 =>
                (InR r21) →
                L_X13_packPart_62 Y X P a1 x2 x3 x4 x5 r17 r21 0 iv22 av23
              )
            )
          )
        )
      )
    )) : OkN Y (e + 18) mX13_packPart [.ref (gl_b Y + 73), .ref (gl_b Y + a1), .int (i32 x2), .int (i32 x3), .int (i32 x4), .int (i32 x5)] RV iv av 116 P := by
  obtain ⟨ha1c, ha1l⟩ := Ka1
  refine OkW.of rfl (by show _ ≤ 14; exact Nat.le_of_ble_eq_true rfl) fun X C0 hR => ?_
  have C : CX Y X RX13 "packPart" cX13_packPart 14 none (e + 18) 0 0 := C0
  replace h := h X C
  show Wa Y X 14 (g_MQ Y X 0 (g_N RV 116 P) 0 0) 0 0 0 [(0, .ref (gl_b Y + 73)), (1, .ref (gl_b Y + a1)), (2, .int (i32 x2)), (3, .int (i32 x3)), (4, .int (i32 x4)), (5, .int (i32 x5))] [] RV iv av 116
  refine r_aload_n (pc' := 1) C 0 rfl rfl dX13_packPart_0 rfl ?_
  refine r_aload_n (pc' := 2) C 1 rfl rfl dX13_packPart_1 rfl ?_
  refine r_iload_n (pc' := 3) C 2 rfl rfl dX13_packPart_2 rfl ?_
  refine r_iload_n (pc' := 4) C 3 rfl rfl dX13_packPart_3 rfl ?_
  refine r_iload (pc' := 6) C 4 rfl dX13_packPart_4 rfl ?_
  refine c_Vv (pc' := 9) (mt := mX13_cutPart) (as := [.ref (gl_b Y + a1), .int (i32 x2), .int (i32 x3), .int (i32 x4)]) (st := []) (k := 73) C h rfl cl_X13_cutPart ml_X13_213 im_X13_cutPart sl_X13_cutPart (by omega) (Nat.le_refl _) (Nat.le_refl _) rfl (by decide) kc_73 (by decide) rfl rfl rfl (Nat.le_of_ble_eq_true rfl) dX13_packPart_6 rfl (fun r1 iv2 av3 h => ?_)
  refine r_aload_n (pc' := 10) C 0 rfl rfl dX13_packPart_9 rfl ?_
  refine c_Vv (pc' := 13) (mt := mX13_countTokens) (as := []) (st := []) (k := 73) C h rfl cl_X13_countTokens ml_X13_217 im_X13_countTokens sl_X13_countTokens (by omega) (Nat.le_refl _) (Nat.le_refl _) rfl (by decide) kc_73 (by decide) rfl rfl rfl (Nat.le_of_ble_eq_true rfl) dX13_packPart_10 rfl (fun r5 iv6 av7 h => ?_)
  refine r_aload_n (pc' := 14) C 0 rfl rfl dX13_packPart_13 rfl ?_
  refine r_iconst (pc' := 15) C dX13_packPart_14 rfl ?_
  refine r_sipush (pc' := 18) C dX13_packPart_15 (by decide) rfl ?_
  refine r_bipush (pc' := 20) C dX13_packPart_18 (by decide) rfl ?_
  refine c_Vv (pc' := 23) (mt := mX13_findLengths) (as := [.int (i32 0), .int (i32 288), .int (i32 15)]) (st := []) (k := 73) C h rfl cl_X13_findLengths ml_X13_220 im_X13_findLengths sl_X13_findLengths (by omega) (Nat.le_refl _) (Nat.le_refl _) rfl (by decide) kc_73 (by decide) rfl rfl rfl (Nat.le_of_ble_eq_true rfl) dX13_packPart_20 rfl (fun r9 iv10 av11 h => ?_)
  refine r_aload_n (pc' := 24) C 0 rfl rfl dX13_packPart_23 rfl ?_
  refine r_sipush (pc' := 27) C dX13_packPart_24 (by decide) rfl ?_
  refine r_bipush (pc' := 29) C dX13_packPart_27 (by decide) rfl ?_
  refine r_bipush (pc' := 31) C dX13_packPart_29 (by decide) rfl ?_
  refine c_Vv (pc' := 34) (mt := mX13_findLengths) (as := [.int (i32 288), .int (i32 32), .int (i32 15)]) (st := []) (k := 73) C h rfl cl_X13_findLengths ml_X13_220 im_X13_findLengths sl_X13_findLengths (by omega) (Nat.le_refl _) (Nat.le_refl _) rfl (by decide) kc_73 (by decide) rfl rfl rfl (Nat.le_of_ble_eq_true rfl) dX13_packPart_31 rfl (fun r13 iv14 av15 h => ?_)
  refine r_aload_n (pc' := 35) C 0 rfl rfl dX13_packPart_34 rfl ?_
  refine r_iconst (pc' := 36) C dX13_packPart_35 rfl ?_
  refine r_sipush (pc' := 39) C dX13_packPart_36 (by decide) rfl ?_
  refine r_sipush (pc' := 42) C dX13_packPart_39 (by decide) rfl ?_
  refine c_Vi (pc' := 45) (mt := mX13_needed) (as := [.int (i32 0), .int (i32 286), .int (i32 257)]) (st := []) (k := 73) C h rfl cl_X13_needed ml_X13_223 im_X13_needed sl_X13_needed (by omega) (Nat.le_refl _) (Nat.le_refl _) rfl (by decide) kc_73 (by decide) rfl rfl rfl (Nat.le_of_ble_eq_true rfl) dX13_packPart_42 rfl (fun r17 iv18 av19 f20 h => ?_)
  replace h := h f20
  refine r_istore (pc' := 47) (ls' := [(0, .ref (gl_b Y + 73)), (1, .ref (gl_b Y + a1)), (2, .int (i32 x2)), (3, .int (i32 x3)), (4, .int (i32 x4)), (5, .int (i32 x5)), (6, .int (i32 r17))]) C (by decide) rfl dX13_packPart_45 rfl ?_
  refine r_aload_n (pc' := 48) C 0 rfl rfl dX13_packPart_47 rfl ?_
  refine r_sipush (pc' := 51) C dX13_packPart_48 (by decide) rfl ?_
  refine r_bipush (pc' := 53) C dX13_packPart_51 (by decide) rfl ?_
  refine r_iconst (pc' := 54) C dX13_packPart_53 rfl ?_
  refine c_Vi (pc' := 57) (mt := mX13_needed) (as := [.int (i32 288), .int (i32 30), .int (i32 1)]) (st := []) (k := 73) C h rfl cl_X13_needed ml_X13_223 im_X13_needed sl_X13_needed (by omega) (Nat.le_refl _) (Nat.le_refl _) rfl (by decide) kc_73 (by decide) rfl rfl rfl (Nat.le_of_ble_eq_true rfl) dX13_packPart_54 rfl (fun r21 iv22 av23 f24 h => ?_)
  replace h := h f24
  refine r_istore (pc' := 59) (ls' := [(0, .ref (gl_b Y + 73)), (1, .ref (gl_b Y + a1)), (2, .int (i32 x2)), (3, .int (i32 x3)), (4, .int (i32 x4)), (5, .int (i32 x5)), (6, .int (i32 r17)), (7, .int (i32 r21))]) C (by decide) rfl dX13_packPart_57 rfl ?_
  refine r_iconst (pc' := 60) C dX13_packPart_59 rfl ?_
  refine r_istore (pc' := 62) (ls' := [(0, .ref (gl_b Y + 73)), (1, .ref (gl_b Y + a1)), (2, .int (i32 x2)), (3, .int (i32 x3)), (4, .int (i32 x4)), (5, .int (i32 x5)), (6, .int (i32 r17)), (7, .int (i32 r21)), (8, .int (i32 0))]) C (by decide) rfl dX13_packPart_60 rfl ?_
  exact Wa.sub [0, 1, 2, 3, 4, 5, 6, 7, 8] rfl h
def L_X13_endByte_0 (Y : Gl) (X : Cx) (P : PN) (iv av : IVt) : Prop := Wa Y X 1 (g_MQ Y X 0 (g_N RV 116 P) 0 0) 0 0 0 [(0, .ref (gl_b Y + 73))] [] RV iv av 116
set_option maxHeartbeats 4000000 in
set_option maxRecDepth 100000 in
theorem w_X13_endByte_0 {Y : Gl} {X : Cx} {e : Nat} {P : PN} {iv av : IVt} (C : CX Y X RX13 "endByte" cX13_endByte 1 none (e + 1) 0 0) (h :
    ((InR (iv 73 31)) →
      (0 ≤ (iv 73 31)) ∧
      ((((iv 73 31) % 8) = 0) →
        P 0 iv av
      ) ∧
      ((¬ ((iv 73 31) % 8) = 0) →
        OkN Y e mX13_writeBit [.ref (gl_b Y + 73), .int (i32 0)] RV iv av 116 (fun r4 iv5 av6 =>
          L_X13_endByte_0 Y X P iv5 av6
        )
      )
    )) : L_X13_endByte_0 Y X P iv av := by
  unfold L_X13_endByte_0
  refine r_aload_n (pc' := 1) C 0 rfl rfl dX13_endByte_0 rfl ?_
  refine r_geti (pc' := 4) (k := 73) C fl_X13_167 (by decide) kc_73 (by decide) fr_13_31 dX13_endByte_1 rfl (fun f1 => ?_)
  replace h := h f1
  refine r_bipush (pc' := 6) C dX13_endByte_4 (by decide) rfl ?_
  have o2 := h.1
  replace h := h.2
  refine r_irem (pc' := 7) C ⟨o2, f1⟩ ⟨(by decide), (by decide)⟩ dX13_endByte_6 rfl ?_
  refine r_if_eq (pc' := 10) (tgt := 18) C (by omega) dX13_endByte_7 (by decide) rfl (fun c3 => ?_) (fun c3 => ?_)
  · replace h := h.1 c3
    exact r_vret C ⟨rfl, rfl, h⟩ dX13_endByte_18
  · replace h := h.2 c3
    refine r_aload_n (pc' := 11) C 0 rfl rfl dX13_endByte_10 rfl ?_
    refine r_iconst (pc' := 12) C dX13_endByte_11 rfl ?_
    refine c_Vv (pc' := 15) (mt := mX13_writeBit) (as := [.int (i32 0)]) (st := []) (k := 73) C h rfl cl_X13_writeBit ml_X13_170 im_X13_writeBit sl_X13_writeBit (by omega) (Nat.le_refl _) (Nat.le_refl _) rfl (by decide) kc_73 (by decide) rfl rfl rfl (Nat.le_of_ble_eq_true rfl) dX13_endByte_12 rfl (fun r4 iv5 av6 h => ?_)
    refine r_goto (tgt := 0) C dX13_endByte_15 (by decide) ?_
    exact Wa.sub [0] rfl h
set_option maxHeartbeats 4000000 in
set_option maxRecDepth 100000 in
theorem o_X13_endByte {Y : Gl} {e : Nat} {P : PN} {iv av : IVt} (h : ∀ X : Cx, CX Y X RX13 "endByte" cX13_endByte 1 none (e + 1) 0 0 →
    L_X13_endByte_0 Y X P iv av) : OkN Y (e + 1) mX13_endByte [.ref (gl_b Y + 73)] RV iv av 116 P := by
  refine OkW.of rfl (by show _ ≤ 1; exact Nat.le_of_ble_eq_true rfl) fun X C0 hR => ?_
  have C : CX Y X RX13 "endByte" cX13_endByte 1 none (e + 1) 0 0 := C0
  replace h := h X C
  show Wa Y X 1 (g_MQ Y X 0 (g_N RV 116 P) 0 0) 0 0 0 [(0, .ref (gl_b Y + 73))] [] RV iv av 116
  exact Wa.sub [0] rfl h
def L_X13_checkOf_8 (Y : Gl) (X : Cx) (P : PN) (a0 : Nat) (x1 : Int) (x2 : Int) (x3 : Int) (x5 : Int) (x7 : Int) (iv av : IVt) : Prop := Wa Y X 8 (g_MQ Y X 2 (g_N RV 116 P) 0 0) 0 0 8 [(0, .ref (gl_b Y + a0)), (1, .int (i32 x1)), (2, .int (i32 x2)), (3, .long (i64 x3)), (5, .long (i64 x5)), (7, .int (i32 x7))] [] RV iv av 116
set_option maxHeartbeats 4000000 in
set_option maxRecDepth 100000 in
theorem w_X13_checkOf_8 {Y : Gl} {X : Cx} {e : Nat} {P : PN} {a0 : Nat} {x1 : Int} {x2 : Int} {x3 : Int} {x5 : Int} {x7 : Int} {iv av : IVt} (C : CX Y X RX13 "checkOf" cX13_checkOf 8 (some .long) e 0 0) (Ka0 : ArrK 101 a0) (hx7 : InR x7) (h :
    (InR (x1 + x2)) ∧
    (((x1 + x2) ≤ x7) →
      (InL ((65536 * x5) + x3)) ∧
      P ((65536 * x5) + x3) iv av
    ) ∧
    ((¬ (x1 + x2) ≤ x7) →
      (0 ≤ x7 ∧ x7 < (kl a0 : Int)) ∧
      ((-128 ≤ (av a0 x7.toNat) ∧ (av a0 x7.toNat) ≤ 127) →
        (InL (x3 + ((av a0 x7.toNat) % 256))) ∧
        (0 ≤ (x3 + ((av a0 x7.toNat) % 256))) ∧
        (InL (x5 + ((x3 + ((av a0 x7.toNat) % 256)) % 65521))) ∧
        (0 ≤ (x5 + ((x3 + ((av a0 x7.toNat) % 256)) % 65521))) ∧
        L_X13_checkOf_8 Y X P a0 x1 x2 ((x3 + ((av a0 x7.toNat) % 256)) % 65521) ((x5 + ((x3 + ((av a0 x7.toNat) % 256)) % 65521)) % 65521) (x7 + 1) iv av
      )
    )) : L_X13_checkOf_8 Y X P a0 x1 x2 x3 x5 x7 iv av := by
  obtain ⟨ha0c, ha0l⟩ := Ka0
  unfold L_X13_checkOf_8
  refine r_iload (pc' := 10) C 5 rfl dX13_checkOf_8 rfl ?_
  refine r_iload_n (pc' := 11) C 1 rfl rfl dX13_checkOf_10 rfl ?_
  refine r_iload_n (pc' := 12) C 2 rfl rfl dX13_checkOf_11 rfl ?_
  refine r_iadd (pc' := 13) C dX13_checkOf_12 rfl ?_
  have o1 := h.1
  replace h := h.2
  refine r_icmp_ge (pc' := 16) (tgt := 48) C hx7 o1 dX13_checkOf_13 (by decide) rfl (fun c2 => ?_) (fun c2 => ?_)
  · replace h := h.1 c2
    refine r_ldc2 (pc' := 51) (x := 65536) C ct_X13_253 (by decide) dX13_checkOf_48 rfl ?_
    refine r_lload (pc' := 53) C 4 rfl dX13_checkOf_51 rfl ?_
    refine r_lmul (pc' := 54) C dX13_checkOf_53 rfl ?_
    refine r_lload_n (pc' := 55) C 3 rfl rfl dX13_checkOf_54 rfl ?_
    refine r_ladd (pc' := 56) C dX13_checkOf_55 rfl ?_
    have o3 := h.1
    replace h := h.2
    exact r_lret C o3 ⟨rfl, rfl, h⟩ dX13_checkOf_56
  · replace h := h.2 c2
    refine r_lload_n (pc' := 17) C 3 rfl rfl dX13_checkOf_16 rfl ?_
    refine r_aload_n (pc' := 18) C 0 rfl rfl dX13_checkOf_17 rfl ?_
    refine r_iload (pc' := 20) C 5 rfl dX13_checkOf_18 rfl ?_
    have o4 := h.1
    replace h := h.2
    refine r_bald (pc' := 21) (k := a0) C (by omega) ha0c o4 dX13_checkOf_20 rfl (fun f5 => ?_)
    replace h := h f5
    refine r_sipush (pc' := 24) C dX13_checkOf_21 (by decide) rfl ?_
    refine r_iandM (pc' := 25) (m := 256) C 8 (by decide) (by decide) (by decide) dX13_checkOf_24 rfl ?_
    refine r_i2l (pc' := 26) C (by omega) dX13_checkOf_25 rfl ?_
    refine r_ladd (pc' := 27) C dX13_checkOf_26 rfl ?_
    refine r_ldc2 (pc' := 30) (x := 65521) C ct_X13_251 (by decide) dX13_checkOf_27 rfl ?_
    have o6 := h.1
    replace h := h.2
    have o7 := h.1
    replace h := h.2
    refine r_lrem (pc' := 31) C ⟨o7, o6⟩ ⟨(by decide), (by decide)⟩ dX13_checkOf_30 rfl ?_
    refine r_lstore_n (pc' := 32) (ls' := [(0, .ref (gl_b Y + a0)), (1, .int (i32 x1)), (2, .int (i32 x2)), (3, .long (i64 ((x3 + ((av a0 x7.toNat) % 256)) % 65521))), (5, .long (i64 x5)), (7, .int (i32 x7))]) C (by decide) rfl rfl dX13_checkOf_31 rfl ?_
    refine r_lload (pc' := 34) C 4 rfl dX13_checkOf_32 rfl ?_
    refine r_lload_n (pc' := 35) C 3 rfl rfl dX13_checkOf_34 rfl ?_
    refine r_ladd (pc' := 36) C dX13_checkOf_35 rfl ?_
    refine r_ldc2 (pc' := 39) (x := 65521) C ct_X13_251 (by decide) dX13_checkOf_36 rfl ?_
    have o8 := h.1
    replace h := h.2
    have o9 := h.1
    replace h := h.2
    refine r_lrem (pc' := 40) C ⟨o9, o8⟩ ⟨(by decide), (by decide)⟩ dX13_checkOf_39 rfl ?_
    refine r_lstore (pc' := 42) (ls' := [(0, .ref (gl_b Y + a0)), (1, .int (i32 x1)), (2, .int (i32 x2)), (3, .long (i64 ((x3 + ((av a0 x7.toNat) % 256)) % 65521))), (5, .long (i64 ((x5 + ((x3 + ((av a0 x7.toNat) % 256)) % 65521)) % 65521))), (7, .int (i32 x7))]) C (by decide) rfl dX13_checkOf_40 rfl ?_
    refine r_iinc (pc' := 45) (ls' := [(0, .ref (gl_b Y + a0)), (1, .int (i32 x1)), (2, .int (i32 x2)), (3, .long (i64 ((x3 + ((av a0 x7.toNat) % 256)) % 65521))), (5, .long (i64 ((x5 + ((x3 + ((av a0 x7.toNat) % 256)) % 65521)) % 65521))), (7, .int (i32 (x7 + 1)))]) C 5 rfl (by decide) rfl dX13_checkOf_42 rfl ?_
    refine r_goto (tgt := 8) C dX13_checkOf_45 (by decide) ?_
    exact Wa.sub [0, 1, 2, 3, 4, 5] rfl h
set_option maxHeartbeats 4000000 in
set_option maxRecDepth 100000 in
theorem o_X13_checkOf {Y : Gl} {e : Nat} {P : PN} {a0 : Nat} {x1 : Int} {x2 : Int} {iv av : IVt} (Ka0 : ArrK 101 a0) (h : ∀ X : Cx, CX Y X RX13 "checkOf" cX13_checkOf 8 (some .long) e 0 0 →
    L_X13_checkOf_8 Y X P a0 x1 x2 1 0 x1 iv av) : OkN Y e mX13_checkOf [.ref (gl_b Y + a0), .int (i32 x1), .int (i32 x2)] RV iv av 116 P := by
  obtain ⟨ha0c, ha0l⟩ := Ka0
  refine OkW.of rfl (by show _ ≤ 8; exact Nat.le_of_ble_eq_true rfl) fun X C0 hR => ?_
  have C : CX Y X RX13 "checkOf" cX13_checkOf 8 (some .long) e 0 0 := C0
  replace h := h X C
  show Wa Y X 8 (g_MQ Y X 2 (g_N RV 116 P) 0 0) 0 0 0 [(0, .ref (gl_b Y + a0)), (1, .int (i32 x1)), (2, .int (i32 x2))] [] RV iv av 116
  refine r_lconst (pc' := 1) (x := 1) C dX13_checkOf_0 rfl rfl ?_
  refine r_lstore_n (pc' := 2) (ls' := [(0, .ref (gl_b Y + a0)), (1, .int (i32 x1)), (2, .int (i32 x2)), (3, .long (i64 1))]) C (by decide) rfl rfl dX13_checkOf_1 rfl ?_
  refine r_lconst (pc' := 3) (x := 0) C dX13_checkOf_2 rfl rfl ?_
  refine r_lstore (pc' := 5) (ls' := [(0, .ref (gl_b Y + a0)), (1, .int (i32 x1)), (2, .int (i32 x2)), (3, .long (i64 1)), (5, .long (i64 0))]) C (by decide) rfl dX13_checkOf_3 rfl ?_
  refine r_iload_n (pc' := 6) C 1 rfl rfl dX13_checkOf_5 rfl ?_
  refine r_istore (pc' := 8) (ls' := [(0, .ref (gl_b Y + a0)), (1, .int (i32 x1)), (2, .int (i32 x2)), (3, .long (i64 1)), (5, .long (i64 0)), (7, .int (i32 x1))]) C (by decide) rfl dX13_checkOf_6 rfl ?_
  exact Wa.sub [0, 1, 2, 3, 4, 5] rfl h
def L_X13_pack_35 (Y : Gl) (X : Cx) (P : PN) (a1 : Nat) (x2 : Int) (x3 : Int) (x4 : Int) (x5 : Int) (iv av : IVt) : Prop := Wa Y X 9 (g_MQ Y X 1 (g_N RV 116 P) 0 0) 0 0 35 [(0, .ref (gl_b Y + 73)), (1, .ref (gl_b Y + a1)), (2, .int (i32 x2)), (3, .int (i32 x3)), (4, .int (i32 x4)), (5, .int (i32 x5))] [] RV iv av 116
def L_X13_pack_110 (Y : Gl) (X : Cx) (P : PN) (a1 : Nat) (x6 : Int) (x8 : Int) (iv av : IVt) : Prop := Wa Y X 9 (g_MQ Y X 1 (g_N RV 116 P) 0 0) 0 0 110 [(0, .ref (gl_b Y + 73)), (6, .long (i64 x6)), (8, .int (i32 x8))] [] RV iv av 116
set_option maxHeartbeats 4000000 in
set_option maxRecDepth 100000 in
theorem w_X13_pack_110 {Y : Gl} {X : Cx} {e : Nat} {P : PN} {a1 : Nat} {x6 : Int} {x8 : Int} {iv av : IVt} (C : CX Y X RX13 "pack" cX13_pack 9 (some .int) (e + 19) 0 0) (Ka1 : ArrK 101 a1) (hx6 : InL x6) (hx8 : InR x8) (h :
    ((x8 < 0) →
      ((InR (iv 73 31)) →
        (0 ≤ (iv 73 31)) ∧
        P ((iv 73 31) / 8) iv av
      )
    ) ∧
    ((¬ x8 < 0) →
      (0 ≤ x8 ∧ x8 ≤ 63) ∧
      (InR ((x6 / 2 ^ x8.toNat) % 256)) ∧
      OkN Y (e + 18) mX13_writeNumber [.ref (gl_b Y + 73), .int (i32 ((x6 / 2 ^ x8.toNat) % 256)), .int (i32 8)] RV iv av 116 (fun r6 iv7 av8 =>
        L_X13_pack_110 Y X P a1 x6 (x8 + (-8)) iv7 av8
      )
    )) : L_X13_pack_110 Y X P a1 x6 x8 iv av := by
  obtain ⟨ha1c, ha1l⟩ := Ka1
  unfold L_X13_pack_110
  refine r_iload (pc' := 112) C 2 rfl dX13_pack_110 rfl ?_
  refine r_if_lt (pc' := 115) (tgt := 137) C hx8 dX13_pack_112 (by decide) rfl (fun c1 => ?_) (fun c1 => ?_)
  · replace h := h.1 c1
    refine r_aload_n (pc' := 138) C 0 rfl rfl dX13_pack_137 rfl ?_
    refine r_geti (pc' := 141) (k := 73) C fl_X13_167 (by decide) kc_73 (by decide) fr_13_31 dX13_pack_138 rfl (fun f2 => ?_)
    replace h := h f2
    refine r_bipush (pc' := 143) C dX13_pack_141 (by decide) rfl ?_
    have o3 := h.1
    replace h := h.2
    refine r_idiv (pc' := 144) C ⟨o3, f2⟩ ⟨(by decide), (by decide)⟩ dX13_pack_143 rfl ?_
    exact r_iret C (by omega) ⟨rfl, rfl, h⟩ dX13_pack_144
  · replace h := h.2 c1
    refine r_aload_n (pc' := 116) C 0 rfl rfl dX13_pack_115 rfl ?_
    refine r_lload (pc' := 118) C 1 rfl dX13_pack_116 rfl ?_
    refine r_iload (pc' := 120) C 2 rfl dX13_pack_118 rfl ?_
    have o4 := h.1
    replace h := h.2
    refine r_lshr (pc' := 121) C hx6 o4 dX13_pack_120 rfl ?_
    refine r_ldc2 (pc' := 124) (x := 255) C ct_X13_267 (by decide) dX13_pack_121 rfl ?_
    refine r_landM (pc' := 125) (m := 256) C 8 (by decide) (by decide) (by decide) dX13_pack_124 rfl ?_
    refine r_l2i (pc' := 126) C dX13_pack_125 rfl ?_
    refine r_bipush (pc' := 128) C dX13_pack_126 (by decide) rfl ?_
    have o5 := h.1
    replace h := h.2
    refine c_Vv (pc' := 131) (mt := mX13_writeNumber) (as := [.int (i32 ((x6 / 2 ^ x8.toNat) % 256)), .int (i32 8)]) (st := []) (k := 73) C h rfl cl_X13_writeNumber ml_X13_210 im_X13_writeNumber sl_X13_writeNumber (by omega) (Nat.le_refl _) (Nat.le_refl _) rfl (by decide) kc_73 (by decide) rfl rfl rfl (Nat.le_of_ble_eq_true rfl) dX13_pack_128 rfl (fun r6 iv7 av8 h => ?_)
    refine r_iinc (pc' := 134) (ls' := [(0, .ref (gl_b Y + 73)), (6, .long (i64 x6)), (8, .int (i32 (x8 + (-8))))]) C 2 rfl (by decide) rfl dX13_pack_131 rfl ?_
    refine r_goto (tgt := 110) C dX13_pack_134 (by decide) ?_
    exact Wa.sub [0, 1, 2] rfl h
set_option maxHeartbeats 4000000 in
set_option maxRecDepth 100000 in
theorem w_X13_pack_35 {Y : Gl} {X : Cx} {e : Nat} {P : PN} {a1 : Nat} {x2 : Int} {x3 : Int} {x4 : Int} {x5 : Int} {iv av : IVt} (C : CX Y X RX13 "pack" cX13_pack 9 (some .int) (e + 19) 0 0) (Ka1 : ArrK 101 a1) (hx2 : InR x2) (hx3 : InR x3) (hx4 : InR x4) (hx5 : InR x5) (h :
    ((¬ x5 = 0) →
      OkN Y (e + 18) mX13_endByte [.ref (gl_b Y + 73)] RV iv av 116 (fun r2 iv3 av4 =>
        OkN Y (e + 18) mX13_checkOf [.ref (gl_b Y + a1), .int (i32 x2), .int (i32 x3)] RV iv3 av4 116 (fun r6 iv7 av8 =>
          (InL r6) →
          L_X13_pack_110 Y X P a1 r6 24 iv7 av8
        )
      )
    ) ∧
    ((x5 = 0) →
      (InR (x4 + 4096)) ∧
      ((x3 ≤ (x4 + 4096)) →
        ((¬ x3 = x3) →
          OkN Y (e + 18) mX13_packPart [.ref (gl_b Y + 73), .ref (gl_b Y + a1), .int (i32 x2), .int (i32 x4), .int (i32 x3), .int (i32 0)] RV iv av 116 (fun r13 iv14 av15 =>
            L_X13_pack_35 Y X P a1 x2 x3 x3 0 iv14 av15
          )
        ) ∧
        ((x3 = x3) →
          OkN Y (e + 18) mX13_packPart [.ref (gl_b Y + 73), .ref (gl_b Y + a1), .int (i32 x2), .int (i32 x4), .int (i32 x3), .int (i32 1)] RV iv av 116 (fun r17 iv18 av19 =>
            L_X13_pack_35 Y X P a1 x2 x3 x3 1 iv18 av19
          )
        )
      ) ∧
      ((¬ x3 ≤ (x4 + 4096)) →
        ((¬ (x4 + 4096) = x3) →
          OkN Y (e + 18) mX13_packPart [.ref (gl_b Y + 73), .ref (gl_b Y + a1), .int (i32 x2), .int (i32 x4), .int (i32 (x4 + 4096)), .int (i32 0)] RV iv av 116 (fun r22 iv23 av24 =>
            L_X13_pack_35 Y X P a1 x2 x3 (x4 + 4096) 0 iv23 av24
          )
        ) ∧
        (((x4 + 4096) = x3) →
          OkN Y (e + 18) mX13_packPart [.ref (gl_b Y + 73), .ref (gl_b Y + a1), .int (i32 x2), .int (i32 x4), .int (i32 (x4 + 4096)), .int (i32 1)] RV iv av 116 (fun r26 iv27 av28 =>
            L_X13_pack_35 Y X P a1 x2 x3 (x4 + 4096) 1 iv27 av28
          )
        )
      )
    )) : L_X13_pack_35 Y X P a1 x2 x3 x4 x5 iv av := by
  obtain ⟨ha1c, ha1l⟩ := Ka1
  unfold L_X13_pack_35
  refine r_iload (pc' := 37) C 5 rfl dX13_pack_35 rfl ?_
  refine r_if_ne (pc' := 40) (tgt := 94) C hx5 dX13_pack_37 (by decide) rfl (fun c1 => ?_) (fun c1 => ?_)
  · replace h := h.1 c1
    refine r_aload_n (pc' := 95) C 0 rfl rfl dX13_pack_94 rfl ?_
    refine c_Vv (pc' := 98) (mt := mX13_endByte) (as := []) (st := []) (k := 73) C h rfl cl_X13_endByte ml_X13_243 im_X13_endByte sl_X13_endByte (by omega) (Nat.le_refl _) (Nat.le_refl _) rfl (by decide) kc_73 (by decide) rfl rfl rfl (Nat.le_of_ble_eq_true rfl) dX13_pack_95 rfl (fun r2 iv3 av4 h => ?_)
    refine r_aload_n (pc' := 99) C 1 rfl rfl dX13_pack_98 rfl ?_
    refine r_iload_n (pc' := 100) C 2 rfl rfl dX13_pack_99 rfl ?_
    refine r_iload_n (pc' := 101) C 3 rfl rfl dX13_pack_100 rfl ?_
    refine c_Sl (pc' := 104) (mt := mX13_checkOf) (as := [.ref (gl_b Y + a1), .int (i32 x2), .int (i32 x3)]) (st := []) C h rfl cl_X13_checkOf ml_X13_263 sm_X13_checkOf (by omega) (Nat.le_refl _) (Nat.le_refl _) rfl rfl (Nat.le_of_ble_eq_true rfl) dX13_pack_101 rfl (fun r6 iv7 av8 f9 h => ?_)
    replace h := h f9
    refine r_lstore (pc' := 106) (ls' := [(0, .ref (gl_b Y + 73)), (1, .ref (gl_b Y + a1)), (2, .int (i32 x2)), (3, .int (i32 x3)), (4, .int (i32 x4)), (5, .int (i32 x5)), (6, .long (i64 r6))]) C (by decide) rfl dX13_pack_104 rfl ?_
    refine r_bipush (pc' := 108) C dX13_pack_106 (by decide) rfl ?_
    refine r_istore (pc' := 110) (ls' := [(0, .ref (gl_b Y + 73)), (1, .ref (gl_b Y + a1)), (2, .int (i32 x2)), (3, .int (i32 x3)), (4, .int (i32 x4)), (5, .int (i32 x5)), (6, .long (i64 r6)), (8, .int (i32 24))]) C (by decide) rfl dX13_pack_108 rfl ?_
    exact Wa.sub [0, 6, 7] rfl h
  · replace h := h.2 c1
    refine r_iload (pc' := 42) C 4 rfl dX13_pack_40 rfl ?_
    refine r_sipush (pc' := 45) C dX13_pack_42 (by decide) rfl ?_
    refine r_iadd (pc' := 46) C dX13_pack_45 rfl ?_
    refine r_iload_n (pc' := 47) C 3 rfl rfl dX13_pack_46 rfl ?_
    have o10 := h.1
    replace h := h.2
    refine r_icmp_ge (pc' := 50) (tgt := 59) C o10 hx3 dX13_pack_47 (by decide) rfl (fun c11 => ?_) (fun c11 => ?_)
    · replace h := h.1 c11
      refine r_iload_n (pc' := 60) C 3 rfl rfl dX13_pack_59 rfl ?_
      refine r_istore (pc' := 62) (ls' := [(0, .ref (gl_b Y + 73)), (1, .ref (gl_b Y + a1)), (2, .int (i32 x2)), (3, .int (i32 x3)), (4, .int (i32 x4)), (5, .int (i32 x5)), (6, .int (i32 x3))]) C (by decide) rfl dX13_pack_60 rfl ?_
      refine r_iload (pc' := 64) C 6 rfl dX13_pack_62 rfl ?_
      refine r_iload_n (pc' := 65) C 3 rfl rfl dX13_pack_64 rfl ?_
      refine r_icmp_ne (pc' := 68) (tgt := 72) C hx3 hx3 dX13_pack_65 (by decide) rfl (fun c12 => ?_) (fun c12 => ?_)
      · replace h := h.1 c12
        refine r_iconst (pc' := 73) C dX13_pack_72 rfl ?_
        refine r_istore (pc' := 75) (ls' := [(0, .ref (gl_b Y + 73)), (1, .ref (gl_b Y + a1)), (2, .int (i32 x2)), (3, .int (i32 x3)), (4, .int (i32 x4)), (5, .int (i32 0)), (6, .int (i32 x3))]) C (by decide) rfl dX13_pack_73 rfl ?_
        refine r_aload_n (pc' := 76) C 0 rfl rfl dX13_pack_75 rfl ?_
        refine r_aload_n (pc' := 77) C 1 rfl rfl dX13_pack_76 rfl ?_
        refine r_iload_n (pc' := 78) C 2 rfl rfl dX13_pack_77 rfl ?_
        refine r_iload (pc' := 80) C 4 rfl dX13_pack_78 rfl ?_
        refine r_iload (pc' := 82) C 6 rfl dX13_pack_80 rfl ?_
        refine r_iload (pc' := 84) C 5 rfl dX13_pack_82 rfl ?_
        refine c_Vv (pc' := 87) (mt := mX13_packPart) (as := [.ref (gl_b Y + a1), .int (i32 x2), .int (i32 x4), .int (i32 x3), .int (i32 0)]) (st := []) (k := 73) C h rfl cl_X13_packPart ml_X13_259 im_X13_packPart sl_X13_packPart (by omega) (Nat.le_refl _) (Nat.le_refl _) rfl (by decide) kc_73 (by decide) rfl rfl rfl (Nat.le_of_ble_eq_true rfl) dX13_pack_84 rfl (fun r13 iv14 av15 h => ?_)
        refine r_iload (pc' := 89) C 6 rfl dX13_pack_87 rfl ?_
        refine r_istore (pc' := 91) (ls' := [(0, .ref (gl_b Y + 73)), (1, .ref (gl_b Y + a1)), (2, .int (i32 x2)), (3, .int (i32 x3)), (4, .int (i32 x3)), (5, .int (i32 0)), (6, .int (i32 x3))]) C (by decide) rfl dX13_pack_89 rfl ?_
        refine r_goto (tgt := 35) C dX13_pack_91 (by decide) ?_
        exact Wa.sub [0, 1, 2, 3, 4, 5] rfl h
      · replace h := h.2 c12
        refine r_iconst (pc' := 69) C dX13_pack_68 rfl ?_
        refine r_goto (tgt := 73) C dX13_pack_69 (by decide) ?_
        refine r_istore (pc' := 75) (ls' := [(0, .ref (gl_b Y + 73)), (1, .ref (gl_b Y + a1)), (2, .int (i32 x2)), (3, .int (i32 x3)), (4, .int (i32 x4)), (5, .int (i32 1)), (6, .int (i32 x3))]) C (by decide) rfl dX13_pack_73 rfl ?_
        refine r_aload_n (pc' := 76) C 0 rfl rfl dX13_pack_75 rfl ?_
        refine r_aload_n (pc' := 77) C 1 rfl rfl dX13_pack_76 rfl ?_
        refine r_iload_n (pc' := 78) C 2 rfl rfl dX13_pack_77 rfl ?_
        refine r_iload (pc' := 80) C 4 rfl dX13_pack_78 rfl ?_
        refine r_iload (pc' := 82) C 6 rfl dX13_pack_80 rfl ?_
        refine r_iload (pc' := 84) C 5 rfl dX13_pack_82 rfl ?_
        refine c_Vv (pc' := 87) (mt := mX13_packPart) (as := [.ref (gl_b Y + a1), .int (i32 x2), .int (i32 x4), .int (i32 x3), .int (i32 1)]) (st := []) (k := 73) C h rfl cl_X13_packPart ml_X13_259 im_X13_packPart sl_X13_packPart (by omega) (Nat.le_refl _) (Nat.le_refl _) rfl (by decide) kc_73 (by decide) rfl rfl rfl (Nat.le_of_ble_eq_true rfl) dX13_pack_84 rfl (fun r17 iv18 av19 h => ?_)
        refine r_iload (pc' := 89) C 6 rfl dX13_pack_87 rfl ?_
        refine r_istore (pc' := 91) (ls' := [(0, .ref (gl_b Y + 73)), (1, .ref (gl_b Y + a1)), (2, .int (i32 x2)), (3, .int (i32 x3)), (4, .int (i32 x3)), (5, .int (i32 1)), (6, .int (i32 x3))]) C (by decide) rfl dX13_pack_89 rfl ?_
        refine r_goto (tgt := 35) C dX13_pack_91 (by decide) ?_
        exact Wa.sub [0, 1, 2, 3, 4, 5] rfl h
    · replace h := h.2 c11
      refine r_iload (pc' := 52) C 4 rfl dX13_pack_50 rfl ?_
      refine r_sipush (pc' := 55) C dX13_pack_52 (by decide) rfl ?_
      refine r_iadd (pc' := 56) C dX13_pack_55 rfl ?_
      refine r_goto (tgt := 60) C dX13_pack_56 (by decide) ?_
      refine r_istore (pc' := 62) (ls' := [(0, .ref (gl_b Y + 73)), (1, .ref (gl_b Y + a1)), (2, .int (i32 x2)), (3, .int (i32 x3)), (4, .int (i32 x4)), (5, .int (i32 x5)), (6, .int (i32 (x4 + 4096)))]) C (by decide) rfl dX13_pack_60 rfl ?_
      refine r_iload (pc' := 64) C 6 rfl dX13_pack_62 rfl ?_
      refine r_iload_n (pc' := 65) C 3 rfl rfl dX13_pack_64 rfl ?_
      refine r_icmp_ne (pc' := 68) (tgt := 72) C o10 hx3 dX13_pack_65 (by decide) rfl (fun c21 => ?_) (fun c21 => ?_)
      · replace h := h.1 c21
        refine r_iconst (pc' := 73) C dX13_pack_72 rfl ?_
        refine r_istore (pc' := 75) (ls' := [(0, .ref (gl_b Y + 73)), (1, .ref (gl_b Y + a1)), (2, .int (i32 x2)), (3, .int (i32 x3)), (4, .int (i32 x4)), (5, .int (i32 0)), (6, .int (i32 (x4 + 4096)))]) C (by decide) rfl dX13_pack_73 rfl ?_
        refine r_aload_n (pc' := 76) C 0 rfl rfl dX13_pack_75 rfl ?_
        refine r_aload_n (pc' := 77) C 1 rfl rfl dX13_pack_76 rfl ?_
        refine r_iload_n (pc' := 78) C 2 rfl rfl dX13_pack_77 rfl ?_
        refine r_iload (pc' := 80) C 4 rfl dX13_pack_78 rfl ?_
        refine r_iload (pc' := 82) C 6 rfl dX13_pack_80 rfl ?_
        refine r_iload (pc' := 84) C 5 rfl dX13_pack_82 rfl ?_
        refine c_Vv (pc' := 87) (mt := mX13_packPart) (as := [.ref (gl_b Y + a1), .int (i32 x2), .int (i32 x4), .int (i32 (x4 + 4096)), .int (i32 0)]) (st := []) (k := 73) C h rfl cl_X13_packPart ml_X13_259 im_X13_packPart sl_X13_packPart (by omega) (Nat.le_refl _) (Nat.le_refl _) rfl (by decide) kc_73 (by decide) rfl rfl rfl (Nat.le_of_ble_eq_true rfl) dX13_pack_84 rfl (fun r22 iv23 av24 h => ?_)
        refine r_iload (pc' := 89) C 6 rfl dX13_pack_87 rfl ?_
        refine r_istore (pc' := 91) (ls' := [(0, .ref (gl_b Y + 73)), (1, .ref (gl_b Y + a1)), (2, .int (i32 x2)), (3, .int (i32 x3)), (4, .int (i32 (x4 + 4096))), (5, .int (i32 0)), (6, .int (i32 (x4 + 4096)))]) C (by decide) rfl dX13_pack_89 rfl ?_
        refine r_goto (tgt := 35) C dX13_pack_91 (by decide) ?_
        exact Wa.sub [0, 1, 2, 3, 4, 5] rfl h
      · replace h := h.2 c21
        refine r_iconst (pc' := 69) C dX13_pack_68 rfl ?_
        refine r_goto (tgt := 73) C dX13_pack_69 (by decide) ?_
        refine r_istore (pc' := 75) (ls' := [(0, .ref (gl_b Y + 73)), (1, .ref (gl_b Y + a1)), (2, .int (i32 x2)), (3, .int (i32 x3)), (4, .int (i32 x4)), (5, .int (i32 1)), (6, .int (i32 (x4 + 4096)))]) C (by decide) rfl dX13_pack_73 rfl ?_
        refine r_aload_n (pc' := 76) C 0 rfl rfl dX13_pack_75 rfl ?_
        refine r_aload_n (pc' := 77) C 1 rfl rfl dX13_pack_76 rfl ?_
        refine r_iload_n (pc' := 78) C 2 rfl rfl dX13_pack_77 rfl ?_
        refine r_iload (pc' := 80) C 4 rfl dX13_pack_78 rfl ?_
        refine r_iload (pc' := 82) C 6 rfl dX13_pack_80 rfl ?_
        refine r_iload (pc' := 84) C 5 rfl dX13_pack_82 rfl ?_
        refine c_Vv (pc' := 87) (mt := mX13_packPart) (as := [.ref (gl_b Y + a1), .int (i32 x2), .int (i32 x4), .int (i32 (x4 + 4096)), .int (i32 1)]) (st := []) (k := 73) C h rfl cl_X13_packPart ml_X13_259 im_X13_packPart sl_X13_packPart (by omega) (Nat.le_refl _) (Nat.le_refl _) rfl (by decide) kc_73 (by decide) rfl rfl rfl (Nat.le_of_ble_eq_true rfl) dX13_pack_84 rfl (fun r26 iv27 av28 h => ?_)
        refine r_iload (pc' := 89) C 6 rfl dX13_pack_87 rfl ?_
        refine r_istore (pc' := 91) (ls' := [(0, .ref (gl_b Y + 73)), (1, .ref (gl_b Y + a1)), (2, .int (i32 x2)), (3, .int (i32 x3)), (4, .int (i32 (x4 + 4096))), (5, .int (i32 1)), (6, .int (i32 (x4 + 4096)))]) C (by decide) rfl dX13_pack_89 rfl ?_
        refine r_goto (tgt := 35) C dX13_pack_91 (by decide) ?_
        exact Wa.sub [0, 1, 2, 3, 4, 5] rfl h
set_option maxHeartbeats 4000000 in
set_option maxRecDepth 100000 in
theorem o_X13_pack {Y : Gl} {e : Nat} {P : PN} {a1 : Nat} {x2 : Int} {x3 : Int} {iv av : IVt} (Ka1 : ArrK 101 a1) (hx2 : InR x2) (hx3 : InR x3) (h : ∀ X : Cx, CX Y X RX13 "pack" cX13_pack 9 (some .int) (e + 19) 0 0 →
    OkN Y (e + 18) mX13_notePairs [.ref (gl_b Y + 73), .ref (gl_b Y + a1), .int (i32 x2), .int (i32 x3)] RV iv av 116 (fun r1 iv2 av3 =>
      OkN Y (e + 18) mX13_writeNumber [.ref (gl_b Y + 73), .int (i32 120), .int (i32 8)] RV (up2 iv2 73 31 0) av3 116 (fun r5 iv6 av7 =>
        OkN Y (e + 18) mX13_writeNumber [.ref (gl_b Y + 73), .int (i32 156), .int (i32 8)] RV iv6 av7 116 (fun r9 iv10 av11 =>
          L_X13_pack_35 Y X P a1 x2 x3 0 0 iv10 av11
        )
      )
    )) : OkN Y (e + 19) mX13_pack [.ref (gl_b Y + 73), .ref (gl_b Y + a1), .int (i32 x2), .int (i32 x3)] RV iv av 116 P := by
  obtain ⟨ha1c, ha1l⟩ := Ka1
  refine OkW.of rfl (by show _ ≤ 9; exact Nat.le_of_ble_eq_true rfl) fun X C0 hR => ?_
  have C : CX Y X RX13 "pack" cX13_pack 9 (some .int) (e + 19) 0 0 := C0
  replace h := h X C
  show Wa Y X 9 (g_MQ Y X 1 (g_N RV 116 P) 0 0) 0 0 0 [(0, .ref (gl_b Y + 73)), (1, .ref (gl_b Y + a1)), (2, .int (i32 x2)), (3, .int (i32 x3))] [] RV iv av 116
  refine r_aload_n (pc' := 1) C 0 rfl rfl dX13_pack_0 rfl ?_
  refine r_aload_n (pc' := 2) C 1 rfl rfl dX13_pack_1 rfl ?_
  refine r_iload_n (pc' := 3) C 2 rfl rfl dX13_pack_2 rfl ?_
  refine r_iload_n (pc' := 4) C 3 rfl rfl dX13_pack_3 rfl ?_
  refine c_Vv (pc' := 7) (mt := mX13_notePairs) (as := [.ref (gl_b Y + a1), .int (i32 x2), .int (i32 x3)]) (st := []) (k := 73) C h rfl cl_X13_notePairs ml_X13_255 im_X13_notePairs sl_X13_notePairs (by omega) (Nat.le_refl _) (Nat.le_refl _) rfl (by decide) kc_73 (by decide) rfl rfl rfl (Nat.le_of_ble_eq_true rfl) dX13_pack_4 rfl (fun r1 iv2 av3 h => ?_)
  refine r_aload_n (pc' := 8) C 0 rfl rfl dX13_pack_7 rfl ?_
  refine r_iconst (pc' := 9) C dX13_pack_8 rfl ?_
  refine r_puti (pc' := 12) (k := 73) C fl_X13_167 (by decide) kc_73 (by decide) fr_13_31 (by decide) dX13_pack_9 rfl ?_
  refine r_aload_n (pc' := 13) C 0 rfl rfl dX13_pack_12 rfl ?_
  refine r_bipush (pc' := 15) C dX13_pack_13 (by decide) rfl ?_
  refine r_bipush (pc' := 17) C dX13_pack_15 (by decide) rfl ?_
  refine c_Vv (pc' := 20) (mt := mX13_writeNumber) (as := [.int (i32 120), .int (i32 8)]) (st := []) (k := 73) C h rfl cl_X13_writeNumber ml_X13_210 im_X13_writeNumber sl_X13_writeNumber (by omega) (Nat.le_refl _) (Nat.le_refl _) rfl (by decide) kc_73 (by decide) rfl rfl rfl (Nat.le_of_ble_eq_true rfl) dX13_pack_17 rfl (fun r5 iv6 av7 h => ?_)
  refine r_aload_n (pc' := 21) C 0 rfl rfl dX13_pack_20 rfl ?_
  refine r_sipush (pc' := 24) C dX13_pack_21 (by decide) rfl ?_
  refine r_bipush (pc' := 26) C dX13_pack_24 (by decide) rfl ?_
  refine c_Vv (pc' := 29) (mt := mX13_writeNumber) (as := [.int (i32 156), .int (i32 8)]) (st := []) (k := 73) C h rfl cl_X13_writeNumber ml_X13_210 im_X13_writeNumber sl_X13_writeNumber (by omega) (Nat.le_refl _) (Nat.le_refl _) rfl (by decide) kc_73 (by decide) rfl rfl rfl (Nat.le_of_ble_eq_true rfl) dX13_pack_26 rfl (fun r9 iv10 av11 h => ?_)
  refine r_iconst (pc' := 30) C dX13_pack_29 rfl ?_
  refine r_istore (pc' := 32) (ls' := [(0, .ref (gl_b Y + 73)), (1, .ref (gl_b Y + a1)), (2, .int (i32 x2)), (3, .int (i32 x3)), (4, .int (i32 0))]) C (by decide) rfl dX13_pack_30 rfl ?_
  refine r_iconst (pc' := 33) C dX13_pack_32 rfl ?_
  refine r_istore (pc' := 35) (ls' := [(0, .ref (gl_b Y + 73)), (1, .ref (gl_b Y + a1)), (2, .int (i32 x2)), (3, .int (i32 x3)), (4, .int (i32 0)), (5, .int (i32 0))]) C (by decide) rfl dX13_pack_33 rfl ?_
  exact Wa.sub [0, 1, 2, 3, 4, 5] rfl h
set_option maxHeartbeats 4000000 in
set_option maxRecDepth 100000 in
theorem o_X13_readBit {Y : Gl} {e : Nat} {P : PN} {iv av : IVt} {sk : Nat} (hskl : sk < 116) (hskc : kc sk = 101) (hskq : iv 73 53 = ((sk + 1 : Nat) : Int)) (h : 
    ((InR (iv 73 57)) →
      ((¬ (iv 73 57) = 0) →
        P 0 (up2 iv 73 57 1) av
      ) ∧
      (((iv 73 57) = 0) →
        ((InR (iv 73 56)) →
          ((InR (iv 73 55)) →
            ((¬ (iv 73 56) = (iv 73 55)) →
              ((InR (iv 73 54)) →
                (0 ≤ (iv 73 56)) ∧
                (0 ≤ ((iv 73 54) + ((iv 73 56) / 8)) ∧ ((iv 73 54) + ((iv 73 56) / 8)) < (kl sk : Int)) ∧
                ((-128 ≤ (av sk ((iv 73 54) + ((iv 73 56) / 8)).toNat) ∧ (av sk ((iv 73 54) + ((iv 73 56) / 8)).toNat) ≤ 127) →
                  (0 ≤ ((iv 73 56) % 8) ∧ ((iv 73 56) % 8) ≤ 31) ∧
                  (InR ((iv 73 56) + 1)) ∧
                  P (((av sk ((iv 73 54) + ((iv 73 56) / 8)).toNat) / 2 ^ ((iv 73 56) % 8).toNat) % 2) (up2 (up2 iv 73 57 0) 73 56 ((iv 73 56) + 1)) av
                )
              )
            ) ∧
            (((iv 73 56) = (iv 73 55)) →
              P 0 (up2 iv 73 57 1) av
            )
          )
        )
      )
    )) : OkN Y e mX13_readBit [.ref (gl_b Y + 73)] RV iv av 116 P := by
  refine OkW.of rfl (by show _ ≤ 2; exact Nat.le_of_ble_eq_true rfl) fun X C0 hR => ?_
  have C : CX Y X RX13 "readBit" cX13_readBit 2 (some .int) e 0 0 := C0
  show Wa Y X 2 (g_MQ Y X 1 (g_N RV 116 P) 0 0) 0 0 0 [(0, .ref (gl_b Y + 73))] [] RV iv av 116
  refine r_aload_n (pc' := 1) C 0 rfl rfl dX13_readBit_0 rfl ?_
  refine r_aload_n (pc' := 2) C 0 rfl rfl dX13_readBit_1 rfl ?_
  refine r_geti (pc' := 5) (k := 73) C fl_X13_269 (by decide) kc_73 (by decide) fr_13_57 dX13_readBit_2 rfl (fun f1 => ?_)
  replace h := h f1
  refine r_if_ne (pc' := 8) (tgt := 19) C f1 dX13_readBit_5 (by decide) rfl (fun c2 => ?_) (fun c2 => ?_)
  · replace h := h.1 c2
    refine r_iconst (pc' := 20) C dX13_readBit_19 rfl ?_
    refine r_goto (tgt := 24) C dX13_readBit_20 (by decide) ?_
    refine r_putz (pc' := 27) (k := 73) C fl_X13_269 (by decide) kc_73 (by decide) fr_13_57 (by decide) dX13_readBit_24 rfl ?_
    refine r_aload_n (pc' := 28) C 0 rfl rfl dX13_readBit_27 rfl ?_
    refine r_geti (pc' := 31) (k := 73) C fl_X13_269 (by decide) kc_73 (by decide) fr_13_57 dX13_readBit_28 rfl (fun f3 => ?_)
    have ef3 : (up2 iv 73 57 1) 73 57 = 1 := by simp [up2]
    rw [ef3] at f3 ⊢
    refine r_if_eq (pc' := 34) (tgt := 36) C (by decide) dX13_readBit_31 (by decide) rfl (fun z => absurd z (by decide)) (fun _ => ?_)
    refine r_iconst (pc' := 35) C dX13_readBit_34 rfl ?_
    exact r_iret C (by decide) ⟨rfl, rfl, h⟩ dX13_readBit_35
  · replace h := h.2 c2
    refine r_aload_n (pc' := 9) C 0 rfl rfl dX13_readBit_8 rfl ?_
    refine r_geti (pc' := 12) (k := 73) C fl_X13_273 (by decide) kc_73 (by decide) fr_13_56 dX13_readBit_9 rfl (fun f4 => ?_)
    replace h := h f4
    refine r_aload_n (pc' := 13) C 0 rfl rfl dX13_readBit_12 rfl ?_
    refine r_geti (pc' := 16) (k := 73) C fl_X13_276 (by decide) kc_73 (by decide) fr_13_55 dX13_readBit_13 rfl (fun f5 => ?_)
    replace h := h f5
    refine r_icmp_ne (pc' := 19) (tgt := 23) C f4 f5 dX13_readBit_16 (by decide) rfl (fun c6 => ?_) (fun c6 => ?_)
    · replace h := h.1 c6
      refine r_iconst (pc' := 24) C dX13_readBit_23 rfl ?_
      refine r_putz (pc' := 27) (k := 73) C fl_X13_269 (by decide) kc_73 (by decide) fr_13_57 (by decide) dX13_readBit_24 rfl ?_
      refine r_aload_n (pc' := 28) C 0 rfl rfl dX13_readBit_27 rfl ?_
      refine r_geti (pc' := 31) (k := 73) C fl_X13_269 (by decide) kc_73 (by decide) fr_13_57 dX13_readBit_28 rfl (fun f7 => ?_)
      have ef7 : (up2 iv 73 57 0) 73 57 = 0 := by simp [up2]
      rw [ef7] at f7 ⊢
      refine r_if_eq (pc' := 34) (tgt := 36) C (by decide) dX13_readBit_31 (by decide) rfl (fun _ => ?_) (fun z => absurd z (by decide))
      refine r_aload_n (pc' := 37) C 0 rfl rfl dX13_readBit_36 rfl ?_
      refine r_getq (pc' := 40) (k := 73) (r := sk) C fl_X13_279 (by decide) kc_73 (by decide) fr_13_53 (by first | exact hskq | (simp [up2]; exact hskq)) dX13_readBit_37 rfl ?_
      refine r_aload_n (pc' := 41) C 0 rfl rfl dX13_readBit_40 rfl ?_
      refine r_geti (pc' := 44) (k := 73) C fl_X13_282 (by decide) kc_73 (by decide) fr_13_54 dX13_readBit_41 rfl (fun f9 => ?_)
      have ef9 : (up2 iv 73 57 0) 73 54 = (iv 73 54) := by simp [up2]
      rw [ef9] at f9 ⊢
      replace h := h f9
      refine r_aload_n (pc' := 45) C 0 rfl rfl dX13_readBit_44 rfl ?_
      refine r_geti (pc' := 48) (k := 73) C fl_X13_273 (by decide) kc_73 (by decide) fr_13_56 dX13_readBit_45 rfl (fun f10 => ?_)
      have ef10 : (up2 iv 73 57 0) 73 56 = (iv 73 56) := by simp [up2]
      rw [ef10] at f10 ⊢
      refine r_bipush (pc' := 50) C dX13_readBit_48 (by decide) rfl ?_
      have o11 := h.1
      replace h := h.2
      refine r_idiv (pc' := 51) C ⟨o11, f4⟩ ⟨(by decide), (by decide)⟩ dX13_readBit_50 rfl ?_
      refine r_iadd (pc' := 52) C dX13_readBit_51 rfl ?_
      have o12 := h.1
      replace h := h.2
      refine r_bald (pc' := 53) (k := sk) C (by omega) hskc o12 dX13_readBit_52 rfl (fun f13 => ?_)
      replace h := h f13
      refine r_aload_n (pc' := 54) C 0 rfl rfl dX13_readBit_53 rfl ?_
      refine r_geti (pc' := 57) (k := 73) C fl_X13_273 (by decide) kc_73 (by decide) fr_13_56 dX13_readBit_54 rfl (fun f14 => ?_)
      have ef14 : (up2 iv 73 57 0) 73 56 = (iv 73 56) := by simp [up2]
      rw [ef14] at f14 ⊢
      refine r_bipush (pc' := 59) C dX13_readBit_57 (by decide) rfl ?_
      refine r_irem (pc' := 60) C ⟨o11, f4⟩ ⟨(by decide), (by decide)⟩ dX13_readBit_59 rfl ?_
      have o15 := h.1
      replace h := h.2
      refine r_ishr (pc' := 61) C (by omega) o15 dX13_readBit_60 rfl ?_
      refine r_iconst (pc' := 62) C dX13_readBit_61 rfl ?_
      refine r_iandM (pc' := 63) (m := 2) C 1 (by decide) (by decide) (by decide) dX13_readBit_62 rfl ?_
      refine r_istore_n (pc' := 64) (ls' := [(0, .ref (gl_b Y + 73)), (1, .int (i32 (((av sk ((iv 73 54) + ((iv 73 56) / 8)).toNat) / 2 ^ ((iv 73 56) % 8).toNat) % 2)))]) C (by decide) rfl rfl dX13_readBit_63 rfl ?_
      refine r_aload_n (pc' := 65) C 0 rfl rfl dX13_readBit_64 rfl ?_
      refine r_dup (pc' := 66) C rfl dX13_readBit_65 rfl ?_
      refine r_geti (pc' := 69) (k := 73) C fl_X13_273 (by decide) kc_73 (by decide) fr_13_56 dX13_readBit_66 rfl (fun f16 => ?_)
      have ef16 : (up2 iv 73 57 0) 73 56 = (iv 73 56) := by simp [up2]
      rw [ef16] at f16 ⊢
      refine r_iconst (pc' := 70) C dX13_readBit_69 rfl ?_
      refine r_iadd (pc' := 71) C dX13_readBit_70 rfl ?_
      have o17 := h.1
      replace h := h.2
      refine r_puti (pc' := 74) (k := 73) C fl_X13_273 (by decide) kc_73 (by decide) fr_13_56 o17 dX13_readBit_71 rfl ?_
      refine r_iload_n (pc' := 75) C 1 rfl rfl dX13_readBit_74 rfl ?_
      exact r_iret C (by omega) ⟨rfl, rfl, h⟩ dX13_readBit_75
    · replace h := h.2 c6
      refine r_iconst (pc' := 20) C dX13_readBit_19 rfl ?_
      refine r_goto (tgt := 24) C dX13_readBit_20 (by decide) ?_
      refine r_putz (pc' := 27) (k := 73) C fl_X13_269 (by decide) kc_73 (by decide) fr_13_57 (by decide) dX13_readBit_24 rfl ?_
      refine r_aload_n (pc' := 28) C 0 rfl rfl dX13_readBit_27 rfl ?_
      refine r_geti (pc' := 31) (k := 73) C fl_X13_269 (by decide) kc_73 (by decide) fr_13_57 dX13_readBit_28 rfl (fun f18 => ?_)
      have ef18 : (up2 iv 73 57 1) 73 57 = 1 := by simp [up2]
      rw [ef18] at f18 ⊢
      refine r_if_eq (pc' := 34) (tgt := 36) C (by decide) dX13_readBit_31 (by decide) rfl (fun z => absurd z (by decide)) (fun _ => ?_)
      refine r_iconst (pc' := 35) C dX13_readBit_34 rfl ?_
      exact r_iret C (by decide) ⟨rfl, rfl, h⟩ dX13_readBit_35
def L_X13_readNumber_4 (Y : Gl) (X : Cx) (P : PN) (x1 : Int) (x2 : Int) (x3 : Int) (iv av : IVt) : Prop := Wa Y X 4 (g_MQ Y X 1 (g_N RV 116 P) 0 0) 0 0 4 [(0, .ref (gl_b Y + 73)), (1, .int (i32 x1)), (2, .int (i32 x2)), (3, .int (i32 x3))] [] RV iv av 116
set_option maxHeartbeats 4000000 in
set_option maxRecDepth 100000 in
theorem w_X13_readNumber_4 {Y : Gl} {X : Cx} {e : Nat} {P : PN} {x1 : Int} {x2 : Int} {x3 : Int} {iv av : IVt} (C : CX Y X RX13 "readNumber" cX13_readNumber 4 (some .int) (e + 1) 0 0) (hx1 : InR x1) (hx2 : InR x2) (hx3 : InR x3) (h :
    ((x1 ≤ x3) →
      P x2 iv av
    ) ∧
    ((¬ x1 ≤ x3) →
      OkN Y e mX13_readBit [.ref (gl_b Y + 73)] RV iv av 116 (fun r2 iv3 av4 =>
        (InR r2) →
        (0 ≤ x3 ∧ x3 ≤ 31) ∧
        L_X13_readNumber_4 Y X P x1 (g_or x2 (r2 * 2 ^ x3.toNat)) (x3 + 1) iv3 av4
      )
    )) : L_X13_readNumber_4 Y X P x1 x2 x3 iv av := by
  unfold L_X13_readNumber_4
  refine r_iload_n (pc' := 5) C 3 rfl rfl dX13_readNumber_4 rfl ?_
  refine r_iload_n (pc' := 6) C 1 rfl rfl dX13_readNumber_5 rfl ?_
  refine r_icmp_ge (pc' := 9) (tgt := 24) C hx3 hx1 dX13_readNumber_6 (by decide) rfl (fun c1 => ?_) (fun c1 => ?_)
  · replace h := h.1 c1
    refine r_iload_n (pc' := 25) C 2 rfl rfl dX13_readNumber_24 rfl ?_
    exact r_iret C hx2 ⟨rfl, rfl, h⟩ dX13_readNumber_25
  · replace h := h.2 c1
    refine r_iload_n (pc' := 10) C 2 rfl rfl dX13_readNumber_9 rfl ?_
    refine r_aload_n (pc' := 11) C 0 rfl rfl dX13_readNumber_10 rfl ?_
    refine c_Vi (pc' := 14) (mt := mX13_readBit) (as := []) (st := [.int (i32 x2)]) (k := 73) C h rfl cl_X13_readBit ml_X13_285 im_X13_readBit sl_X13_readBit (by omega) (Nat.le_refl _) (Nat.le_refl _) rfl (by decide) kc_73 (by decide) rfl rfl rfl (Nat.le_of_ble_eq_true rfl) dX13_readNumber_11 rfl (fun r2 iv3 av4 f5 h => ?_)
    replace h := h f5
    refine r_iload_n (pc' := 15) C 3 rfl rfl dX13_readNumber_14 rfl ?_
    have o6 := h.1
    replace h := h.2
    refine r_ishl (pc' := 16) C o6 dX13_readNumber_15 rfl ?_
    refine r_ior (pc' := 17) C dX13_readNumber_16 rfl ?_
    refine r_istore_n (pc' := 18) (ls' := [(0, .ref (gl_b Y + 73)), (1, .int (i32 x1)), (2, .int (i32 (g_or x2 (r2 * 2 ^ x3.toNat)))), (3, .int (i32 x3))]) C (by decide) rfl rfl dX13_readNumber_17 rfl ?_
    refine r_iinc (pc' := 21) (ls' := [(0, .ref (gl_b Y + 73)), (1, .int (i32 x1)), (2, .int (i32 (g_or x2 (r2 * 2 ^ x3.toNat)))), (3, .int (i32 (x3 + 1)))]) C 3 rfl (by decide) rfl dX13_readNumber_18 rfl ?_
    refine r_goto (tgt := 4) C dX13_readNumber_21 (by decide) ?_
    exact Wa.sub [0, 1, 2, 3] rfl h
set_option maxHeartbeats 4000000 in
set_option maxRecDepth 100000 in
theorem o_X13_readNumber {Y : Gl} {e : Nat} {P : PN} {x1 : Int} {iv av : IVt} (h : ∀ X : Cx, CX Y X RX13 "readNumber" cX13_readNumber 4 (some .int) (e + 1) 0 0 →
    L_X13_readNumber_4 Y X P x1 0 0 iv av) : OkN Y (e + 1) mX13_readNumber [.ref (gl_b Y + 73), .int (i32 x1)] RV iv av 116 P := by
  refine OkW.of rfl (by show _ ≤ 4; exact Nat.le_of_ble_eq_true rfl) fun X C0 hR => ?_
  have C : CX Y X RX13 "readNumber" cX13_readNumber 4 (some .int) (e + 1) 0 0 := C0
  replace h := h X C
  show Wa Y X 4 (g_MQ Y X 1 (g_N RV 116 P) 0 0) 0 0 0 [(0, .ref (gl_b Y + 73)), (1, .int (i32 x1))] [] RV iv av 116
  refine r_iconst (pc' := 1) C dX13_readNumber_0 rfl ?_
  refine r_istore_n (pc' := 2) (ls' := [(0, .ref (gl_b Y + 73)), (1, .int (i32 x1)), (2, .int (i32 0))]) C (by decide) rfl rfl dX13_readNumber_1 rfl ?_
  refine r_iconst (pc' := 3) C dX13_readNumber_2 rfl ?_
  refine r_istore_n (pc' := 4) (ls' := [(0, .ref (gl_b Y + 73)), (1, .int (i32 x1)), (2, .int (i32 0)), (3, .int (i32 0))]) C (by decide) rfl rfl dX13_readNumber_3 rfl ?_
  exact Wa.sub [0, 1, 2, 3] rfl h
def L_X13_readSymbol_2 (Y : Gl) (X : Cx) (P : PN) (k1 : Nat) (x2 : Int) (iv av : IVt) : Prop := Wa Y X 4 (g_MQ Y X 1 (g_N RV 116 P) 0 0) 0 0 2 [(0, .ref (gl_b Y + 73)), (1, .ref (gl_b Y + k1)), (2, .int (i32 x2))] [] RV iv av 116
set_option maxHeartbeats 4000000 in
set_option maxRecDepth 100000 in
theorem w_X13_readSymbol_2 {Y : Gl} {X : Cx} {e : Nat} {P : PN} {k1 : Nat} {x2 : Int} {iv av : IVt} (C : CX Y X RX13 "readSymbol" cX13_readSymbol 4 (some .int) (e + 1) 0 0) (Kk1 : TreeK k1) (h :
    ((InR (iv 73 57)) →
      ((¬ (iv 73 57) = 0) →
        P 0 iv av
      ) ∧
      (((iv 73 57) = 0) →
        OkN Y e mX13_readBit [.ref (gl_b Y + 73)] RV iv av 116 (fun r3 iv4 av5 =>
          (InR r3) →
          (0 ≤ ((2 * x2) + r3) ∧ ((2 * x2) + r3) < 1300) ∧
          ((InR (av5 (k1 + 1) ((2 * x2) + r3).toNat)) →
            ((InR (iv4 73 57)) →
              ((¬ (iv4 73 57) = 0) →
                L_X13_readSymbol_2 Y X P k1 (av5 (k1 + 1) ((2 * x2) + r3).toNat) (up2 iv4 73 57 1) av5
              ) ∧
              (((iv4 73 57) = 0) →
                ((¬ (av5 (k1 + 1) ((2 * x2) + r3).toNat) = 0) →
                  ((0 ≤ (av5 (k1 + 1) ((2 * x2) + r3).toNat)) →
                    L_X13_readSymbol_2 Y X P k1 (av5 (k1 + 1) ((2 * x2) + r3).toNat) iv4 av5
                  ) ∧
                  ((¬ 0 ≤ (av5 (k1 + 1) ((2 * x2) + r3).toNat)) →
                    (InR ((-1) - (av5 (k1 + 1) ((2 * x2) + r3).toNat))) ∧
                    P ((-1) - (av5 (k1 + 1) ((2 * x2) + r3).toNat)) iv4 av5
                  )
                ) ∧
                (((av5 (k1 + 1) ((2 * x2) + r3).toNat) = 0) →
                  L_X13_readSymbol_2 Y X P k1 (av5 (k1 + 1) ((2 * x2) + r3).toNat) (up2 iv4 73 57 1) av5
                )
              )
            )
          )
        )
      )
    )) : L_X13_readSymbol_2 Y X P k1 x2 iv av := by
  obtain ⟨hk1c, hk1a, hk1l, hk1r0, hk1k1⟩ := Kk1
  unfold L_X13_readSymbol_2
  refine r_aload_n (pc' := 3) C 0 rfl rfl dX13_readSymbol_2 rfl ?_
  refine r_geti (pc' := 6) (k := 73) C fl_X13_269 (by decide) kc_73 (by decide) fr_13_57 dX13_readSymbol_3 rfl (fun f1 => ?_)
  replace h := h f1
  refine r_if_ne (pc' := 9) (tgt := 55) C f1 dX13_readSymbol_6 (by decide) rfl (fun c2 => ?_) (fun c2 => ?_)
  · replace h := h.1 c2
    refine r_iconst (pc' := 56) C dX13_readSymbol_55 rfl ?_
    exact r_iret C (by decide) ⟨rfl, rfl, h⟩ dX13_readSymbol_56
  · replace h := h.2 c2
    refine r_aload_n (pc' := 10) C 1 rfl rfl dX13_readSymbol_9 rfl ?_
    refine r_getN (pc' := 13) (k := k1) (r := k1 + 1) C fn_289 (by omega) hk1c (by decide) fr_12_0 hk1r0 dX13_readSymbol_10 rfl ?_
    refine r_iconst (pc' := 14) C dX13_readSymbol_13 rfl ?_
    refine r_iload_n (pc' := 15) C 2 rfl rfl dX13_readSymbol_14 rfl ?_
    refine r_imul (pc' := 16) C dX13_readSymbol_15 rfl ?_
    refine r_aload_n (pc' := 17) C 0 rfl rfl dX13_readSymbol_16 rfl ?_
    refine c_Vi (pc' := 20) (mt := mX13_readBit) (as := []) (st := [.int (i32 (2 * x2)), .ref (gl_b Y + (k1 + 1))]) (k := 73) C h rfl cl_X13_readBit ml_X13_285 im_X13_readBit sl_X13_readBit (by omega) (Nat.le_refl _) (Nat.le_refl _) rfl (by decide) kc_73 (by decide) rfl rfl rfl (Nat.le_of_ble_eq_true rfl) dX13_readSymbol_17 rfl (fun r3 iv4 av5 f6 h => ?_)
    replace h := h f6
    refine r_iadd (pc' := 21) C dX13_readSymbol_20 rfl ?_
    have o7 := h.1
    replace h := h.2
    refine r_iald (pc' := 22) (k := k1 + 1) C (by omega) hk1a (by have := hk1k1; omega) dX13_readSymbol_21 rfl (fun f8 => ?_)
    replace h := h f8
    refine r_istore_n (pc' := 23) (ls' := [(0, .ref (gl_b Y + 73)), (1, .ref (gl_b Y + k1)), (2, .int (i32 x2)), (3, .int (i32 (av5 (k1 + 1) ((2 * x2) + r3).toNat)))]) C (by decide) rfl rfl dX13_readSymbol_22 rfl ?_
    refine r_aload_n (pc' := 24) C 0 rfl rfl dX13_readSymbol_23 rfl ?_
    refine r_geti (pc' := 27) (k := 73) C fl_X13_269 (by decide) kc_73 (by decide) fr_13_57 dX13_readSymbol_24 rfl (fun f9 => ?_)
    replace h := h f9
    refine r_if_ne (pc' := 30) (tgt := 34) C f9 dX13_readSymbol_27 (by decide) rfl (fun c10 => ?_) (fun c10 => ?_)
    · replace h := h.1 c10
      refine r_aload_n (pc' := 35) C 0 rfl rfl dX13_readSymbol_34 rfl ?_
      refine r_iconst (pc' := 36) C dX13_readSymbol_35 rfl ?_
      refine r_putz (pc' := 39) (k := 73) C fl_X13_269 (by decide) kc_73 (by decide) fr_13_57 (by decide) dX13_readSymbol_36 rfl ?_
      refine r_goto (tgt := 50) C dX13_readSymbol_39 (by decide) ?_
      refine r_iload_n (pc' := 51) C 3 rfl rfl dX13_readSymbol_50 rfl ?_
      refine r_istore_n (pc' := 52) (ls' := [(0, .ref (gl_b Y + 73)), (1, .ref (gl_b Y + k1)), (2, .int (i32 (av5 (k1 + 1) ((2 * x2) + r3).toNat))), (3, .int (i32 (av5 (k1 + 1) ((2 * x2) + r3).toNat)))]) C (by decide) rfl rfl dX13_readSymbol_51 rfl ?_
      refine r_goto (tgt := 2) C dX13_readSymbol_52 (by decide) ?_
      exact Wa.sub [0, 1, 2] rfl h
    · replace h := h.2 c10
      refine r_iload_n (pc' := 31) C 3 rfl rfl dX13_readSymbol_30 rfl ?_
      refine r_if_ne (pc' := 34) (tgt := 42) C f8 dX13_readSymbol_31 (by decide) rfl (fun c11 => ?_) (fun c11 => ?_)
      · replace h := h.1 c11
        refine r_iload_n (pc' := 43) C 3 rfl rfl dX13_readSymbol_42 rfl ?_
        refine r_if_ge (pc' := 46) (tgt := 50) C f8 dX13_readSymbol_43 (by decide) rfl (fun c12 => ?_) (fun c12 => ?_)
        · replace h := h.1 c12
          refine r_iload_n (pc' := 51) C 3 rfl rfl dX13_readSymbol_50 rfl ?_
          refine r_istore_n (pc' := 52) (ls' := [(0, .ref (gl_b Y + 73)), (1, .ref (gl_b Y + k1)), (2, .int (i32 (av5 (k1 + 1) ((2 * x2) + r3).toNat))), (3, .int (i32 (av5 (k1 + 1) ((2 * x2) + r3).toNat)))]) C (by decide) rfl rfl dX13_readSymbol_51 rfl ?_
          refine r_goto (tgt := 2) C dX13_readSymbol_52 (by decide) ?_
          exact Wa.sub [0, 1, 2] rfl h
        · replace h := h.2 c12
          refine r_iconst (pc' := 47) C dX13_readSymbol_46 rfl ?_
          refine r_iload_n (pc' := 48) C 3 rfl rfl dX13_readSymbol_47 rfl ?_
          refine r_isub (pc' := 49) C dX13_readSymbol_48 rfl ?_
          have o13 := h.1
          replace h := h.2
          exact r_iret C o13 ⟨rfl, rfl, h⟩ dX13_readSymbol_49
      · replace h := h.2 c11
        refine r_aload_n (pc' := 35) C 0 rfl rfl dX13_readSymbol_34 rfl ?_
        refine r_iconst (pc' := 36) C dX13_readSymbol_35 rfl ?_
        refine r_putz (pc' := 39) (k := 73) C fl_X13_269 (by decide) kc_73 (by decide) fr_13_57 (by decide) dX13_readSymbol_36 rfl ?_
        refine r_goto (tgt := 50) C dX13_readSymbol_39 (by decide) ?_
        refine r_iload_n (pc' := 51) C 3 rfl rfl dX13_readSymbol_50 rfl ?_
        refine r_istore_n (pc' := 52) (ls' := [(0, .ref (gl_b Y + 73)), (1, .ref (gl_b Y + k1)), (2, .int (i32 (av5 (k1 + 1) ((2 * x2) + r3).toNat))), (3, .int (i32 (av5 (k1 + 1) ((2 * x2) + r3).toNat)))]) C (by decide) rfl rfl dX13_readSymbol_51 rfl ?_
        refine r_goto (tgt := 2) C dX13_readSymbol_52 (by decide) ?_
        exact Wa.sub [0, 1, 2] rfl h
set_option maxHeartbeats 4000000 in
set_option maxRecDepth 100000 in
theorem o_X13_readSymbol {Y : Gl} {e : Nat} {P : PN} {k1 : Nat} {iv av : IVt} (Kk1 : TreeK k1) (h : ∀ X : Cx, CX Y X RX13 "readSymbol" cX13_readSymbol 4 (some .int) (e + 1) 0 0 →
    L_X13_readSymbol_2 Y X P k1 0 iv av) : OkN Y (e + 1) mX13_readSymbol [.ref (gl_b Y + 73), .ref (gl_b Y + k1)] RV iv av 116 P := by
  obtain ⟨hk1c, hk1a, hk1l, hk1r0, hk1k1⟩ := Kk1
  refine OkW.of rfl (by show _ ≤ 4; exact Nat.le_of_ble_eq_true rfl) fun X C0 hR => ?_
  have C : CX Y X RX13 "readSymbol" cX13_readSymbol 4 (some .int) (e + 1) 0 0 := C0
  replace h := h X C
  show Wa Y X 4 (g_MQ Y X 1 (g_N RV 116 P) 0 0) 0 0 0 [(0, .ref (gl_b Y + 73)), (1, .ref (gl_b Y + k1))] [] RV iv av 116
  refine r_iconst (pc' := 1) C dX13_readSymbol_0 rfl ?_
  refine r_istore_n (pc' := 2) (ls' := [(0, .ref (gl_b Y + 73)), (1, .ref (gl_b Y + k1)), (2, .int (i32 0))]) C (by decide) rfl rfl dX13_readSymbol_1 rfl ?_
  exact Wa.sub [0, 1, 2] rfl h
def L_X13_toByte_0 (Y : Gl) (X : Cx) (P : PN) (iv av : IVt) : Prop := Wa Y X 1 (g_MQ Y X 0 (g_N RV 116 P) 0 0) 0 0 0 [(0, .ref (gl_b Y + 73))] [] RV iv av 116
set_option maxHeartbeats 4000000 in
set_option maxRecDepth 100000 in
theorem w_X13_toByte_0 {Y : Gl} {X : Cx} {e : Nat} {P : PN} {iv av : IVt} (C : CX Y X RX13 "toByte" cX13_toByte 1 none e 0 0) (h :
    ((InR (iv 73 56)) →
      (0 ≤ (iv 73 56)) ∧
      ((((iv 73 56) % 8) = 0) →
        P 0 iv av
      ) ∧
      ((¬ ((iv 73 56) % 8) = 0) →
        (InR ((iv 73 56) + 1)) ∧
        L_X13_toByte_0 Y X P (up2 iv 73 56 ((iv 73 56) + 1)) av
      )
    )) : L_X13_toByte_0 Y X P iv av := by
  unfold L_X13_toByte_0
  refine r_aload_n (pc' := 1) C 0 rfl rfl dX13_toByte_0 rfl ?_
  refine r_geti (pc' := 4) (k := 73) C fl_X13_273 (by decide) kc_73 (by decide) fr_13_56 dX13_toByte_1 rfl (fun f1 => ?_)
  replace h := h f1
  refine r_bipush (pc' := 6) C dX13_toByte_4 (by decide) rfl ?_
  have o2 := h.1
  replace h := h.2
  refine r_irem (pc' := 7) C ⟨o2, f1⟩ ⟨(by decide), (by decide)⟩ dX13_toByte_6 rfl ?_
  refine r_if_eq (pc' := 10) (tgt := 23) C (by omega) dX13_toByte_7 (by decide) rfl (fun c3 => ?_) (fun c3 => ?_)
  · replace h := h.1 c3
    exact r_vret C ⟨rfl, rfl, h⟩ dX13_toByte_23
  · replace h := h.2 c3
    refine r_aload_n (pc' := 11) C 0 rfl rfl dX13_toByte_10 rfl ?_
    refine r_dup (pc' := 12) C rfl dX13_toByte_11 rfl ?_
    refine r_geti (pc' := 15) (k := 73) C fl_X13_273 (by decide) kc_73 (by decide) fr_13_56 dX13_toByte_12 rfl (fun f4 => ?_)
    refine r_iconst (pc' := 16) C dX13_toByte_15 rfl ?_
    refine r_iadd (pc' := 17) C dX13_toByte_16 rfl ?_
    have o5 := h.1
    replace h := h.2
    refine r_puti (pc' := 20) (k := 73) C fl_X13_273 (by decide) kc_73 (by decide) fr_13_56 o5 dX13_toByte_17 rfl ?_
    refine r_goto (tgt := 0) C dX13_toByte_20 (by decide) ?_
    exact Wa.sub [0] rfl h
set_option maxHeartbeats 4000000 in
set_option maxRecDepth 100000 in
theorem o_X13_toByte {Y : Gl} {e : Nat} {P : PN} {iv av : IVt} (h : ∀ X : Cx, CX Y X RX13 "toByte" cX13_toByte 1 none e 0 0 →
    L_X13_toByte_0 Y X P iv av) : OkN Y e mX13_toByte [.ref (gl_b Y + 73)] RV iv av 116 P := by
  refine OkW.of rfl (by show _ ≤ 1; exact Nat.le_of_ble_eq_true rfl) fun X C0 hR => ?_
  have C : CX Y X RX13 "toByte" cX13_toByte 1 none e 0 0 := C0
  replace h := h X C
  show Wa Y X 1 (g_MQ Y X 0 (g_N RV 116 P) 0 0) 0 0 0 [(0, .ref (gl_b Y + 73))] [] RV iv av 116
  exact Wa.sub [0] rfl h
set_option maxHeartbeats 4000000 in
set_option maxRecDepth 100000 in
theorem o_X13_makeByte {Y : Gl} {e : Nat} {P : PN} {x1 : Int} {iv av : IVt} {tk : Nat} (htkl : tk < 116) (htkc : kc tk = 101) (htkq : iv 73 58 = ((tk + 1 : Nat) : Int)) (h : 
    ((InR (iv 73 57)) →
      ((¬ (iv 73 57) = 0) →
        P 0 (up2 iv 73 57 1) av
      ) ∧
      (((iv 73 57) = 0) →
        ((InR (iv 73 59)) →
          ((InR (iv 73 60)) →
            ((¬ (iv 73 59) = (iv 73 60)) →
              (0 ≤ (iv 73 59) ∧ (iv 73 59) < (kl tk : Int)) ∧
              (InR ((iv 73 59) + 1)) ∧
              P 0 (up2 (up2 iv 73 57 0) 73 59 ((iv 73 59) + 1)) (up2 av tk ((iv 73 59).toNat) (bm8 (bm8 x1)))
            ) ∧
            (((iv 73 59) = (iv 73 60)) →
              P 0 (up2 iv 73 57 1) av
            )
          )
        )
      )
    )) : OkN Y e mX13_makeByte [.ref (gl_b Y + 73), .int (i32 x1)] RV iv av 116 P := by
  refine OkW.of rfl (by show _ ≤ 2; exact Nat.le_of_ble_eq_true rfl) fun X C0 hR => ?_
  have C : CX Y X RX13 "makeByte" cX13_makeByte 2 none e 0 0 := C0
  show Wa Y X 2 (g_MQ Y X 0 (g_N RV 116 P) 0 0) 0 0 0 [(0, .ref (gl_b Y + 73)), (1, .int (i32 x1))] [] RV iv av 116
  refine r_aload_n (pc' := 1) C 0 rfl rfl dX13_makeByte_0 rfl ?_
  refine r_aload_n (pc' := 2) C 0 rfl rfl dX13_makeByte_1 rfl ?_
  refine r_geti (pc' := 5) (k := 73) C fl_X13_269 (by decide) kc_73 (by decide) fr_13_57 dX13_makeByte_2 rfl (fun f1 => ?_)
  replace h := h f1
  refine r_if_ne (pc' := 8) (tgt := 19) C f1 dX13_makeByte_5 (by decide) rfl (fun c2 => ?_) (fun c2 => ?_)
  · replace h := h.1 c2
    refine r_iconst (pc' := 20) C dX13_makeByte_19 rfl ?_
    refine r_goto (tgt := 24) C dX13_makeByte_20 (by decide) ?_
    refine r_putz (pc' := 27) (k := 73) C fl_X13_269 (by decide) kc_73 (by decide) fr_13_57 (by decide) dX13_makeByte_24 rfl ?_
    refine r_aload_n (pc' := 28) C 0 rfl rfl dX13_makeByte_27 rfl ?_
    refine r_geti (pc' := 31) (k := 73) C fl_X13_269 (by decide) kc_73 (by decide) fr_13_57 dX13_makeByte_28 rfl (fun f3 => ?_)
    have ef3 : (up2 iv 73 57 1) 73 57 = 1 := by simp [up2]
    rw [ef3] at f3 ⊢
    refine r_if_ne (pc' := 34) (tgt := 55) C (by decide) dX13_makeByte_31 (by decide) rfl (fun _ => ?_) (fun z => absurd z (by decide))
    exact r_vret C ⟨rfl, rfl, h⟩ dX13_makeByte_55
  · replace h := h.2 c2
    refine r_aload_n (pc' := 9) C 0 rfl rfl dX13_makeByte_8 rfl ?_
    refine r_geti (pc' := 12) (k := 73) C fl_X13_292 (by decide) kc_73 (by decide) fr_13_59 dX13_makeByte_9 rfl (fun f4 => ?_)
    replace h := h f4
    refine r_aload_n (pc' := 13) C 0 rfl rfl dX13_makeByte_12 rfl ?_
    refine r_geti (pc' := 16) (k := 73) C fl_X13_295 (by decide) kc_73 (by decide) fr_13_60 dX13_makeByte_13 rfl (fun f5 => ?_)
    replace h := h f5
    refine r_icmp_ne (pc' := 19) (tgt := 23) C f4 f5 dX13_makeByte_16 (by decide) rfl (fun c6 => ?_) (fun c6 => ?_)
    · replace h := h.1 c6
      refine r_iconst (pc' := 24) C dX13_makeByte_23 rfl ?_
      refine r_putz (pc' := 27) (k := 73) C fl_X13_269 (by decide) kc_73 (by decide) fr_13_57 (by decide) dX13_makeByte_24 rfl ?_
      refine r_aload_n (pc' := 28) C 0 rfl rfl dX13_makeByte_27 rfl ?_
      refine r_geti (pc' := 31) (k := 73) C fl_X13_269 (by decide) kc_73 (by decide) fr_13_57 dX13_makeByte_28 rfl (fun f7 => ?_)
      have ef7 : (up2 iv 73 57 0) 73 57 = 0 := by simp [up2]
      rw [ef7] at f7 ⊢
      refine r_if_ne (pc' := 34) (tgt := 55) C (by decide) dX13_makeByte_31 (by decide) rfl (fun z => absurd z (by decide)) (fun _ => ?_)
      refine r_aload_n (pc' := 35) C 0 rfl rfl dX13_makeByte_34 rfl ?_
      refine r_getq (pc' := 38) (k := 73) (r := tk) C fl_X13_298 (by decide) kc_73 (by decide) fr_13_58 (by first | exact htkq | (simp [up2]; exact htkq)) dX13_makeByte_35 rfl ?_
      refine r_aload_n (pc' := 39) C 0 rfl rfl dX13_makeByte_38 rfl ?_
      refine r_geti (pc' := 42) (k := 73) C fl_X13_292 (by decide) kc_73 (by decide) fr_13_59 dX13_makeByte_39 rfl (fun f9 => ?_)
      have ef9 : (up2 iv 73 57 0) 73 59 = (iv 73 59) := by simp [up2]
      rw [ef9] at f9 ⊢
      refine r_iload_n (pc' := 43) C 1 rfl rfl dX13_makeByte_42 rfl ?_
      refine r_i2b (pc' := 44) C dX13_makeByte_43 rfl ?_
      have o10 := h.1
      replace h := h.2
      refine r_bast (pc' := 45) (k := tk) C (by omega) htkc o10 dX13_makeByte_44 rfl ?_
      refine r_aload_n (pc' := 46) C 0 rfl rfl dX13_makeByte_45 rfl ?_
      refine r_dup (pc' := 47) C rfl dX13_makeByte_46 rfl ?_
      refine r_geti (pc' := 50) (k := 73) C fl_X13_292 (by decide) kc_73 (by decide) fr_13_59 dX13_makeByte_47 rfl (fun f11 => ?_)
      have ef11 : (up2 iv 73 57 0) 73 59 = (iv 73 59) := by simp [up2]
      rw [ef11] at f11 ⊢
      refine r_iconst (pc' := 51) C dX13_makeByte_50 rfl ?_
      refine r_iadd (pc' := 52) C dX13_makeByte_51 rfl ?_
      have o12 := h.1
      replace h := h.2
      refine r_puti (pc' := 55) (k := 73) C fl_X13_292 (by decide) kc_73 (by decide) fr_13_59 o12 dX13_makeByte_52 rfl ?_
      exact r_vret C ⟨rfl, rfl, h⟩ dX13_makeByte_55
    · replace h := h.2 c6
      refine r_iconst (pc' := 20) C dX13_makeByte_19 rfl ?_
      refine r_goto (tgt := 24) C dX13_makeByte_20 (by decide) ?_
      refine r_putz (pc' := 27) (k := 73) C fl_X13_269 (by decide) kc_73 (by decide) fr_13_57 (by decide) dX13_makeByte_24 rfl ?_
      refine r_aload_n (pc' := 28) C 0 rfl rfl dX13_makeByte_27 rfl ?_
      refine r_geti (pc' := 31) (k := 73) C fl_X13_269 (by decide) kc_73 (by decide) fr_13_57 dX13_makeByte_28 rfl (fun f13 => ?_)
      have ef13 : (up2 iv 73 57 1) 73 57 = 1 := by simp [up2]
      rw [ef13] at f13 ⊢
      refine r_if_ne (pc' := 34) (tgt := 55) C (by decide) dX13_makeByte_31 (by decide) rfl (fun _ => ?_) (fun z => absurd z (by decide))
      exact r_vret C ⟨rfl, rfl, h⟩ dX13_makeByte_55
def L_X13_readStored_42 (Y : Gl) (X : Cx) (P : PN) (x1 : Int) (x2 : Int) (iv av : IVt) : Prop := Wa Y X 3 (g_MQ Y X 0 (g_N RV 116 P) 0 0) 0 0 42 [(0, .ref (gl_b Y + 73)), (1, .int (i32 x1)), (2, .int (i32 x2))] [] RV iv av 116
set_option maxHeartbeats 4000000 in
set_option maxRecDepth 100000 in
theorem w_X13_readStored_42 {Y : Gl} {X : Cx} {e : Nat} {P : PN} {x1 : Int} {x2 : Int} {iv av : IVt} (C : CX Y X RX13 "readStored" cX13_readStored 3 none (e + 2) 0 0) (hx1 : InR x1) (hx2 : InR x2) (h :
    ((x1 ≤ x2) →
      P 0 iv av
    ) ∧
    ((¬ x1 ≤ x2) →
      ((InR (iv 73 57)) →
        ((¬ (iv 73 57) = 0) →
          P 0 iv av
        ) ∧
        (((iv 73 57) = 0) →
          OkN Y (e + 1) mX13_readNumber [.ref (gl_b Y + 73), .int (i32 8)] RV iv av 116 (fun r4 iv5 av6 =>
            (InR r4) →
            OkN Y (e + 1) mX13_makeByte [.ref (gl_b Y + 73), .int (i32 r4)] RV iv5 av6 116 (fun r8 iv9 av10 =>
              L_X13_readStored_42 Y X P x1 (x2 + 1) iv9 av10
            )
          )
        )
      )
    )) : L_X13_readStored_42 Y X P x1 x2 iv av := by
  unfold L_X13_readStored_42
  refine r_iload_n (pc' := 43) C 2 rfl rfl dX13_readStored_42 rfl ?_
  refine r_iload_n (pc' := 44) C 1 rfl rfl dX13_readStored_43 rfl ?_
  refine r_icmp_ge (pc' := 47) (tgt := 70) C hx2 hx1 dX13_readStored_44 (by decide) rfl (fun c1 => ?_) (fun c1 => ?_)
  · replace h := h.1 c1
    exact r_vret C ⟨rfl, rfl, h⟩ dX13_readStored_70
  · replace h := h.2 c1
    refine r_aload_n (pc' := 48) C 0 rfl rfl dX13_readStored_47 rfl ?_
    refine r_geti (pc' := 51) (k := 73) C fl_X13_269 (by decide) kc_73 (by decide) fr_13_57 dX13_readStored_48 rfl (fun f2 => ?_)
    replace h := h f2
    refine r_if_ne (pc' := 54) (tgt := 70) C f2 dX13_readStored_51 (by decide) rfl (fun c3 => ?_) (fun c3 => ?_)
    · replace h := h.1 c3
      exact r_vret C ⟨rfl, rfl, h⟩ dX13_readStored_70
    · replace h := h.2 c3
      refine r_aload_n (pc' := 55) C 0 rfl rfl dX13_readStored_54 rfl ?_
      refine r_aload_n (pc' := 56) C 0 rfl rfl dX13_readStored_55 rfl ?_
      refine r_bipush (pc' := 58) C dX13_readStored_56 (by decide) rfl ?_
      refine c_Vi (pc' := 61) (mt := mX13_readNumber) (as := [.int (i32 8)]) (st := [.ref (gl_b Y + 73)]) (k := 73) C h rfl cl_X13_readNumber ml_X13_304 im_X13_readNumber sl_X13_readNumber (by omega) (Nat.le_refl _) (Nat.le_refl _) rfl (by decide) kc_73 (by decide) rfl rfl rfl (Nat.le_of_ble_eq_true rfl) dX13_readStored_58 rfl (fun r4 iv5 av6 f7 h => ?_)
      replace h := h f7
      refine c_Vv (pc' := 64) (mt := mX13_makeByte) (as := [.int (i32 r4)]) (st := []) (k := 73) C h rfl cl_X13_makeByte ml_X13_307 im_X13_makeByte sl_X13_makeByte (by omega) (Nat.le_refl _) (Nat.le_refl _) rfl (by decide) kc_73 (by decide) rfl rfl rfl (Nat.le_of_ble_eq_true rfl) dX13_readStored_61 rfl (fun r8 iv9 av10 h => ?_)
      refine r_iinc (pc' := 67) (ls' := [(0, .ref (gl_b Y + 73)), (1, .int (i32 x1)), (2, .int (i32 (x2 + 1)))]) C 2 rfl (by decide) rfl dX13_readStored_64 rfl ?_
      refine r_goto (tgt := 42) C dX13_readStored_67 (by decide) ?_
      exact Wa.sub [0, 1, 2] rfl h
set_option maxHeartbeats 4000000 in
set_option maxRecDepth 100000 in
theorem o_X13_readStored {Y : Gl} {e : Nat} {P : PN} {iv av : IVt} (h : ∀ X : Cx, CX Y X RX13 "readStored" cX13_readStored 3 none (e + 2) 0 0 →
    OkN Y (e + 1) mX13_toByte [.ref (gl_b Y + 73)] RV iv av 116 (fun r1 iv2 av3 =>
      OkN Y (e + 1) mX13_readNumber [.ref (gl_b Y + 73), .int (i32 16)] RV iv2 av3 116 (fun r5 iv6 av7 =>
        (InR r5) →
        OkN Y (e + 1) mX13_readNumber [.ref (gl_b Y + 73), .int (i32 16)] RV iv6 av7 116 (fun r9 iv10 av11 =>
          (InR r9) →
          (InR (65535 - r5)) ∧
          ((¬ r9 = (65535 - r5)) →
            L_X13_readStored_42 Y X P r5 0 (up2 iv10 73 57 1) av11
          ) ∧
          ((r9 = (65535 - r5)) →
            ((InR (iv10 73 57)) →
              (((iv10 73 57) = 0) →
                L_X13_readStored_42 Y X P r5 0 (up2 iv10 73 57 0) av11
              ) ∧
              ((¬ (iv10 73 57) = 0) →
                L_X13_readStored_42 Y X P r5 0 (up2 iv10 73 57 1) av11
              )
            )
          )
        )
      )
    )) : OkN Y (e + 2) mX13_readStored [.ref (gl_b Y + 73)] RV iv av 116 P := by
  refine OkW.of rfl (by show _ ≤ 3; exact Nat.le_of_ble_eq_true rfl) fun X C0 hR => ?_
  have C : CX Y X RX13 "readStored" cX13_readStored 3 none (e + 2) 0 0 := C0
  replace h := h X C
  show Wa Y X 3 (g_MQ Y X 0 (g_N RV 116 P) 0 0) 0 0 0 [(0, .ref (gl_b Y + 73))] [] RV iv av 116
  refine r_aload_n (pc' := 1) C 0 rfl rfl dX13_readStored_0 rfl ?_
  refine c_Vv (pc' := 4) (mt := mX13_toByte) (as := []) (st := []) (k := 73) C h rfl cl_X13_toByte ml_X13_301 im_X13_toByte sl_X13_toByte (by omega) (Nat.le_refl _) (Nat.le_refl _) rfl (by decide) kc_73 (by decide) rfl rfl rfl (Nat.le_of_ble_eq_true rfl) dX13_readStored_1 rfl (fun r1 iv2 av3 h => ?_)
  refine r_aload_n (pc' := 5) C 0 rfl rfl dX13_readStored_4 rfl ?_
  refine r_bipush (pc' := 7) C dX13_readStored_5 (by decide) rfl ?_
  refine c_Vi (pc' := 10) (mt := mX13_readNumber) (as := [.int (i32 16)]) (st := []) (k := 73) C h rfl cl_X13_readNumber ml_X13_304 im_X13_readNumber sl_X13_readNumber (by omega) (Nat.le_refl _) (Nat.le_refl _) rfl (by decide) kc_73 (by decide) rfl rfl rfl (Nat.le_of_ble_eq_true rfl) dX13_readStored_7 rfl (fun r5 iv6 av7 f8 h => ?_)
  replace h := h f8
  refine r_istore_n (pc' := 11) (ls' := [(0, .ref (gl_b Y + 73)), (1, .int (i32 r5))]) C (by decide) rfl rfl dX13_readStored_10 rfl ?_
  refine r_aload_n (pc' := 12) C 0 rfl rfl dX13_readStored_11 rfl ?_
  refine r_aload_n (pc' := 13) C 0 rfl rfl dX13_readStored_12 rfl ?_
  refine r_bipush (pc' := 15) C dX13_readStored_13 (by decide) rfl ?_
  refine c_Vi (pc' := 18) (mt := mX13_readNumber) (as := [.int (i32 16)]) (st := [.ref (gl_b Y + 73)]) (k := 73) C h rfl cl_X13_readNumber ml_X13_304 im_X13_readNumber sl_X13_readNumber (by omega) (Nat.le_refl _) (Nat.le_refl _) rfl (by decide) kc_73 (by decide) rfl rfl rfl (Nat.le_of_ble_eq_true rfl) dX13_readStored_15 rfl (fun r9 iv10 av11 f12 h => ?_)
  replace h := h f12
  refine r_ldc (pc' := 20) (x := 65535) C ct_X13_246 (by decide) dX13_readStored_18 rfl ?_
  refine r_iload_n (pc' := 21) C 1 rfl rfl dX13_readStored_20 rfl ?_
  refine r_isub (pc' := 22) C dX13_readStored_21 rfl ?_
  have o13 := h.1
  replace h := h.2
  refine r_icmp_ne (pc' := 25) (tgt := 32) C f12 o13 dX13_readStored_22 (by decide) rfl (fun c14 => ?_) (fun c14 => ?_)
  · replace h := h.1 c14
    refine r_iconst (pc' := 33) C dX13_readStored_32 rfl ?_
    refine r_goto (tgt := 37) C dX13_readStored_33 (by decide) ?_
    refine r_putz (pc' := 40) (k := 73) C fl_X13_269 (by decide) kc_73 (by decide) fr_13_57 (by decide) dX13_readStored_37 rfl ?_
    refine r_iconst (pc' := 41) C dX13_readStored_40 rfl ?_
    refine r_istore_n (pc' := 42) (ls' := [(0, .ref (gl_b Y + 73)), (1, .int (i32 r5)), (2, .int (i32 0))]) C (by decide) rfl rfl dX13_readStored_41 rfl ?_
    exact Wa.sub [0, 1, 2] rfl h
  · replace h := h.2 c14
    refine r_aload_n (pc' := 26) C 0 rfl rfl dX13_readStored_25 rfl ?_
    refine r_geti (pc' := 29) (k := 73) C fl_X13_269 (by decide) kc_73 (by decide) fr_13_57 dX13_readStored_26 rfl (fun f15 => ?_)
    replace h := h f15
    refine r_if_eq (pc' := 32) (tgt := 36) C f15 dX13_readStored_29 (by decide) rfl (fun c16 => ?_) (fun c16 => ?_)
    · replace h := h.1 c16
      refine r_iconst (pc' := 37) C dX13_readStored_36 rfl ?_
      refine r_putz (pc' := 40) (k := 73) C fl_X13_269 (by decide) kc_73 (by decide) fr_13_57 (by decide) dX13_readStored_37 rfl ?_
      refine r_iconst (pc' := 41) C dX13_readStored_40 rfl ?_
      refine r_istore_n (pc' := 42) (ls' := [(0, .ref (gl_b Y + 73)), (1, .int (i32 r5)), (2, .int (i32 0))]) C (by decide) rfl rfl dX13_readStored_41 rfl ?_
      exact Wa.sub [0, 1, 2] rfl h
    · replace h := h.2 c16
      refine r_iconst (pc' := 33) C dX13_readStored_32 rfl ?_
      refine r_goto (tgt := 37) C dX13_readStored_33 (by decide) ?_
      refine r_putz (pc' := 40) (k := 73) C fl_X13_269 (by decide) kc_73 (by decide) fr_13_57 (by decide) dX13_readStored_37 rfl ?_
      refine r_iconst (pc' := 41) C dX13_readStored_40 rfl ?_
      refine r_istore_n (pc' := 42) (ls' := [(0, .ref (gl_b Y + 73)), (1, .int (i32 r5)), (2, .int (i32 0))]) C (by decide) rfl rfl dX13_readStored_41 rfl ?_
      exact Wa.sub [0, 1, 2] rfl h
def L_X13_readMade_58 (Y : Gl) (X : Cx) (P : PN) (x1 : Int) (x2 : Int) (x3 : Int) (x4 : Int) (iv av : IVt) : Prop := Wa Y X 8 (g_MQ Y X 0 (g_N RV 116 P) 0 0) 0 0 58 [(0, .ref (gl_b Y + 73)), (1, .int (i32 x1)), (2, .int (i32 x2)), (3, .int (i32 x3)), (4, .int (i32 x4))] [] RV iv av 116
def L_X13_readMade_139 (Y : Gl) (X : Cx) (P : PN) (x1 : Int) (x2 : Int) (x4 : Int) (iv av : IVt) : Prop := Wa Y X 8 (g_MQ Y X 0 (g_N RV 116 P) 0 0) 0 0 139 [(0, .ref (gl_b Y + 73)), (1, .int (i32 x1)), (2, .int (i32 x2)), (4, .int (i32 x4))] [] RV iv av 116
def L_X13_readMade_192 (Y : Gl) (X : Cx) (P : PN) (x1 : Int) (x2 : Int) (x4 : Int) (x5 : Int) (iv av : IVt) : Prop := Wa Y X 8 (g_MQ Y X 0 (g_N RV 116 P) 0 0) 0 0 192 [(0, .ref (gl_b Y + 73)), (1, .int (i32 x1)), (2, .int (i32 x2)), (4, .int (i32 x4)), (5, .int (i32 x5))] [] RV iv av 116
def L_X13_readMade_248 (Y : Gl) (X : Cx) (P : PN) (x1 : Int) (x2 : Int) (x4 : Int) (x5 : Int) (x6 : Int) (iv av : IVt) : Prop := Wa Y X 8 (g_MQ Y X 0 (g_N RV 116 P) 0 0) 0 0 248 [(0, .ref (gl_b Y + 73)), (1, .int (i32 x1)), (2, .int (i32 x2)), (4, .int (i32 x4)), (5, .int (i32 x5)), (6, .int (i32 x6))] [] RV iv av 116
def L_X13_readMade_275 (Y : Gl) (X : Cx) (P : PN) (x1 : Int) (x2 : Int) (x4 : Int) (x5 : Int) (x6 : Int) (iv av : IVt) : Prop := Wa Y X 8 (g_MQ Y X 0 (g_N RV 116 P) 0 0) 0 0 275 [(0, .ref (gl_b Y + 73)), (1, .int (i32 x1)), (2, .int (i32 x2)), (4, .int (i32 x4)), (5, .int (i32 x5)), (6, .int (i32 x6))] [] RV iv av 116
def L_X13_readMade_278 (Y : Gl) (X : Cx) (P : PN) (x1 : Int) (x2 : Int) (x4 : Int) (x5 : Int) (x6 : Int) (x7 : Int) (iv av : IVt) : Prop := Wa Y X 8 (g_MQ Y X 0 (g_N RV 116 P) 0 0) 0 0 278 [(0, .ref (gl_b Y + 73)), (1, .int (i32 x1)), (2, .int (i32 x2)), (4, .int (i32 x4)), (5, .int (i32 x5)), (6, .int (i32 x6)), (7, .int (i32 x7))] [] RV iv av 116
def L_X13_readMade_346 (Y : Gl) (X : Cx) (P : PN) (x1 : Int) (x2 : Int) (x5 : Int) (iv av : IVt) : Prop := Wa Y X 8 (g_MQ Y X 0 (g_N RV 116 P) 0 0) 0 0 346 [(0, .ref (gl_b Y + 73)), (1, .int (i32 x1)), (2, .int (i32 x2)), (5, .int (i32 x5))] [] RV iv av 116
def L_X13_readMade_419 (Y : Gl) (X : Cx) (P : PN) (x1 : Int) (x2 : Int) (x5 : Int) (iv av : IVt) : Prop := Wa Y X 8 (g_MQ Y X 0 (g_N RV 116 P) 0 0) 0 0 419 [(0, .ref (gl_b Y + 73)), (1, .int (i32 x1)), (2, .int (i32 x2)), (5, .int (i32 x5))] [] RV iv av 116
def L_X13_readMade_425 (Y : Gl) (X : Cx) (P : PN) (iv av : IVt) : Prop := Wa Y X 8 (g_MQ Y X 0 (g_N RV 116 P) 0 0) 0 0 425 [(0, .ref (gl_b Y + 73))] [] RV iv av 116
def L_X13_readMade_491 (Y : Gl) (X : Cx) (P : PN) (iv av : IVt) : Prop := Wa Y X 8 (g_MQ Y X 0 (g_N RV 116 P) 0 0) 0 0 491 [] [] RV iv av 116
set_option maxHeartbeats 4000000 in
set_option maxRecDepth 100000 in
theorem w_X13_readMade_491 {Y : Gl} {X : Cx} {e : Nat} {P : PN} {iv av : IVt} (C : CX Y X RX13 "readMade" cX13_readMade 8 none (e + 2) 0 0) (h :
    P 0 iv av) : L_X13_readMade_491 Y X P iv av := by
  unfold L_X13_readMade_491
  exact r_vret C ⟨rfl, rfl, h⟩ dX13_readMade_491
set_option maxHeartbeats 4000000 in
set_option maxRecDepth 100000 in
theorem w_X13_readMade_425 {Y : Gl} {X : Cx} {e : Nat} {P : PN} {iv av : IVt} (C : CX Y X RX13 "readMade" cX13_readMade 8 none (e + 2) 0 0) (h :
    ((InR (iv 73 57)) →
      ((¬ (iv 73 57) = 0) →
        L_X13_readMade_491 Y X P (up2 iv 73 57 1) av
      ) ∧
      (((iv 73 57) = 0) →
        ((InR (av 115 256)) →
          (((av 115 256) = 0) →
            L_X13_readMade_491 Y X P (up2 iv 73 57 1) av
          ) ∧
          ((¬ (av 115 256) = 0) →
            OkN Y (e + 1) mX12_make [.ref (gl_b Y + 109), .ref (gl_b Y + 115), .int (i32 0), .int (i32 288), .int (i32 0)] RV iv av 116 (fun r5 iv6 av7 =>
              (InR r5) →
              ((r5 = 0) →
                L_X13_readMade_491 Y X P (up2 iv6 73 57 1) av7
              ) ∧
              ((¬ r5 = 0) →
                OkN Y (e + 1) mX12_make [.ref (gl_b Y + 111), .ref (gl_b Y + 115), .int (i32 288), .int (i32 32), .int (i32 1)] RV iv6 av7 116 (fun r10 iv11 av12 =>
                  (InR r10) →
                  ((¬ r10 = 0) →
                    L_X13_readMade_491 Y X P (up2 iv11 73 57 0) av12
                  ) ∧
                  ((r10 = 0) →
                    L_X13_readMade_491 Y X P (up2 iv11 73 57 1) av12
                  )
                )
              )
            )
          )
        )
      )
    )) : L_X13_readMade_425 Y X P iv av := by
  unfold L_X13_readMade_425
  refine r_aload_n (pc' := 426) C 0 rfl rfl dX13_readMade_425 rfl ?_
  refine r_aload_n (pc' := 427) C 0 rfl rfl dX13_readMade_426 rfl ?_
  refine r_geti (pc' := 430) (k := 73) C fl_X13_269 (by decide) kc_73 (by decide) fr_13_57 dX13_readMade_427 rfl (fun f1 => ?_)
  replace h := h f1
  refine r_if_ne (pc' := 433) (tgt := 483) C f1 dX13_readMade_430 (by decide) rfl (fun c2 => ?_) (fun c2 => ?_)
  · replace h := h.1 c2
    refine r_iconst (pc' := 484) C dX13_readMade_483 rfl ?_
    refine r_goto (tgt := 488) C dX13_readMade_484 (by decide) ?_
    refine r_putz (pc' := 491) (k := 73) C fl_X13_269 (by decide) kc_73 (by decide) fr_13_57 (by decide) dX13_readMade_488 rfl ?_
    exact Wa.sub [] rfl h
  · replace h := h.2 c2
    refine r_aload_n (pc' := 434) C 0 rfl rfl dX13_readMade_433 rfl ?_
    refine r_getr (pc' := 437) (k := 73) (r := 115) C fl_X13_136 (by decide) kc_73 (by decide) fr_13_52 RV_73_52 dX13_readMade_434 rfl ?_
    refine r_sipush (pc' := 440) C dX13_readMade_437 (by decide) rfl ?_
    refine r_iald (pc' := 441) (k := 115) C (by decide) kc_115 (by rw [kl_115]; decide) dX13_readMade_440 rfl (fun f3 => ?_)
    replace f3 : InR (av 115 256) := f3
    rw [show (256 : Int).toNat = 256 from rfl]
    replace h := h f3
    refine r_if_eq (pc' := 444) (tgt := 483) C f3 dX13_readMade_441 (by decide) rfl (fun c4 => ?_) (fun c4 => ?_)
    · replace h := h.1 c4
      refine r_iconst (pc' := 484) C dX13_readMade_483 rfl ?_
      refine r_goto (tgt := 488) C dX13_readMade_484 (by decide) ?_
      refine r_putz (pc' := 491) (k := 73) C fl_X13_269 (by decide) kc_73 (by decide) fr_13_57 (by decide) dX13_readMade_488 rfl ?_
      exact Wa.sub [] rfl h
    · replace h := h.2 c4
      refine r_aload_n (pc' := 445) C 0 rfl rfl dX13_readMade_444 rfl ?_
      refine r_getr (pc' := 448) (k := 73) (r := 109) C fl_X13_126 (by decide) kc_73 (by decide) fr_13_49 RV_73_49 dX13_readMade_445 rfl ?_
      refine r_aload_n (pc' := 449) C 0 rfl rfl dX13_readMade_448 rfl ?_
      refine r_getr (pc' := 452) (k := 73) (r := 115) C fl_X13_136 (by decide) kc_73 (by decide) fr_13_52 RV_73_52 dX13_readMade_449 rfl ?_
      refine r_iconst (pc' := 453) C dX13_readMade_452 rfl ?_
      refine r_sipush (pc' := 456) C dX13_readMade_453 (by decide) rfl ?_
      refine r_iconst (pc' := 457) C dX13_readMade_456 rfl ?_
      refine c_Vi (pc' := 460) (mt := mX12_make) (as := [.ref (gl_b Y + 115), .int (i32 0), .int (i32 288), .int (i32 0)]) (st := [.ref (gl_b Y + 73)]) (k := 109) C h rfl cl_X12_make ml_X13_310 im_X12_make sl_X12_make (by omega) (Nat.le_refl _) (Nat.le_refl _) rfl (by decide) kc_109 (by decide) rfl rfl rfl (Nat.le_of_ble_eq_true rfl) dX13_readMade_457 rfl (fun r5 iv6 av7 f8 h => ?_)
      replace h := h f8
      refine r_if_eq (pc' := 463) (tgt := 483) C f8 dX13_readMade_460 (by decide) rfl (fun c9 => ?_) (fun c9 => ?_)
      · replace h := h.1 c9
        refine r_iconst (pc' := 484) C dX13_readMade_483 rfl ?_
        refine r_goto (tgt := 488) C dX13_readMade_484 (by decide) ?_
        refine r_putz (pc' := 491) (k := 73) C fl_X13_269 (by decide) kc_73 (by decide) fr_13_57 (by decide) dX13_readMade_488 rfl ?_
        exact Wa.sub [] rfl h
      · replace h := h.2 c9
        refine r_aload_n (pc' := 464) C 0 rfl rfl dX13_readMade_463 rfl ?_
        refine r_getr (pc' := 467) (k := 73) (r := 111) C fl_X13_130 (by decide) kc_73 (by decide) fr_13_50 RV_73_50 dX13_readMade_464 rfl ?_
        refine r_aload_n (pc' := 468) C 0 rfl rfl dX13_readMade_467 rfl ?_
        refine r_getr (pc' := 471) (k := 73) (r := 115) C fl_X13_136 (by decide) kc_73 (by decide) fr_13_52 RV_73_52 dX13_readMade_468 rfl ?_
        refine r_sipush (pc' := 474) C dX13_readMade_471 (by decide) rfl ?_
        refine r_bipush (pc' := 476) C dX13_readMade_474 (by decide) rfl ?_
        refine r_iconst (pc' := 477) C dX13_readMade_476 rfl ?_
        refine c_Vi (pc' := 480) (mt := mX12_make) (as := [.ref (gl_b Y + 115), .int (i32 288), .int (i32 32), .int (i32 1)]) (st := [.ref (gl_b Y + 73)]) (k := 111) C h rfl cl_X12_make ml_X13_310 im_X12_make sl_X12_make (by omega) (Nat.le_refl _) (Nat.le_refl _) rfl (by decide) kc_111 (by decide) rfl rfl rfl (Nat.le_of_ble_eq_true rfl) dX13_readMade_477 rfl (fun r10 iv11 av12 f13 h => ?_)
        replace h := h f13
        refine r_if_ne (pc' := 483) (tgt := 487) C f13 dX13_readMade_480 (by decide) rfl (fun c14 => ?_) (fun c14 => ?_)
        · replace h := h.1 c14
          refine r_iconst (pc' := 488) C dX13_readMade_487 rfl ?_
          refine r_putz (pc' := 491) (k := 73) C fl_X13_269 (by decide) kc_73 (by decide) fr_13_57 (by decide) dX13_readMade_488 rfl ?_
          exact Wa.sub [] rfl h
        · replace h := h.2 c14
          refine r_iconst (pc' := 484) C dX13_readMade_483 rfl ?_
          refine r_goto (tgt := 488) C dX13_readMade_484 (by decide) ?_
          refine r_putz (pc' := 491) (k := 73) C fl_X13_269 (by decide) kc_73 (by decide) fr_13_57 (by decide) dX13_readMade_488 rfl ?_
          exact Wa.sub [] rfl h
set_option maxHeartbeats 4000000 in
set_option maxRecDepth 100000 in
theorem w_X13_readMade_419 {Y : Gl} {X : Cx} {e : Nat} {P : PN} {x1 : Int} {x2 : Int} {x5 : Int} {iv av : IVt} (C : CX Y X RX13 "readMade" cX13_readMade 8 none (e + 2) 0 0) (h :
    L_X13_readMade_346 Y X P x1 x2 (x5 + 1) iv av) : L_X13_readMade_419 Y X P x1 x2 x5 iv av := by
  unfold L_X13_readMade_419
  refine r_iinc (pc' := 422) (ls' := [(0, .ref (gl_b Y + 73)), (1, .int (i32 x1)), (2, .int (i32 x2)), (5, .int (i32 (x5 + 1)))]) C 3 rfl (by decide) rfl dX13_readMade_419 rfl ?_
  refine r_goto (tgt := 346) C dX13_readMade_422 (by decide) ?_
  exact Wa.sub [0, 1, 2, 3] rfl h
set_option maxHeartbeats 4000000 in
set_option maxRecDepth 100000 in
theorem w_X13_readMade_346 {Y : Gl} {X : Cx} {e : Nat} {P : PN} {x1 : Int} {x2 : Int} {x5 : Int} {iv av : IVt} (C : CX Y X RX13 "readMade" cX13_readMade 8 none (e + 2) 0 0) (hx1 : InR x1) (hx2 : InR x2) (hx5 : InR x5) (h :
    ((320 ≤ x5) →
      L_X13_readMade_425 Y X P iv av
    ) ∧
    ((¬ 320 ≤ x5) →
      ((InR (iv 73 57)) →
        ((¬ (iv 73 57) = 0) →
          L_X13_readMade_425 Y X P iv av
        ) ∧
        (((iv 73 57) = 0) →
          ((x1 ≤ x5) →
            ((x5 < 288) →
              (0 ≤ x5 ∧ x5 < 339) ∧
              L_X13_readMade_419 Y X P x1 x2 x5 iv (up2 av 115 x5.toNat 0)
            ) ∧
            ((¬ x5 < 288) →
              (InR (x5 - 288)) ∧
              ((x2 ≤ (x5 - 288)) →
                (0 ≤ x5 ∧ x5 < 339) ∧
                L_X13_readMade_419 Y X P x1 x2 x5 iv (up2 av 115 x5.toNat 0)
              ) ∧
              ((¬ x2 ≤ (x5 - 288)) →
                (0 ≤ ((x1 + x5) - 288) ∧ ((x1 + x5) - 288) < 320) ∧
                ((InR (av 105 ((x1 + x5) - 288).toNat)) →
                  (0 ≤ x5 ∧ x5 < 339) ∧
                  L_X13_readMade_419 Y X P x1 x2 x5 iv (up2 av 115 x5.toNat (av 105 ((x1 + x5) - 288).toNat))
                )
              )
            )
          ) ∧
          ((¬ x1 ≤ x5) →
            (0 ≤ x5 ∧ x5 < 320) ∧
            ((InR (av 105 x5.toNat)) →
              (0 ≤ x5 ∧ x5 < 339) ∧
              L_X13_readMade_419 Y X P x1 x2 x5 iv (up2 av 115 x5.toNat (av 105 x5.toNat))
            )
          )
        )
      )
    )) : L_X13_readMade_346 Y X P x1 x2 x5 iv av := by
  unfold L_X13_readMade_346
  refine r_iload (pc' := 348) C 3 rfl dX13_readMade_346 rfl ?_
  refine r_sipush (pc' := 351) C dX13_readMade_348 (by decide) rfl ?_
  refine r_icmp_ge (pc' := 354) (tgt := 425) C hx5 (by decide) dX13_readMade_351 (by decide) rfl (fun c1 => ?_) (fun c1 => ?_)
  · replace h := h.1 c1
    exact Wa.sub [0] rfl h
  · replace h := h.2 c1
    refine r_aload_n (pc' := 355) C 0 rfl rfl dX13_readMade_354 rfl ?_
    refine r_geti (pc' := 358) (k := 73) C fl_X13_269 (by decide) kc_73 (by decide) fr_13_57 dX13_readMade_355 rfl (fun f2 => ?_)
    replace h := h f2
    refine r_if_ne (pc' := 361) (tgt := 425) C f2 dX13_readMade_358 (by decide) rfl (fun c3 => ?_) (fun c3 => ?_)
    · replace h := h.1 c3
      exact Wa.sub [0] rfl h
    · replace h := h.2 c3
      refine r_aload_n (pc' := 362) C 0 rfl rfl dX13_readMade_361 rfl ?_
      refine r_getr (pc' := 365) (k := 73) (r := 115) C fl_X13_136 (by decide) kc_73 (by decide) fr_13_52 RV_73_52 dX13_readMade_362 rfl ?_
      refine r_iload (pc' := 367) C 3 rfl dX13_readMade_365 rfl ?_
      refine r_iload (pc' := 369) C 3 rfl dX13_readMade_367 rfl ?_
      refine r_iload_n (pc' := 370) C 1 rfl rfl dX13_readMade_369 rfl ?_
      refine r_icmp_ge (pc' := 373) (tgt := 383) C hx5 hx1 dX13_readMade_370 (by decide) rfl (fun c4 => ?_) (fun c4 => ?_)
      · replace h := h.1 c4
        refine r_iload (pc' := 385) C 3 rfl dX13_readMade_383 rfl ?_
        refine r_sipush (pc' := 388) C dX13_readMade_385 (by decide) rfl ?_
        refine r_icmp_lt (pc' := 391) (tgt := 417) C hx5 (by decide) dX13_readMade_388 (by decide) rfl (fun c5 => ?_) (fun c5 => ?_)
        · replace h := h.1 c5
          refine r_iconst (pc' := 418) C dX13_readMade_417 rfl ?_
          have o6 := h.1
          replace h := h.2
          refine r_iast (pc' := 419) (k := 115) C (by decide) kc_115 (by have := kl_115; omega) (by decide) dX13_readMade_418 rfl ?_
          exact Wa.sub [0, 1, 2, 3] rfl h
        · replace h := h.2 c5
          refine r_iload (pc' := 393) C 3 rfl dX13_readMade_391 rfl ?_
          refine r_sipush (pc' := 396) C dX13_readMade_393 (by decide) rfl ?_
          refine r_isub (pc' := 397) C dX13_readMade_396 rfl ?_
          refine r_iload_n (pc' := 398) C 2 rfl rfl dX13_readMade_397 rfl ?_
          have o7 := h.1
          replace h := h.2
          refine r_icmp_ge (pc' := 401) (tgt := 417) C o7 hx2 dX13_readMade_398 (by decide) rfl (fun c8 => ?_) (fun c8 => ?_)
          · replace h := h.1 c8
            refine r_iconst (pc' := 418) C dX13_readMade_417 rfl ?_
            have o9 := h.1
            replace h := h.2
            refine r_iast (pc' := 419) (k := 115) C (by decide) kc_115 (by have := kl_115; omega) (by decide) dX13_readMade_418 rfl ?_
            exact Wa.sub [0, 1, 2, 3] rfl h
          · replace h := h.2 c8
            refine r_aload_n (pc' := 402) C 0 rfl rfl dX13_readMade_401 rfl ?_
            refine r_getr (pc' := 405) (k := 73) (r := 105) C fl_X13_111 (by decide) kc_73 (by decide) fr_13_44 RV_73_44 dX13_readMade_402 rfl ?_
            refine r_iload_n (pc' := 406) C 1 rfl rfl dX13_readMade_405 rfl ?_
            refine r_iload (pc' := 408) C 3 rfl dX13_readMade_406 rfl ?_
            refine r_iadd (pc' := 409) C dX13_readMade_408 rfl ?_
            refine r_sipush (pc' := 412) C dX13_readMade_409 (by decide) rfl ?_
            refine r_isub (pc' := 413) C dX13_readMade_412 rfl ?_
            have o10 := h.1
            replace h := h.2
            refine r_iald (pc' := 414) (k := 105) C (by decide) kc_105 (by have := kl_105; omega) dX13_readMade_413 rfl (fun f11 => ?_)
            replace h := h f11
            refine r_goto (tgt := 418) C dX13_readMade_414 (by decide) ?_
            have o12 := h.1
            replace h := h.2
            refine r_iast (pc' := 419) (k := 115) C (by decide) kc_115 (by have := kl_115; omega) f11 dX13_readMade_418 rfl ?_
            exact Wa.sub [0, 1, 2, 3] rfl h
      · replace h := h.2 c4
        refine r_aload_n (pc' := 374) C 0 rfl rfl dX13_readMade_373 rfl ?_
        refine r_getr (pc' := 377) (k := 73) (r := 105) C fl_X13_111 (by decide) kc_73 (by decide) fr_13_44 RV_73_44 dX13_readMade_374 rfl ?_
        refine r_iload (pc' := 379) C 3 rfl dX13_readMade_377 rfl ?_
        have o13 := h.1
        replace h := h.2
        refine r_iald (pc' := 380) (k := 105) C (by decide) kc_105 (by have := kl_105; omega) dX13_readMade_379 rfl (fun f14 => ?_)
        replace h := h f14
        refine r_goto (tgt := 418) C dX13_readMade_380 (by decide) ?_
        have o15 := h.1
        replace h := h.2
        refine r_iast (pc' := 419) (k := 115) C (by decide) kc_115 (by have := kl_115; omega) f14 dX13_readMade_418 rfl ?_
        exact Wa.sub [0, 1, 2, 3] rfl h
set_option maxHeartbeats 4000000 in
set_option maxRecDepth 100000 in
theorem w_X13_readMade_278 {Y : Gl} {X : Cx} {e : Nat} {P : PN} {x1 : Int} {x2 : Int} {x4 : Int} {x5 : Int} {x6 : Int} {x7 : Int} {iv av : IVt} (C : CX Y X RX13 "readMade" cX13_readMade 8 none (e + 2) 0 0) (hx5 : InR x5) (hx6 : InR x6) (hx7 : InR x7) (h :
    ((x6 ≤ x7) →
      L_X13_readMade_139 Y X P x1 x2 x4 iv av
    ) ∧
    ((¬ x6 ≤ x7) →
      ((InR (iv 73 57)) →
        ((¬ (iv 73 57) = 0) →
          L_X13_readMade_139 Y X P x1 x2 x4 iv av
        ) ∧
        (((iv 73 57) = 0) →
          ((16 ≤ x5) →
            ((¬ x5 = 16) →
              (0 ≤ x4 ∧ x4 < 320) ∧
              L_X13_readMade_278 Y X P x1 x2 (x4 + 1) x5 x6 (x7 + 1) iv (up2 av 105 x4.toNat 0)
            ) ∧
            ((x5 = 16) →
              (0 ≤ (x4 - 1) ∧ (x4 - 1) < 320) ∧
              ((InR (av 105 (x4 - 1).toNat)) →
                (0 ≤ x4 ∧ x4 < 320) ∧
                L_X13_readMade_278 Y X P x1 x2 (x4 + 1) x5 x6 (x7 + 1) iv (up2 av 105 x4.toNat (av 105 (x4 - 1).toNat))
              )
            )
          ) ∧
          ((¬ 16 ≤ x5) →
            (0 ≤ x4 ∧ x4 < 320) ∧
            L_X13_readMade_278 Y X P x1 x2 (x4 + 1) x5 x6 (x7 + 1) iv (up2 av 105 x4.toNat x5)
          )
        )
      )
    )) : L_X13_readMade_278 Y X P x1 x2 x4 x5 x6 x7 iv av := by
  unfold L_X13_readMade_278
  refine r_iload (pc' := 280) C 6 rfl dX13_readMade_278 rfl ?_
  refine r_iload (pc' := 282) C 5 rfl dX13_readMade_280 rfl ?_
  refine r_icmp_ge (pc' := 285) (tgt := 340) C hx7 hx6 dX13_readMade_282 (by decide) rfl (fun c1 => ?_) (fun c1 => ?_)
  · replace h := h.1 c1
    refine r_goto (tgt := 139) C dX13_readMade_340 (by decide) ?_
    exact Wa.sub [0, 1, 2, 3] rfl h
  · replace h := h.2 c1
    refine r_aload_n (pc' := 286) C 0 rfl rfl dX13_readMade_285 rfl ?_
    refine r_geti (pc' := 289) (k := 73) C fl_X13_269 (by decide) kc_73 (by decide) fr_13_57 dX13_readMade_286 rfl (fun f2 => ?_)
    replace h := h f2
    refine r_if_ne (pc' := 292) (tgt := 340) C f2 dX13_readMade_289 (by decide) rfl (fun c3 => ?_) (fun c3 => ?_)
    · replace h := h.1 c3
      refine r_goto (tgt := 139) C dX13_readMade_340 (by decide) ?_
      exact Wa.sub [0, 1, 2, 3] rfl h
    · replace h := h.2 c3
      refine r_aload_n (pc' := 293) C 0 rfl rfl dX13_readMade_292 rfl ?_
      refine r_getr (pc' := 296) (k := 73) (r := 105) C fl_X13_111 (by decide) kc_73 (by decide) fr_13_44 RV_73_44 dX13_readMade_293 rfl ?_
      refine r_iload (pc' := 298) C 3 rfl dX13_readMade_296 rfl ?_
      refine r_iload (pc' := 300) C 4 rfl dX13_readMade_298 rfl ?_
      refine r_bipush (pc' := 302) C dX13_readMade_300 (by decide) rfl ?_
      refine r_icmp_ge (pc' := 305) (tgt := 310) C hx5 (by decide) dX13_readMade_302 (by decide) rfl (fun c4 => ?_) (fun c4 => ?_)
      · replace h := h.1 c4
        refine r_iload (pc' := 312) C 4 rfl dX13_readMade_310 rfl ?_
        refine r_bipush (pc' := 314) C dX13_readMade_312 (by decide) rfl ?_
        refine r_icmp_ne (pc' := 317) (tgt := 329) C hx5 (by decide) dX13_readMade_314 (by decide) rfl (fun c5 => ?_) (fun c5 => ?_)
        · replace h := h.1 c5
          refine r_iconst (pc' := 330) C dX13_readMade_329 rfl ?_
          have o6 := h.1
          replace h := h.2
          refine r_iast (pc' := 331) (k := 105) C (by decide) kc_105 (by have := kl_105; omega) (by decide) dX13_readMade_330 rfl ?_
          refine r_iinc (pc' := 334) (ls' := [(0, .ref (gl_b Y + 73)), (1, .int (i32 x1)), (2, .int (i32 x2)), (4, .int (i32 (x4 + 1))), (5, .int (i32 x5)), (6, .int (i32 x6)), (7, .int (i32 x7))]) C 3 rfl (by decide) rfl dX13_readMade_331 rfl ?_
          refine r_iinc (pc' := 337) (ls' := [(0, .ref (gl_b Y + 73)), (1, .int (i32 x1)), (2, .int (i32 x2)), (4, .int (i32 (x4 + 1))), (5, .int (i32 x5)), (6, .int (i32 x6)), (7, .int (i32 (x7 + 1)))]) C 6 rfl (by decide) rfl dX13_readMade_334 rfl ?_
          refine r_goto (tgt := 278) C dX13_readMade_337 (by decide) ?_
          exact Wa.sub [0, 1, 2, 3, 4, 5, 6] rfl h
        · replace h := h.2 c5
          refine r_aload_n (pc' := 318) C 0 rfl rfl dX13_readMade_317 rfl ?_
          refine r_getr (pc' := 321) (k := 73) (r := 105) C fl_X13_111 (by decide) kc_73 (by decide) fr_13_44 RV_73_44 dX13_readMade_318 rfl ?_
          refine r_iload (pc' := 323) C 3 rfl dX13_readMade_321 rfl ?_
          refine r_iconst (pc' := 324) C dX13_readMade_323 rfl ?_
          refine r_isub (pc' := 325) C dX13_readMade_324 rfl ?_
          have o7 := h.1
          replace h := h.2
          refine r_iald (pc' := 326) (k := 105) C (by decide) kc_105 (by have := kl_105; omega) dX13_readMade_325 rfl (fun f8 => ?_)
          replace h := h f8
          refine r_goto (tgt := 330) C dX13_readMade_326 (by decide) ?_
          have o9 := h.1
          replace h := h.2
          refine r_iast (pc' := 331) (k := 105) C (by decide) kc_105 (by have := kl_105; omega) f8 dX13_readMade_330 rfl ?_
          refine r_iinc (pc' := 334) (ls' := [(0, .ref (gl_b Y + 73)), (1, .int (i32 x1)), (2, .int (i32 x2)), (4, .int (i32 (x4 + 1))), (5, .int (i32 x5)), (6, .int (i32 x6)), (7, .int (i32 x7))]) C 3 rfl (by decide) rfl dX13_readMade_331 rfl ?_
          refine r_iinc (pc' := 337) (ls' := [(0, .ref (gl_b Y + 73)), (1, .int (i32 x1)), (2, .int (i32 x2)), (4, .int (i32 (x4 + 1))), (5, .int (i32 x5)), (6, .int (i32 x6)), (7, .int (i32 (x7 + 1)))]) C 6 rfl (by decide) rfl dX13_readMade_334 rfl ?_
          refine r_goto (tgt := 278) C dX13_readMade_337 (by decide) ?_
          exact Wa.sub [0, 1, 2, 3, 4, 5, 6] rfl h
      · replace h := h.2 c4
        refine r_iload (pc' := 307) C 4 rfl dX13_readMade_305 rfl ?_
        refine r_goto (tgt := 330) C dX13_readMade_307 (by decide) ?_
        have o10 := h.1
        replace h := h.2
        refine r_iast (pc' := 331) (k := 105) C (by decide) kc_105 (by have := kl_105; omega) hx5 dX13_readMade_330 rfl ?_
        refine r_iinc (pc' := 334) (ls' := [(0, .ref (gl_b Y + 73)), (1, .int (i32 x1)), (2, .int (i32 x2)), (4, .int (i32 (x4 + 1))), (5, .int (i32 x5)), (6, .int (i32 x6)), (7, .int (i32 x7))]) C 3 rfl (by decide) rfl dX13_readMade_331 rfl ?_
        refine r_iinc (pc' := 337) (ls' := [(0, .ref (gl_b Y + 73)), (1, .int (i32 x1)), (2, .int (i32 x2)), (4, .int (i32 (x4 + 1))), (5, .int (i32 x5)), (6, .int (i32 x6)), (7, .int (i32 (x7 + 1)))]) C 6 rfl (by decide) rfl dX13_readMade_334 rfl ?_
        refine r_goto (tgt := 278) C dX13_readMade_337 (by decide) ?_
        exact Wa.sub [0, 1, 2, 3, 4, 5, 6] rfl h
set_option maxHeartbeats 4000000 in
set_option maxRecDepth 100000 in
theorem w_X13_readMade_275 {Y : Gl} {X : Cx} {e : Nat} {P : PN} {x1 : Int} {x2 : Int} {x4 : Int} {x5 : Int} {x6 : Int} {iv av : IVt} (C : CX Y X RX13 "readMade" cX13_readMade 8 none (e + 2) 0 0) (h :
    L_X13_readMade_278 Y X P x1 x2 x4 x5 x6 0 iv av) : L_X13_readMade_275 Y X P x1 x2 x4 x5 x6 iv av := by
  unfold L_X13_readMade_275
  refine r_iconst (pc' := 276) C dX13_readMade_275 rfl ?_
  refine r_istore (pc' := 278) (ls' := [(0, .ref (gl_b Y + 73)), (1, .int (i32 x1)), (2, .int (i32 x2)), (4, .int (i32 x4)), (5, .int (i32 x5)), (6, .int (i32 x6)), (7, .int (i32 0))]) C (by decide) rfl dX13_readMade_276 rfl ?_
  exact Wa.sub [0, 1, 2, 3, 4, 5, 6] rfl h
set_option maxHeartbeats 4000000 in
set_option maxRecDepth 100000 in
theorem w_X13_readMade_248 {Y : Gl} {X : Cx} {e : Nat} {P : PN} {x1 : Int} {x2 : Int} {x4 : Int} {x5 : Int} {x6 : Int} {iv av : IVt} (C : CX Y X RX13 "readMade" cX13_readMade 8 none (e + 2) 0 0) (h :
    ((InR (iv 73 57)) →
      ((¬ (iv 73 57) = 0) →
        L_X13_readMade_275 Y X P x1 x2 x4 x5 x6 (up2 iv 73 57 1) av
      ) ∧
      (((iv 73 57) = 0) →
        (InR (x4 + x6)) ∧
        (InR (x1 + x2)) ∧
        (((x4 + x6) ≤ (x1 + x2)) →
          L_X13_readMade_275 Y X P x1 x2 x4 x5 x6 (up2 iv 73 57 0) av
        ) ∧
        ((¬ (x4 + x6) ≤ (x1 + x2)) →
          L_X13_readMade_275 Y X P x1 x2 x4 x5 x6 (up2 iv 73 57 1) av
        )
      )
    )) : L_X13_readMade_248 Y X P x1 x2 x4 x5 x6 iv av := by
  unfold L_X13_readMade_248
  refine r_aload_n (pc' := 249) C 0 rfl rfl dX13_readMade_248 rfl ?_
  refine r_aload_n (pc' := 250) C 0 rfl rfl dX13_readMade_249 rfl ?_
  refine r_geti (pc' := 253) (k := 73) C fl_X13_269 (by decide) kc_73 (by decide) fr_13_57 dX13_readMade_250 rfl (fun f1 => ?_)
  replace h := h f1
  refine r_if_ne (pc' := 256) (tgt := 267) C f1 dX13_readMade_253 (by decide) rfl (fun c2 => ?_) (fun c2 => ?_)
  · replace h := h.1 c2
    refine r_iconst (pc' := 268) C dX13_readMade_267 rfl ?_
    refine r_goto (tgt := 272) C dX13_readMade_268 (by decide) ?_
    refine r_putz (pc' := 275) (k := 73) C fl_X13_269 (by decide) kc_73 (by decide) fr_13_57 (by decide) dX13_readMade_272 rfl ?_
    exact Wa.sub [0, 1, 2, 3, 4, 5] rfl h
  · replace h := h.2 c2
    refine r_iload (pc' := 258) C 3 rfl dX13_readMade_256 rfl ?_
    refine r_iload (pc' := 260) C 5 rfl dX13_readMade_258 rfl ?_
    refine r_iadd (pc' := 261) C dX13_readMade_260 rfl ?_
    refine r_iload_n (pc' := 262) C 1 rfl rfl dX13_readMade_261 rfl ?_
    refine r_iload_n (pc' := 263) C 2 rfl rfl dX13_readMade_262 rfl ?_
    refine r_iadd (pc' := 264) C dX13_readMade_263 rfl ?_
    have o3 := h.1
    replace h := h.2
    have o4 := h.1
    replace h := h.2
    refine r_icmp_le (pc' := 267) (tgt := 271) C o3 o4 dX13_readMade_264 (by decide) rfl (fun c5 => ?_) (fun c5 => ?_)
    · replace h := h.1 c5
      refine r_iconst (pc' := 272) C dX13_readMade_271 rfl ?_
      refine r_putz (pc' := 275) (k := 73) C fl_X13_269 (by decide) kc_73 (by decide) fr_13_57 (by decide) dX13_readMade_272 rfl ?_
      exact Wa.sub [0, 1, 2, 3, 4, 5] rfl h
    · replace h := h.2 c5
      refine r_iconst (pc' := 268) C dX13_readMade_267 rfl ?_
      refine r_goto (tgt := 272) C dX13_readMade_268 (by decide) ?_
      refine r_putz (pc' := 275) (k := 73) C fl_X13_269 (by decide) kc_73 (by decide) fr_13_57 (by decide) dX13_readMade_272 rfl ?_
      exact Wa.sub [0, 1, 2, 3, 4, 5] rfl h
set_option maxHeartbeats 4000000 in
set_option maxRecDepth 100000 in
theorem w_X13_readMade_192 {Y : Gl} {X : Cx} {e : Nat} {P : PN} {x1 : Int} {x2 : Int} {x4 : Int} {x5 : Int} {iv av : IVt} (C : CX Y X RX13 "readMade" cX13_readMade 8 none (e + 2) 0 0) (hx5 : InR x5) (h :
    ((¬ x5 = 16) →
      ((¬ x5 = 17) →
        ((¬ x5 = 18) →
          L_X13_readMade_248 Y X P x1 x2 x4 x5 1 iv av
        ) ∧
        ((x5 = 18) →
          OkN Y (e + 1) mX13_readNumber [.ref (gl_b Y + 73), .int (i32 7)] RV iv av 116 (fun r4 iv5 av6 =>
            (InR r4) →
            L_X13_readMade_248 Y X P x1 x2 x4 x5 (11 + r4) iv5 av6
          )
        )
      ) ∧
      ((x5 = 17) →
        OkN Y (e + 1) mX13_readNumber [.ref (gl_b Y + 73), .int (i32 3)] RV iv av 116 (fun r8 iv9 av10 =>
          (InR r8) →
          L_X13_readMade_248 Y X P x1 x2 x4 x5 (3 + r8) iv9 av10
        )
      )
    ) ∧
    ((x5 = 16) →
      OkN Y (e + 1) mX13_readNumber [.ref (gl_b Y + 73), .int (i32 2)] RV iv av 116 (fun r12 iv13 av14 =>
        (InR r12) →
        L_X13_readMade_248 Y X P x1 x2 x4 x5 (3 + r12) iv13 av14
      )
    )) : L_X13_readMade_192 Y X P x1 x2 x4 x5 iv av := by
  unfold L_X13_readMade_192
  refine r_iload (pc' := 194) C 4 rfl dX13_readMade_192 rfl ?_
  refine r_bipush (pc' := 196) C dX13_readMade_194 (by decide) rfl ?_
  refine r_icmp_ne (pc' := 199) (tgt := 209) C hx5 (by decide) dX13_readMade_196 (by decide) rfl (fun c1 => ?_) (fun c1 => ?_)
  · replace h := h.1 c1
    refine r_iload (pc' := 211) C 4 rfl dX13_readMade_209 rfl ?_
    refine r_bipush (pc' := 213) C dX13_readMade_211 (by decide) rfl ?_
    refine r_icmp_ne (pc' := 216) (tgt := 226) C hx5 (by decide) dX13_readMade_213 (by decide) rfl (fun c2 => ?_) (fun c2 => ?_)
    · replace h := h.1 c2
      refine r_iload (pc' := 228) C 4 rfl dX13_readMade_226 rfl ?_
      refine r_bipush (pc' := 230) C dX13_readMade_228 (by decide) rfl ?_
      refine r_icmp_ne (pc' := 233) (tgt := 245) C hx5 (by decide) dX13_readMade_230 (by decide) rfl (fun c3 => ?_) (fun c3 => ?_)
      · replace h := h.1 c3
        refine r_iconst (pc' := 246) C dX13_readMade_245 rfl ?_
        refine r_istore (pc' := 248) (ls' := [(0, .ref (gl_b Y + 73)), (1, .int (i32 x1)), (2, .int (i32 x2)), (4, .int (i32 x4)), (5, .int (i32 x5)), (6, .int (i32 1))]) C (by decide) rfl dX13_readMade_246 rfl ?_
        exact Wa.sub [0, 1, 2, 3, 4, 5] rfl h
      · replace h := h.2 c3
        refine r_bipush (pc' := 235) C dX13_readMade_233 (by decide) rfl ?_
        refine r_aload_n (pc' := 236) C 0 rfl rfl dX13_readMade_235 rfl ?_
        refine r_bipush (pc' := 238) C dX13_readMade_236 (by decide) rfl ?_
        refine c_Vi (pc' := 241) (mt := mX13_readNumber) (as := [.int (i32 7)]) (st := [.int (i32 11)]) (k := 73) C h rfl cl_X13_readNumber ml_X13_304 im_X13_readNumber sl_X13_readNumber (by omega) (Nat.le_refl _) (Nat.le_refl _) rfl (by decide) kc_73 (by decide) rfl rfl rfl (Nat.le_of_ble_eq_true rfl) dX13_readMade_238 rfl (fun r4 iv5 av6 f7 h => ?_)
        replace h := h f7
        refine r_iadd (pc' := 242) C dX13_readMade_241 rfl ?_
        refine r_goto (tgt := 246) C dX13_readMade_242 (by decide) ?_
        refine r_istore (pc' := 248) (ls' := [(0, .ref (gl_b Y + 73)), (1, .int (i32 x1)), (2, .int (i32 x2)), (4, .int (i32 x4)), (5, .int (i32 x5)), (6, .int (i32 (11 + r4)))]) C (by decide) rfl dX13_readMade_246 rfl ?_
        exact Wa.sub [0, 1, 2, 3, 4, 5] rfl h
    · replace h := h.2 c2
      refine r_iconst (pc' := 217) C dX13_readMade_216 rfl ?_
      refine r_aload_n (pc' := 218) C 0 rfl rfl dX13_readMade_217 rfl ?_
      refine r_iconst (pc' := 219) C dX13_readMade_218 rfl ?_
      refine c_Vi (pc' := 222) (mt := mX13_readNumber) (as := [.int (i32 3)]) (st := [.int (i32 3)]) (k := 73) C h rfl cl_X13_readNumber ml_X13_304 im_X13_readNumber sl_X13_readNumber (by omega) (Nat.le_refl _) (Nat.le_refl _) rfl (by decide) kc_73 (by decide) rfl rfl rfl (Nat.le_of_ble_eq_true rfl) dX13_readMade_219 rfl (fun r8 iv9 av10 f11 h => ?_)
      replace h := h f11
      refine r_iadd (pc' := 223) C dX13_readMade_222 rfl ?_
      refine r_goto (tgt := 246) C dX13_readMade_223 (by decide) ?_
      refine r_istore (pc' := 248) (ls' := [(0, .ref (gl_b Y + 73)), (1, .int (i32 x1)), (2, .int (i32 x2)), (4, .int (i32 x4)), (5, .int (i32 x5)), (6, .int (i32 (3 + r8)))]) C (by decide) rfl dX13_readMade_246 rfl ?_
      exact Wa.sub [0, 1, 2, 3, 4, 5] rfl h
  · replace h := h.2 c1
    refine r_iconst (pc' := 200) C dX13_readMade_199 rfl ?_
    refine r_aload_n (pc' := 201) C 0 rfl rfl dX13_readMade_200 rfl ?_
    refine r_iconst (pc' := 202) C dX13_readMade_201 rfl ?_
    refine c_Vi (pc' := 205) (mt := mX13_readNumber) (as := [.int (i32 2)]) (st := [.int (i32 3)]) (k := 73) C h rfl cl_X13_readNumber ml_X13_304 im_X13_readNumber sl_X13_readNumber (by omega) (Nat.le_refl _) (Nat.le_refl _) rfl (by decide) kc_73 (by decide) rfl rfl rfl (Nat.le_of_ble_eq_true rfl) dX13_readMade_202 rfl (fun r12 iv13 av14 f15 h => ?_)
    replace h := h f15
    refine r_iadd (pc' := 206) C dX13_readMade_205 rfl ?_
    refine r_goto (tgt := 246) C dX13_readMade_206 (by decide) ?_
    refine r_istore (pc' := 248) (ls' := [(0, .ref (gl_b Y + 73)), (1, .int (i32 x1)), (2, .int (i32 x2)), (4, .int (i32 x4)), (5, .int (i32 x5)), (6, .int (i32 (3 + r12)))]) C (by decide) rfl dX13_readMade_246 rfl ?_
    exact Wa.sub [0, 1, 2, 3, 4, 5] rfl h
set_option maxHeartbeats 4000000 in
set_option maxRecDepth 100000 in
theorem w_X13_readMade_139 {Y : Gl} {X : Cx} {e : Nat} {P : PN} {x1 : Int} {x2 : Int} {x4 : Int} {iv av : IVt} (C : CX Y X RX13 "readMade" cX13_readMade 8 none (e + 2) 0 0) (hx4 : InR x4) (h :
    (InR (x1 + x2)) ∧
    (((x1 + x2) ≤ x4) →
      L_X13_readMade_346 Y X P x1 x2 0 iv av
    ) ∧
    ((¬ (x1 + x2) ≤ x4) →
      ((InR (iv 73 57)) →
        ((¬ (iv 73 57) = 0) →
          L_X13_readMade_346 Y X P x1 x2 0 iv av
        ) ∧
        (((iv 73 57) = 0) →
          OkN Y (e + 1) mX13_readSymbol [.ref (gl_b Y + 73), .ref (gl_b Y + 113)] RV iv av 116 (fun r5 iv6 av7 =>
            (InR r5) →
            ((InR (iv6 73 57)) →
              ((¬ (iv6 73 57) = 0) →
                L_X13_readMade_192 Y X P x1 x2 x4 r5 (up2 iv6 73 57 1) av7
              ) ∧
              (((iv6 73 57) = 0) →
                ((¬ r5 = 16) →
                  L_X13_readMade_192 Y X P x1 x2 x4 r5 (up2 iv6 73 57 0) av7
                ) ∧
                ((r5 = 16) →
                  ((¬ x4 = 0) →
                    L_X13_readMade_192 Y X P x1 x2 x4 r5 (up2 iv6 73 57 0) av7
                  ) ∧
                  ((x4 = 0) →
                    L_X13_readMade_192 Y X P x1 x2 x4 r5 (up2 iv6 73 57 1) av7
                  )
                )
              )
            )
          )
        )
      )
    )) : L_X13_readMade_139 Y X P x1 x2 x4 iv av := by
  unfold L_X13_readMade_139
  refine r_iload (pc' := 141) C 3 rfl dX13_readMade_139 rfl ?_
  refine r_iload_n (pc' := 142) C 1 rfl rfl dX13_readMade_141 rfl ?_
  refine r_iload_n (pc' := 143) C 2 rfl rfl dX13_readMade_142 rfl ?_
  refine r_iadd (pc' := 144) C dX13_readMade_143 rfl ?_
  have o1 := h.1
  replace h := h.2
  refine r_icmp_ge (pc' := 147) (tgt := 343) C hx4 o1 dX13_readMade_144 (by decide) rfl (fun c2 => ?_) (fun c2 => ?_)
  · replace h := h.1 c2
    refine r_iconst (pc' := 344) C dX13_readMade_343 rfl ?_
    refine r_istore (pc' := 346) (ls' := [(0, .ref (gl_b Y + 73)), (1, .int (i32 x1)), (2, .int (i32 x2)), (4, .int (i32 x4)), (5, .int (i32 0))]) C (by decide) rfl dX13_readMade_344 rfl ?_
    exact Wa.sub [0, 1, 2, 4] rfl h
  · replace h := h.2 c2
    refine r_aload_n (pc' := 148) C 0 rfl rfl dX13_readMade_147 rfl ?_
    refine r_geti (pc' := 151) (k := 73) C fl_X13_269 (by decide) kc_73 (by decide) fr_13_57 dX13_readMade_148 rfl (fun f3 => ?_)
    replace h := h f3
    refine r_if_ne (pc' := 154) (tgt := 343) C f3 dX13_readMade_151 (by decide) rfl (fun c4 => ?_) (fun c4 => ?_)
    · replace h := h.1 c4
      refine r_iconst (pc' := 344) C dX13_readMade_343 rfl ?_
      refine r_istore (pc' := 346) (ls' := [(0, .ref (gl_b Y + 73)), (1, .int (i32 x1)), (2, .int (i32 x2)), (4, .int (i32 x4)), (5, .int (i32 0))]) C (by decide) rfl dX13_readMade_344 rfl ?_
      exact Wa.sub [0, 1, 2, 4] rfl h
    · replace h := h.2 c4
      refine r_aload_n (pc' := 155) C 0 rfl rfl dX13_readMade_154 rfl ?_
      refine r_aload_n (pc' := 156) C 0 rfl rfl dX13_readMade_155 rfl ?_
      refine r_getr (pc' := 159) (k := 73) (r := 113) C fl_X13_133 (by decide) kc_73 (by decide) fr_13_51 RV_73_51 dX13_readMade_156 rfl ?_
      refine c_Vi (pc' := 162) (mt := mX13_readSymbol) (as := [.ref (gl_b Y + 113)]) (st := []) (k := 73) C h rfl cl_X13_readSymbol ml_X13_314 im_X13_readSymbol sl_X13_readSymbol (by omega) (Nat.le_refl _) (Nat.le_refl _) rfl (by decide) kc_73 (by decide) rfl rfl rfl (Nat.le_of_ble_eq_true rfl) dX13_readMade_159 rfl (fun r5 iv6 av7 f8 h => ?_)
      replace h := h f8
      refine r_istore (pc' := 164) (ls' := [(0, .ref (gl_b Y + 73)), (1, .int (i32 x1)), (2, .int (i32 x2)), (4, .int (i32 x4)), (5, .int (i32 r5))]) C (by decide) rfl dX13_readMade_162 rfl ?_
      refine r_aload_n (pc' := 165) C 0 rfl rfl dX13_readMade_164 rfl ?_
      refine r_aload_n (pc' := 166) C 0 rfl rfl dX13_readMade_165 rfl ?_
      refine r_geti (pc' := 169) (k := 73) C fl_X13_269 (by decide) kc_73 (by decide) fr_13_57 dX13_readMade_166 rfl (fun f9 => ?_)
      replace h := h f9
      refine r_if_ne (pc' := 172) (tgt := 184) C f9 dX13_readMade_169 (by decide) rfl (fun c10 => ?_) (fun c10 => ?_)
      · replace h := h.1 c10
        refine r_iconst (pc' := 185) C dX13_readMade_184 rfl ?_
        refine r_goto (tgt := 189) C dX13_readMade_185 (by decide) ?_
        refine r_putz (pc' := 192) (k := 73) C fl_X13_269 (by decide) kc_73 (by decide) fr_13_57 (by decide) dX13_readMade_189 rfl ?_
        exact Wa.sub [0, 1, 2, 3, 4] rfl h
      · replace h := h.2 c10
        refine r_iload (pc' := 174) C 4 rfl dX13_readMade_172 rfl ?_
        refine r_bipush (pc' := 176) C dX13_readMade_174 (by decide) rfl ?_
        refine r_icmp_ne (pc' := 179) (tgt := 188) C f8 (by decide) dX13_readMade_176 (by decide) rfl (fun c11 => ?_) (fun c11 => ?_)
        · replace h := h.1 c11
          refine r_iconst (pc' := 189) C dX13_readMade_188 rfl ?_
          refine r_putz (pc' := 192) (k := 73) C fl_X13_269 (by decide) kc_73 (by decide) fr_13_57 (by decide) dX13_readMade_189 rfl ?_
          exact Wa.sub [0, 1, 2, 3, 4] rfl h
        · replace h := h.2 c11
          refine r_iload (pc' := 181) C 3 rfl dX13_readMade_179 rfl ?_
          refine r_if_ne (pc' := 184) (tgt := 188) C hx4 dX13_readMade_181 (by decide) rfl (fun c12 => ?_) (fun c12 => ?_)
          · replace h := h.1 c12
            refine r_iconst (pc' := 189) C dX13_readMade_188 rfl ?_
            refine r_putz (pc' := 192) (k := 73) C fl_X13_269 (by decide) kc_73 (by decide) fr_13_57 (by decide) dX13_readMade_189 rfl ?_
            exact Wa.sub [0, 1, 2, 3, 4] rfl h
          · replace h := h.2 c12
            refine r_iconst (pc' := 185) C dX13_readMade_184 rfl ?_
            refine r_goto (tgt := 189) C dX13_readMade_185 (by decide) ?_
            refine r_putz (pc' := 192) (k := 73) C fl_X13_269 (by decide) kc_73 (by decide) fr_13_57 (by decide) dX13_readMade_189 rfl ?_
            exact Wa.sub [0, 1, 2, 3, 4] rfl h
set_option maxHeartbeats 4000000 in
set_option maxRecDepth 100000 in
theorem w_X13_readMade_58 {Y : Gl} {X : Cx} {e : Nat} {P : PN} {x1 : Int} {x2 : Int} {x3 : Int} {x4 : Int} {iv av : IVt} (C : CX Y X RX13 "readMade" cX13_readMade 8 none (e + 2) 0 0) (hx3 : InR x3) (hx4 : InR x4) (h :
    ((19 ≤ x4) →
      ((InR (iv 73 57)) →
        ((¬ (iv 73 57) = 0) →
          L_X13_readMade_139 Y X P x1 x2 0 (up2 iv 73 57 1) av
        ) ∧
        (((iv 73 57) = 0) →
          OkN Y (e + 1) mX12_make [.ref (gl_b Y + 113), .ref (gl_b Y + 115), .int (i32 320), .int (i32 19), .int (i32 0)] RV iv av 116 (fun r4 iv5 av6 =>
            (InR r4) →
            ((¬ r4 = 0) →
              L_X13_readMade_139 Y X P x1 x2 0 (up2 iv5 73 57 0) av6
            ) ∧
            ((r4 = 0) →
              L_X13_readMade_139 Y X P x1 x2 0 (up2 iv5 73 57 1) av6
            )
          )
        )
      )
    ) ∧
    ((¬ 19 ≤ x4) →
      OkN Y (e + 1) mX13_smallOrder [.int (i32 x4)] RV iv av 116 (fun r9 iv10 av11 =>
        (InR r9) →
        ((x3 ≤ x4) →
          (0 ≤ (320 + r9) ∧ (320 + r9) < 339) ∧
          L_X13_readMade_58 Y X P x1 x2 x3 (x4 + 1) iv10 (up2 av11 115 ((320 + r9).toNat) 0)
        ) ∧
        ((¬ x3 ≤ x4) →
          OkN Y (e + 1) mX13_readNumber [.ref (gl_b Y + 73), .int (i32 3)] RV iv10 av11 116 (fun r15 iv16 av17 =>
            (InR r15) →
            (0 ≤ (320 + r9) ∧ (320 + r9) < 339) ∧
            L_X13_readMade_58 Y X P x1 x2 x3 (x4 + 1) iv16 (up2 av17 115 ((320 + r9).toNat) r15)
          )
        )
      )
    )) : L_X13_readMade_58 Y X P x1 x2 x3 x4 iv av := by
  unfold L_X13_readMade_58
  refine r_iload (pc' := 60) C 4 rfl dX13_readMade_58 rfl ?_
  refine r_bipush (pc' := 62) C dX13_readMade_60 (by decide) rfl ?_
  refine r_icmp_ge (pc' := 65) (tgt := 100) C hx4 (by decide) dX13_readMade_62 (by decide) rfl (fun c1 => ?_) (fun c1 => ?_)
  · replace h := h.1 c1
    refine r_aload_n (pc' := 101) C 0 rfl rfl dX13_readMade_100 rfl ?_
    refine r_aload_n (pc' := 102) C 0 rfl rfl dX13_readMade_101 rfl ?_
    refine r_geti (pc' := 105) (k := 73) C fl_X13_269 (by decide) kc_73 (by decide) fr_13_57 dX13_readMade_102 rfl (fun f2 => ?_)
    replace h := h f2
    refine r_if_ne (pc' := 108) (tgt := 128) C f2 dX13_readMade_105 (by decide) rfl (fun c3 => ?_) (fun c3 => ?_)
    · replace h := h.1 c3
      refine r_iconst (pc' := 129) C dX13_readMade_128 rfl ?_
      refine r_goto (tgt := 133) C dX13_readMade_129 (by decide) ?_
      refine r_putz (pc' := 136) (k := 73) C fl_X13_269 (by decide) kc_73 (by decide) fr_13_57 (by decide) dX13_readMade_133 rfl ?_
      refine r_iconst (pc' := 137) C dX13_readMade_136 rfl ?_
      refine r_istore (pc' := 139) (ls' := [(0, .ref (gl_b Y + 73)), (1, .int (i32 x1)), (2, .int (i32 x2)), (3, .int (i32 x3)), (4, .int (i32 0))]) C (by decide) rfl dX13_readMade_137 rfl ?_
      exact Wa.sub [0, 1, 2, 4] rfl h
    · replace h := h.2 c3
      refine r_aload_n (pc' := 109) C 0 rfl rfl dX13_readMade_108 rfl ?_
      refine r_getr (pc' := 112) (k := 73) (r := 113) C fl_X13_133 (by decide) kc_73 (by decide) fr_13_51 RV_73_51 dX13_readMade_109 rfl ?_
      refine r_aload_n (pc' := 113) C 0 rfl rfl dX13_readMade_112 rfl ?_
      refine r_getr (pc' := 116) (k := 73) (r := 115) C fl_X13_136 (by decide) kc_73 (by decide) fr_13_52 RV_73_52 dX13_readMade_113 rfl ?_
      refine r_sipush (pc' := 119) C dX13_readMade_116 (by decide) rfl ?_
      refine r_bipush (pc' := 121) C dX13_readMade_119 (by decide) rfl ?_
      refine r_iconst (pc' := 122) C dX13_readMade_121 rfl ?_
      refine c_Vi (pc' := 125) (mt := mX12_make) (as := [.ref (gl_b Y + 115), .int (i32 320), .int (i32 19), .int (i32 0)]) (st := [.ref (gl_b Y + 73)]) (k := 113) C h rfl cl_X12_make ml_X13_310 im_X12_make sl_X12_make (by omega) (Nat.le_refl _) (Nat.le_refl _) rfl (by decide) kc_113 (by decide) rfl rfl rfl (Nat.le_of_ble_eq_true rfl) dX13_readMade_122 rfl (fun r4 iv5 av6 f7 h => ?_)
      replace h := h f7
      refine r_if_ne (pc' := 128) (tgt := 132) C f7 dX13_readMade_125 (by decide) rfl (fun c8 => ?_) (fun c8 => ?_)
      · replace h := h.1 c8
        refine r_iconst (pc' := 133) C dX13_readMade_132 rfl ?_
        refine r_putz (pc' := 136) (k := 73) C fl_X13_269 (by decide) kc_73 (by decide) fr_13_57 (by decide) dX13_readMade_133 rfl ?_
        refine r_iconst (pc' := 137) C dX13_readMade_136 rfl ?_
        refine r_istore (pc' := 139) (ls' := [(0, .ref (gl_b Y + 73)), (1, .int (i32 x1)), (2, .int (i32 x2)), (3, .int (i32 x3)), (4, .int (i32 0))]) C (by decide) rfl dX13_readMade_137 rfl ?_
        exact Wa.sub [0, 1, 2, 4] rfl h
      · replace h := h.2 c8
        refine r_iconst (pc' := 129) C dX13_readMade_128 rfl ?_
        refine r_goto (tgt := 133) C dX13_readMade_129 (by decide) ?_
        refine r_putz (pc' := 136) (k := 73) C fl_X13_269 (by decide) kc_73 (by decide) fr_13_57 (by decide) dX13_readMade_133 rfl ?_
        refine r_iconst (pc' := 137) C dX13_readMade_136 rfl ?_
        refine r_istore (pc' := 139) (ls' := [(0, .ref (gl_b Y + 73)), (1, .int (i32 x1)), (2, .int (i32 x2)), (3, .int (i32 x3)), (4, .int (i32 0))]) C (by decide) rfl dX13_readMade_137 rfl ?_
        exact Wa.sub [0, 1, 2, 4] rfl h
  · replace h := h.2 c1
    refine r_aload_n (pc' := 66) C 0 rfl rfl dX13_readMade_65 rfl ?_
    refine r_getr (pc' := 69) (k := 73) (r := 115) C fl_X13_136 (by decide) kc_73 (by decide) fr_13_52 RV_73_52 dX13_readMade_66 rfl ?_
    refine r_sipush (pc' := 72) C dX13_readMade_69 (by decide) rfl ?_
    refine r_iload (pc' := 74) C 4 rfl dX13_readMade_72 rfl ?_
    refine c_Si (pc' := 77) (mt := mX13_smallOrder) (as := [.int (i32 x4)]) (st := [.int (i32 320), .ref (gl_b Y + 115)]) C h rfl cl_X13_smallOrder ml_X13_230 sm_X13_smallOrder (by omega) (Nat.le_refl _) (Nat.le_refl _) rfl rfl (Nat.le_of_ble_eq_true rfl) dX13_readMade_74 rfl (fun r9 iv10 av11 f12 h => ?_)
    replace h := h f12
    refine r_iadd (pc' := 78) C dX13_readMade_77 rfl ?_
    refine r_iload (pc' := 80) C 4 rfl dX13_readMade_78 rfl ?_
    refine r_iload_n (pc' := 81) C 3 rfl rfl dX13_readMade_80 rfl ?_
    refine r_icmp_ge (pc' := 84) (tgt := 92) C hx4 hx3 dX13_readMade_81 (by decide) rfl (fun c13 => ?_) (fun c13 => ?_)
    · replace h := h.1 c13
      refine r_iconst (pc' := 93) C dX13_readMade_92 rfl ?_
      have o14 := h.1
      replace h := h.2
      refine r_iast (pc' := 94) (k := 115) C (by decide) kc_115 (by have := kl_115; omega) (by decide) dX13_readMade_93 rfl ?_
      refine r_iinc (pc' := 97) (ls' := [(0, .ref (gl_b Y + 73)), (1, .int (i32 x1)), (2, .int (i32 x2)), (3, .int (i32 x3)), (4, .int (i32 (x4 + 1)))]) C 4 rfl (by decide) rfl dX13_readMade_94 rfl ?_
      refine r_goto (tgt := 58) C dX13_readMade_97 (by decide) ?_
      exact Wa.sub [0, 1, 2, 3, 4] rfl h
    · replace h := h.2 c13
      refine r_aload_n (pc' := 85) C 0 rfl rfl dX13_readMade_84 rfl ?_
      refine r_iconst (pc' := 86) C dX13_readMade_85 rfl ?_
      refine c_Vi (pc' := 89) (mt := mX13_readNumber) (as := [.int (i32 3)]) (st := [.int (i32 (320 + r9)), .ref (gl_b Y + 115)]) (k := 73) C h rfl cl_X13_readNumber ml_X13_304 im_X13_readNumber sl_X13_readNumber (by omega) (Nat.le_refl _) (Nat.le_refl _) rfl (by decide) kc_73 (by decide) rfl rfl rfl (Nat.le_of_ble_eq_true rfl) dX13_readMade_86 rfl (fun r15 iv16 av17 f18 h => ?_)
      replace h := h f18
      refine r_goto (tgt := 93) C dX13_readMade_89 (by decide) ?_
      have o19 := h.1
      replace h := h.2
      refine r_iast (pc' := 94) (k := 115) C (by decide) kc_115 (by have := kl_115; omega) f18 dX13_readMade_93 rfl ?_
      refine r_iinc (pc' := 97) (ls' := [(0, .ref (gl_b Y + 73)), (1, .int (i32 x1)), (2, .int (i32 x2)), (3, .int (i32 x3)), (4, .int (i32 (x4 + 1)))]) C 4 rfl (by decide) rfl dX13_readMade_94 rfl ?_
      refine r_goto (tgt := 58) C dX13_readMade_97 (by decide) ?_
      exact Wa.sub [0, 1, 2, 3, 4] rfl h
set_option maxHeartbeats 4000000 in
set_option maxRecDepth 100000 in
theorem o_X13_readMade {Y : Gl} {e : Nat} {P : PN} {iv av : IVt} (h : ∀ X : Cx, CX Y X RX13 "readMade" cX13_readMade 8 none (e + 2) 0 0 →
    OkN Y (e + 1) mX13_readNumber [.ref (gl_b Y + 73), .int (i32 5)] RV iv av 116 (fun r1 iv2 av3 =>
      (InR r1) →
      OkN Y (e + 1) mX13_readNumber [.ref (gl_b Y + 73), .int (i32 5)] RV iv2 av3 116 (fun r5 iv6 av7 =>
        (InR r5) →
        OkN Y (e + 1) mX13_readNumber [.ref (gl_b Y + 73), .int (i32 4)] RV iv6 av7 116 (fun r9 iv10 av11 =>
          (InR r9) →
          ((InR (iv10 73 57)) →
            ((¬ (iv10 73 57) = 0) →
              L_X13_readMade_58 Y X P (r1 + 257) (r5 + 1) (r9 + 4) 0 (up2 iv10 73 57 1) av11
            ) ∧
            (((iv10 73 57) = 0) →
              (InR (r1 + 257)) ∧
              ((286 < (r1 + 257)) →
                L_X13_readMade_58 Y X P (r1 + 257) (r5 + 1) (r9 + 4) 0 (up2 iv10 73 57 1) av11
              ) ∧
              ((¬ 286 < (r1 + 257)) →
                (InR (r5 + 1)) ∧
                (((r5 + 1) ≤ 30) →
                  L_X13_readMade_58 Y X P (r1 + 257) (r5 + 1) (r9 + 4) 0 (up2 iv10 73 57 0) av11
                ) ∧
                ((¬ (r5 + 1) ≤ 30) →
                  L_X13_readMade_58 Y X P (r1 + 257) (r5 + 1) (r9 + 4) 0 (up2 iv10 73 57 1) av11
                )
              )
            )
          )
        )
      )
    )) : OkN Y (e + 2) mX13_readMade [.ref (gl_b Y + 73)] RV iv av 116 P := by
  refine OkW.of rfl (by show _ ≤ 8; exact Nat.le_of_ble_eq_true rfl) fun X C0 hR => ?_
  have C : CX Y X RX13 "readMade" cX13_readMade 8 none (e + 2) 0 0 := C0
  replace h := h X C
  show Wa Y X 8 (g_MQ Y X 0 (g_N RV 116 P) 0 0) 0 0 0 [(0, .ref (gl_b Y + 73))] [] RV iv av 116
  refine r_aload_n (pc' := 1) C 0 rfl rfl dX13_readMade_0 rfl ?_
  refine r_iconst (pc' := 2) C dX13_readMade_1 rfl ?_
  refine c_Vi (pc' := 5) (mt := mX13_readNumber) (as := [.int (i32 5)]) (st := []) (k := 73) C h rfl cl_X13_readNumber ml_X13_304 im_X13_readNumber sl_X13_readNumber (by omega) (Nat.le_refl _) (Nat.le_refl _) rfl (by decide) kc_73 (by decide) rfl rfl rfl (Nat.le_of_ble_eq_true rfl) dX13_readMade_2 rfl (fun r1 iv2 av3 f4 h => ?_)
  replace h := h f4
  refine r_sipush (pc' := 8) C dX13_readMade_5 (by decide) rfl ?_
  refine r_iadd (pc' := 9) C dX13_readMade_8 rfl ?_
  refine r_istore_n (pc' := 10) (ls' := [(0, .ref (gl_b Y + 73)), (1, .int (i32 (r1 + 257)))]) C (by decide) rfl rfl dX13_readMade_9 rfl ?_
  refine r_aload_n (pc' := 11) C 0 rfl rfl dX13_readMade_10 rfl ?_
  refine r_iconst (pc' := 12) C dX13_readMade_11 rfl ?_
  refine c_Vi (pc' := 15) (mt := mX13_readNumber) (as := [.int (i32 5)]) (st := []) (k := 73) C h rfl cl_X13_readNumber ml_X13_304 im_X13_readNumber sl_X13_readNumber (by omega) (Nat.le_refl _) (Nat.le_refl _) rfl (by decide) kc_73 (by decide) rfl rfl rfl (Nat.le_of_ble_eq_true rfl) dX13_readMade_12 rfl (fun r5 iv6 av7 f8 h => ?_)
  replace h := h f8
  refine r_iconst (pc' := 16) C dX13_readMade_15 rfl ?_
  refine r_iadd (pc' := 17) C dX13_readMade_16 rfl ?_
  refine r_istore_n (pc' := 18) (ls' := [(0, .ref (gl_b Y + 73)), (1, .int (i32 (r1 + 257))), (2, .int (i32 (r5 + 1)))]) C (by decide) rfl rfl dX13_readMade_17 rfl ?_
  refine r_aload_n (pc' := 19) C 0 rfl rfl dX13_readMade_18 rfl ?_
  refine r_iconst (pc' := 20) C dX13_readMade_19 rfl ?_
  refine c_Vi (pc' := 23) (mt := mX13_readNumber) (as := [.int (i32 4)]) (st := []) (k := 73) C h rfl cl_X13_readNumber ml_X13_304 im_X13_readNumber sl_X13_readNumber (by omega) (Nat.le_refl _) (Nat.le_refl _) rfl (by decide) kc_73 (by decide) rfl rfl rfl (Nat.le_of_ble_eq_true rfl) dX13_readMade_20 rfl (fun r9 iv10 av11 f12 h => ?_)
  replace h := h f12
  refine r_iconst (pc' := 24) C dX13_readMade_23 rfl ?_
  refine r_iadd (pc' := 25) C dX13_readMade_24 rfl ?_
  refine r_istore_n (pc' := 26) (ls' := [(0, .ref (gl_b Y + 73)), (1, .int (i32 (r1 + 257))), (2, .int (i32 (r5 + 1))), (3, .int (i32 (r9 + 4)))]) C (by decide) rfl rfl dX13_readMade_25 rfl ?_
  refine r_aload_n (pc' := 27) C 0 rfl rfl dX13_readMade_26 rfl ?_
  refine r_aload_n (pc' := 28) C 0 rfl rfl dX13_readMade_27 rfl ?_
  refine r_geti (pc' := 31) (k := 73) C fl_X13_269 (by decide) kc_73 (by decide) fr_13_57 dX13_readMade_28 rfl (fun f13 => ?_)
  replace h := h f13
  refine r_if_ne (pc' := 34) (tgt := 47) C f13 dX13_readMade_31 (by decide) rfl (fun c14 => ?_) (fun c14 => ?_)
  · replace h := h.1 c14
    refine r_iconst (pc' := 48) C dX13_readMade_47 rfl ?_
    refine r_goto (tgt := 52) C dX13_readMade_48 (by decide) ?_
    refine r_putz (pc' := 55) (k := 73) C fl_X13_269 (by decide) kc_73 (by decide) fr_13_57 (by decide) dX13_readMade_52 rfl ?_
    refine r_iconst (pc' := 56) C dX13_readMade_55 rfl ?_
    refine r_istore (pc' := 58) (ls' := [(0, .ref (gl_b Y + 73)), (1, .int (i32 (r1 + 257))), (2, .int (i32 (r5 + 1))), (3, .int (i32 (r9 + 4))), (4, .int (i32 0))]) C (by decide) rfl dX13_readMade_56 rfl ?_
    exact Wa.sub [0, 1, 2, 3, 4] rfl h
  · replace h := h.2 c14
    refine r_iload_n (pc' := 35) C 1 rfl rfl dX13_readMade_34 rfl ?_
    refine r_sipush (pc' := 38) C dX13_readMade_35 (by decide) rfl ?_
    have o15 := h.1
    replace h := h.2
    refine r_icmp_gt (pc' := 41) (tgt := 47) C o15 (by decide) dX13_readMade_38 (by decide) rfl (fun c16 => ?_) (fun c16 => ?_)
    · replace h := h.1 c16
      refine r_iconst (pc' := 48) C dX13_readMade_47 rfl ?_
      refine r_goto (tgt := 52) C dX13_readMade_48 (by decide) ?_
      refine r_putz (pc' := 55) (k := 73) C fl_X13_269 (by decide) kc_73 (by decide) fr_13_57 (by decide) dX13_readMade_52 rfl ?_
      refine r_iconst (pc' := 56) C dX13_readMade_55 rfl ?_
      refine r_istore (pc' := 58) (ls' := [(0, .ref (gl_b Y + 73)), (1, .int (i32 (r1 + 257))), (2, .int (i32 (r5 + 1))), (3, .int (i32 (r9 + 4))), (4, .int (i32 0))]) C (by decide) rfl dX13_readMade_56 rfl ?_
      exact Wa.sub [0, 1, 2, 3, 4] rfl h
    · replace h := h.2 c16
      refine r_iload_n (pc' := 42) C 2 rfl rfl dX13_readMade_41 rfl ?_
      refine r_bipush (pc' := 44) C dX13_readMade_42 (by decide) rfl ?_
      have o17 := h.1
      replace h := h.2
      refine r_icmp_le (pc' := 47) (tgt := 51) C o17 (by decide) dX13_readMade_44 (by decide) rfl (fun c18 => ?_) (fun c18 => ?_)
      · replace h := h.1 c18
        refine r_iconst (pc' := 52) C dX13_readMade_51 rfl ?_
        refine r_putz (pc' := 55) (k := 73) C fl_X13_269 (by decide) kc_73 (by decide) fr_13_57 (by decide) dX13_readMade_52 rfl ?_
        refine r_iconst (pc' := 56) C dX13_readMade_55 rfl ?_
        refine r_istore (pc' := 58) (ls' := [(0, .ref (gl_b Y + 73)), (1, .int (i32 (r1 + 257))), (2, .int (i32 (r5 + 1))), (3, .int (i32 (r9 + 4))), (4, .int (i32 0))]) C (by decide) rfl dX13_readMade_56 rfl ?_
        exact Wa.sub [0, 1, 2, 3, 4] rfl h
      · replace h := h.2 c18
        refine r_iconst (pc' := 48) C dX13_readMade_47 rfl ?_
        refine r_goto (tgt := 52) C dX13_readMade_48 (by decide) ?_
        refine r_putz (pc' := 55) (k := 73) C fl_X13_269 (by decide) kc_73 (by decide) fr_13_57 (by decide) dX13_readMade_52 rfl ?_
        refine r_iconst (pc' := 56) C dX13_readMade_55 rfl ?_
        refine r_istore (pc' := 58) (ls' := [(0, .ref (gl_b Y + 73)), (1, .int (i32 (r1 + 257))), (2, .int (i32 (r5 + 1))), (3, .int (i32 (r9 + 4))), (4, .int (i32 0))]) C (by decide) rfl dX13_readMade_56 rfl ?_
        exact Wa.sub [0, 1, 2, 3, 4] rfl h
def L_X13_readSymbols_9 (Y : Gl) (X : Cx) (P : PN) (x1 : Int) (x2 : Int) (iv av : IVt) : Prop := Wa Y X 7 (g_MQ Y X 0 (g_N RV 116 P) 0 0) 0 0 9 [(0, .ref (gl_b Y + 73)), (1, .int (i32 x1)), (2, .int (i32 x2))] [] RV iv av 116
def L_X13_readSymbols_112 (Y : Gl) (X : Cx) (P : PN) (x1 : Int) (x3 : Int) (x4 : Int) (iv av : IVt) : Prop := Wa Y X 7 (g_MQ Y X 0 (g_N RV 116 P) 0 0) 0 0 112 [(0, .ref (gl_b Y + 73)), (1, .int (i32 x1)), (3, .int (i32 x3)), (4, .int (i32 x4))] [] RV iv av 116
def L_X13_readSymbols_171 (Y : Gl) (X : Cx) (P : PN) (x1 : Int) (x3 : Int) (x5 : Int) (iv av : IVt) : Prop := Wa Y X 7 (g_MQ Y X 0 (g_N RV 116 P) 0 0) 0 0 171 [(0, .ref (gl_b Y + 73)), (1, .int (i32 x1)), (3, .int (i32 x3)), (5, .int (i32 x5))] [] RV iv av 116
def L_X13_readSymbols_174 (Y : Gl) (X : Cx) (P : PN) (x1 : Int) (x3 : Int) (x5 : Int) (x6 : Int) (iv av : IVt) : Prop := Wa Y X 7 (g_MQ Y X 0 (g_N RV 116 P) 0 0) 0 0 174 [(0, .ref (gl_b Y + 73)), (1, .int (i32 x1)), (3, .int (i32 x3)), (5, .int (i32 x5)), (6, .int (i32 x6))] [] RV iv av 116
set_option maxHeartbeats 4000000 in
set_option maxRecDepth 100000 in
theorem w_X13_readSymbols_174 {Y : Gl} {X : Cx} {e : Nat} {P : PN} {x1 : Int} {x3 : Int} {x5 : Int} {x6 : Int} {iv av : IVt} (C : CX Y X RX13 "readSymbols" cX13_readSymbols 7 none (e + 2) 0 0) (hx3 : InR x3) (hx6 : InR x6) {tk : Nat} (htkl : tk < 116) (htkc : kc tk = 101) (htkq : iv 73 58 = ((tk + 1 : Nat) : Int)) (h :
    ((x3 ≤ x6) →
      OkN Y (e + 1) mX13_readSymbol [.ref (gl_b Y + 73), .ref (gl_b Y + 109)] RV iv av 116 (fun r2 iv3 av4 =>
        (InR r2) →
        L_X13_readSymbols_9 Y X P x1 r2 iv3 av4
      )
    ) ∧
    ((¬ x3 ≤ x6) →
      ((InR (iv 73 57)) →
        ((¬ (iv 73 57) = 0) →
          OkN Y (e + 1) mX13_readSymbol [.ref (gl_b Y + 73), .ref (gl_b Y + 109)] RV iv av 116 (fun r8 iv9 av10 =>
            (InR r8) →
            L_X13_readSymbols_9 Y X P x1 r8 iv9 av10
          )
        ) ∧
        (((iv 73 57) = 0) →
          ((InR (iv 73 59)) →
            (0 ≤ ((iv 73 59) - x5) ∧ ((iv 73 59) - x5) < (kl tk : Int)) ∧
            ((-128 ≤ (av tk ((iv 73 59) - x5).toNat) ∧ (av tk ((iv 73 59) - x5).toNat) ≤ 127) →
              OkN Y (e + 1) mX13_makeByte [.ref (gl_b Y + 73), .int (i32 (av tk ((iv 73 59) - x5).toNat))] RV iv av 116 (fun r16 iv17 av18 =>
                L_X13_readSymbols_174 Y X P x1 x3 x5 (x6 + 1) iv17 av18
              )
            )
          )
        )
      )
    )) : L_X13_readSymbols_174 Y X P x1 x3 x5 x6 iv av := by
  unfold L_X13_readSymbols_174
  refine r_iload (pc' := 176) C 4 rfl dX13_readSymbols_174 rfl ?_
  refine r_iload_n (pc' := 177) C 2 rfl rfl dX13_readSymbols_176 rfl ?_
  refine r_icmp_ge (pc' := 180) (tgt := 209) C hx6 hx3 dX13_readSymbols_177 (by decide) rfl (fun c1 => ?_) (fun c1 => ?_)
  · replace h := h.1 c1
    refine r_aload_n (pc' := 210) C 0 rfl rfl dX13_readSymbols_209 rfl ?_
    refine r_aload_n (pc' := 211) C 0 rfl rfl dX13_readSymbols_210 rfl ?_
    refine r_getr (pc' := 214) (k := 73) (r := 109) C fl_X13_126 (by decide) kc_73 (by decide) fr_13_49 RV_73_49 dX13_readSymbols_211 rfl ?_
    refine c_Vi (pc' := 217) (mt := mX13_readSymbol) (as := [.ref (gl_b Y + 109)]) (st := []) (k := 73) C h rfl cl_X13_readSymbol ml_X13_314 im_X13_readSymbol sl_X13_readSymbol (by omega) (Nat.le_refl _) (Nat.le_refl _) rfl (by decide) kc_73 (by decide) rfl rfl rfl (Nat.le_of_ble_eq_true rfl) dX13_readSymbols_214 rfl (fun r2 iv3 av4 f5 h => ?_)
    replace h := h f5
    refine r_istore_n (pc' := 218) (ls' := [(0, .ref (gl_b Y + 73)), (1, .int (i32 x1)), (2, .int (i32 r2)), (3, .int (i32 x3)), (5, .int (i32 x5)), (6, .int (i32 x6))]) C (by decide) rfl rfl dX13_readSymbols_217 rfl ?_
    refine r_goto (tgt := 9) C dX13_readSymbols_218 (by decide) ?_
    exact Wa.sub [0, 1, 2] rfl h
  · replace h := h.2 c1
    refine r_aload_n (pc' := 181) C 0 rfl rfl dX13_readSymbols_180 rfl ?_
    refine r_geti (pc' := 184) (k := 73) C fl_X13_269 (by decide) kc_73 (by decide) fr_13_57 dX13_readSymbols_181 rfl (fun f6 => ?_)
    replace h := h f6
    refine r_if_ne (pc' := 187) (tgt := 209) C f6 dX13_readSymbols_184 (by decide) rfl (fun c7 => ?_) (fun c7 => ?_)
    · replace h := h.1 c7
      refine r_aload_n (pc' := 210) C 0 rfl rfl dX13_readSymbols_209 rfl ?_
      refine r_aload_n (pc' := 211) C 0 rfl rfl dX13_readSymbols_210 rfl ?_
      refine r_getr (pc' := 214) (k := 73) (r := 109) C fl_X13_126 (by decide) kc_73 (by decide) fr_13_49 RV_73_49 dX13_readSymbols_211 rfl ?_
      refine c_Vi (pc' := 217) (mt := mX13_readSymbol) (as := [.ref (gl_b Y + 109)]) (st := []) (k := 73) C h rfl cl_X13_readSymbol ml_X13_314 im_X13_readSymbol sl_X13_readSymbol (by omega) (Nat.le_refl _) (Nat.le_refl _) rfl (by decide) kc_73 (by decide) rfl rfl rfl (Nat.le_of_ble_eq_true rfl) dX13_readSymbols_214 rfl (fun r8 iv9 av10 f11 h => ?_)
      replace h := h f11
      refine r_istore_n (pc' := 218) (ls' := [(0, .ref (gl_b Y + 73)), (1, .int (i32 x1)), (2, .int (i32 r8)), (3, .int (i32 x3)), (5, .int (i32 x5)), (6, .int (i32 x6))]) C (by decide) rfl rfl dX13_readSymbols_217 rfl ?_
      refine r_goto (tgt := 9) C dX13_readSymbols_218 (by decide) ?_
      exact Wa.sub [0, 1, 2] rfl h
    · replace h := h.2 c7
      refine r_aload_n (pc' := 188) C 0 rfl rfl dX13_readSymbols_187 rfl ?_
      refine r_aload_n (pc' := 189) C 0 rfl rfl dX13_readSymbols_188 rfl ?_
      refine r_getq (pc' := 192) (k := 73) (r := tk) C fl_X13_298 (by decide) kc_73 (by decide) fr_13_58 (by first | exact htkq | (simp [up2]; exact htkq)) dX13_readSymbols_189 rfl ?_
      refine r_aload_n (pc' := 193) C 0 rfl rfl dX13_readSymbols_192 rfl ?_
      refine r_geti (pc' := 196) (k := 73) C fl_X13_292 (by decide) kc_73 (by decide) fr_13_59 dX13_readSymbols_193 rfl (fun f13 => ?_)
      replace h := h f13
      refine r_iload (pc' := 198) C 3 rfl dX13_readSymbols_196 rfl ?_
      refine r_isub (pc' := 199) C dX13_readSymbols_198 rfl ?_
      have o14 := h.1
      replace h := h.2
      refine r_bald (pc' := 200) (k := tk) C (by omega) htkc o14 dX13_readSymbols_199 rfl (fun f15 => ?_)
      replace h := h f15
      refine c_Vv (pc' := 203) (mt := mX13_makeByte) (as := [.int (i32 (av tk ((iv 73 59) - x5).toNat))]) (st := []) (k := 73) C h rfl cl_X13_makeByte ml_X13_307 im_X13_makeByte sl_X13_makeByte (by omega) (Nat.le_refl _) (Nat.le_refl _) rfl (by decide) kc_73 (by decide) rfl rfl rfl (Nat.le_of_ble_eq_true rfl) dX13_readSymbols_200 rfl (fun r16 iv17 av18 h => ?_)
      refine r_iinc (pc' := 206) (ls' := [(0, .ref (gl_b Y + 73)), (1, .int (i32 x1)), (3, .int (i32 x3)), (5, .int (i32 x5)), (6, .int (i32 (x6 + 1)))]) C 4 rfl (by decide) rfl dX13_readSymbols_203 rfl ?_
      refine r_goto (tgt := 174) C dX13_readSymbols_206 (by decide) ?_
      exact Wa.sub [0, 1, 2, 3, 4] rfl h
set_option maxHeartbeats 4000000 in
set_option maxRecDepth 100000 in
theorem w_X13_readSymbols_171 {Y : Gl} {X : Cx} {e : Nat} {P : PN} {x1 : Int} {x3 : Int} {x5 : Int} {iv av : IVt} (C : CX Y X RX13 "readSymbols" cX13_readSymbols 7 none (e + 2) 0 0) (h :
    L_X13_readSymbols_174 Y X P x1 x3 x5 0 iv av) : L_X13_readSymbols_171 Y X P x1 x3 x5 iv av := by
  unfold L_X13_readSymbols_171
  refine r_iconst (pc' := 172) C dX13_readSymbols_171 rfl ?_
  refine r_istore (pc' := 174) (ls' := [(0, .ref (gl_b Y + 73)), (1, .int (i32 x1)), (3, .int (i32 x3)), (5, .int (i32 x5)), (6, .int (i32 0))]) C (by decide) rfl dX13_readSymbols_172 rfl ?_
  exact Wa.sub [0, 1, 2, 3, 4] rfl h
set_option maxHeartbeats 4000000 in
set_option maxRecDepth 100000 in
theorem w_X13_readSymbols_112 {Y : Gl} {X : Cx} {e : Nat} {P : PN} {x1 : Int} {x3 : Int} {x4 : Int} {iv av : IVt} (C : CX Y X RX13 "readSymbols" cX13_readSymbols 7 none (e + 2) 0 0) (hx1 : InR x1) (hx4 : InR x4) (h :
    ((InR (iv 73 57)) →
      (((iv 73 57) = 0) →
        OkN Y (e + 1) mX13_distanceBase [.int (i32 x4)] RV iv av 116 (fun r3 iv4 av5 =>
          (InR r3) →
          OkN Y (e + 1) mX13_distanceBits [.int (i32 x4)] RV iv4 av5 116 (fun r7 iv8 av9 =>
            (InR r7) →
            OkN Y (e + 1) mX13_readNumber [.ref (gl_b Y + 73), .int (i32 r7)] RV iv8 av9 116 (fun r11 iv12 av13 =>
              (InR r11) →
              ((InR (iv12 73 57)) →
                ((¬ (iv12 73 57) = 0) →
                  L_X13_readSymbols_171 Y X P x1 x3 (r3 + r11) (up2 iv12 73 57 1) av13
                ) ∧
                (((iv12 73 57) = 0) →
                  ((InR (iv12 73 59)) →
                    (InR (r3 + r11)) ∧
                    (((iv12 73 59) < (r3 + r11)) →
                      L_X13_readSymbols_171 Y X P x1 x3 (r3 + r11) (up2 iv12 73 57 1) av13
                    ) ∧
                    ((¬ (iv12 73 59) < (r3 + r11)) →
                      (((r3 + r11) ≤ x1) →
                        L_X13_readSymbols_171 Y X P x1 x3 (r3 + r11) (up2 iv12 73 57 0) av13
                      ) ∧
                      ((¬ (r3 + r11) ≤ x1) →
                        L_X13_readSymbols_171 Y X P x1 x3 (r3 + r11) (up2 iv12 73 57 1) av13
                      )
                    )
                  )
                )
              )
            )
          )
        )
      ) ∧
      ((¬ (iv 73 57) = 0) →
        ((¬ (iv 73 57) = 0) →
          L_X13_readSymbols_171 Y X P x1 x3 0 (up2 iv 73 57 1) av
        ) ∧
        (((iv 73 57) = 0) →
          ((InR (iv 73 59)) →
            (((iv 73 59) < 0) →
              L_X13_readSymbols_171 Y X P x1 x3 0 (up2 iv 73 57 1) av
            ) ∧
            ((¬ (iv 73 59) < 0) →
              ((0 ≤ x1) →
                L_X13_readSymbols_171 Y X P x1 x3 0 (up2 iv 73 57 0) av
              ) ∧
              ((¬ 0 ≤ x1) →
                L_X13_readSymbols_171 Y X P x1 x3 0 (up2 iv 73 57 1) av
              )
            )
          )
        )
      )
    )) : L_X13_readSymbols_112 Y X P x1 x3 x4 iv av := by
  unfold L_X13_readSymbols_112
  refine r_aload_n (pc' := 113) C 0 rfl rfl dX13_readSymbols_112 rfl ?_
  refine r_geti (pc' := 116) (k := 73) C fl_X13_269 (by decide) kc_73 (by decide) fr_13_57 dX13_readSymbols_113 rfl (fun f1 => ?_)
  replace h := h f1
  refine r_if_eq (pc' := 119) (tgt := 123) C f1 dX13_readSymbols_116 (by decide) rfl (fun c2 => ?_) (fun c2 => ?_)
  · replace h := h.1 c2
    refine r_iload (pc' := 125) C 3 rfl dX13_readSymbols_123 rfl ?_
    refine c_Si (pc' := 128) (mt := mX13_distanceBase) (as := [.int (i32 x4)]) (st := []) C h rfl cl_X13_distanceBase ml_X13_164 sm_X13_distanceBase (by omega) (Nat.le_refl _) (Nat.le_refl _) rfl rfl (Nat.le_of_ble_eq_true rfl) dX13_readSymbols_125 rfl (fun r3 iv4 av5 f6 h => ?_)
    replace h := h f6
    refine r_aload_n (pc' := 129) C 0 rfl rfl dX13_readSymbols_128 rfl ?_
    refine r_iload (pc' := 131) C 3 rfl dX13_readSymbols_129 rfl ?_
    refine c_Si (pc' := 134) (mt := mX13_distanceBits) (as := [.int (i32 x4)]) (st := [.ref (gl_b Y + 73), .int (i32 r3)]) C h rfl cl_X13_distanceBits ml_X13_158 sm_X13_distanceBits (by omega) (Nat.le_refl _) (Nat.le_refl _) rfl rfl (Nat.le_of_ble_eq_true rfl) dX13_readSymbols_131 rfl (fun r7 iv8 av9 f10 h => ?_)
    replace h := h f10
    refine c_Vi (pc' := 137) (mt := mX13_readNumber) (as := [.int (i32 r7)]) (st := [.int (i32 r3)]) (k := 73) C h rfl cl_X13_readNumber ml_X13_304 im_X13_readNumber sl_X13_readNumber (by omega) (Nat.le_refl _) (Nat.le_refl _) rfl (by decide) kc_73 (by decide) rfl rfl rfl (Nat.le_of_ble_eq_true rfl) dX13_readSymbols_134 rfl (fun r11 iv12 av13 f14 h => ?_)
    replace h := h f14
    refine r_iadd (pc' := 138) C dX13_readSymbols_137 rfl ?_
    refine r_istore (pc' := 140) (ls' := [(0, .ref (gl_b Y + 73)), (1, .int (i32 x1)), (3, .int (i32 x3)), (4, .int (i32 x4)), (5, .int (i32 (r3 + r11)))]) C (by decide) rfl dX13_readSymbols_138 rfl ?_
    refine r_aload_n (pc' := 141) C 0 rfl rfl dX13_readSymbols_140 rfl ?_
    refine r_aload_n (pc' := 142) C 0 rfl rfl dX13_readSymbols_141 rfl ?_
    refine r_geti (pc' := 145) (k := 73) C fl_X13_269 (by decide) kc_73 (by decide) fr_13_57 dX13_readSymbols_142 rfl (fun f15 => ?_)
    replace h := h f15
    refine r_if_ne (pc' := 148) (tgt := 163) C f15 dX13_readSymbols_145 (by decide) rfl (fun c16 => ?_) (fun c16 => ?_)
    · replace h := h.1 c16
      refine r_iconst (pc' := 164) C dX13_readSymbols_163 rfl ?_
      refine r_goto (tgt := 168) C dX13_readSymbols_164 (by decide) ?_
      refine r_putz (pc' := 171) (k := 73) C fl_X13_269 (by decide) kc_73 (by decide) fr_13_57 (by decide) dX13_readSymbols_168 rfl ?_
      exact Wa.sub [0, 1, 2, 4] rfl h
    · replace h := h.2 c16
      refine r_iload (pc' := 150) C 4 rfl dX13_readSymbols_148 rfl ?_
      refine r_aload_n (pc' := 151) C 0 rfl rfl dX13_readSymbols_150 rfl ?_
      refine r_geti (pc' := 154) (k := 73) C fl_X13_292 (by decide) kc_73 (by decide) fr_13_59 dX13_readSymbols_151 rfl (fun f17 => ?_)
      replace h := h f17
      have o18 := h.1
      replace h := h.2
      refine r_icmp_gt (pc' := 157) (tgt := 163) C o18 f17 dX13_readSymbols_154 (by decide) rfl (fun c19 => ?_) (fun c19 => ?_)
      · replace h := h.1 c19
        refine r_iconst (pc' := 164) C dX13_readSymbols_163 rfl ?_
        refine r_goto (tgt := 168) C dX13_readSymbols_164 (by decide) ?_
        refine r_putz (pc' := 171) (k := 73) C fl_X13_269 (by decide) kc_73 (by decide) fr_13_57 (by decide) dX13_readSymbols_168 rfl ?_
        exact Wa.sub [0, 1, 2, 4] rfl h
      · replace h := h.2 c19
        refine r_iload (pc' := 159) C 4 rfl dX13_readSymbols_157 rfl ?_
        refine r_iload_n (pc' := 160) C 1 rfl rfl dX13_readSymbols_159 rfl ?_
        refine r_icmp_le (pc' := 163) (tgt := 167) C o18 hx1 dX13_readSymbols_160 (by decide) rfl (fun c20 => ?_) (fun c20 => ?_)
        · replace h := h.1 c20
          refine r_iconst (pc' := 168) C dX13_readSymbols_167 rfl ?_
          refine r_putz (pc' := 171) (k := 73) C fl_X13_269 (by decide) kc_73 (by decide) fr_13_57 (by decide) dX13_readSymbols_168 rfl ?_
          exact Wa.sub [0, 1, 2, 4] rfl h
        · replace h := h.2 c20
          refine r_iconst (pc' := 164) C dX13_readSymbols_163 rfl ?_
          refine r_goto (tgt := 168) C dX13_readSymbols_164 (by decide) ?_
          refine r_putz (pc' := 171) (k := 73) C fl_X13_269 (by decide) kc_73 (by decide) fr_13_57 (by decide) dX13_readSymbols_168 rfl ?_
          exact Wa.sub [0, 1, 2, 4] rfl h
  · replace h := h.2 c2
    refine r_iconst (pc' := 120) C dX13_readSymbols_119 rfl ?_
    refine r_goto (tgt := 138) C dX13_readSymbols_120 (by decide) ?_
    refine r_istore (pc' := 140) (ls' := [(0, .ref (gl_b Y + 73)), (1, .int (i32 x1)), (3, .int (i32 x3)), (4, .int (i32 x4)), (5, .int (i32 0))]) C (by decide) rfl dX13_readSymbols_138 rfl ?_
    refine r_aload_n (pc' := 141) C 0 rfl rfl dX13_readSymbols_140 rfl ?_
    refine r_aload_n (pc' := 142) C 0 rfl rfl dX13_readSymbols_141 rfl ?_
    refine r_geti (pc' := 145) (k := 73) C fl_X13_269 (by decide) kc_73 (by decide) fr_13_57 dX13_readSymbols_142 rfl (fun f21 => ?_)
    refine r_if_ne (pc' := 148) (tgt := 163) C f1 dX13_readSymbols_145 (by decide) rfl (fun c22 => ?_) (fun c22 => ?_)
    · replace h := h.1 c22
      refine r_iconst (pc' := 164) C dX13_readSymbols_163 rfl ?_
      refine r_goto (tgt := 168) C dX13_readSymbols_164 (by decide) ?_
      refine r_putz (pc' := 171) (k := 73) C fl_X13_269 (by decide) kc_73 (by decide) fr_13_57 (by decide) dX13_readSymbols_168 rfl ?_
      exact Wa.sub [0, 1, 2, 4] rfl h
    · replace h := h.2 c22
      refine r_iload (pc' := 150) C 4 rfl dX13_readSymbols_148 rfl ?_
      refine r_aload_n (pc' := 151) C 0 rfl rfl dX13_readSymbols_150 rfl ?_
      refine r_geti (pc' := 154) (k := 73) C fl_X13_292 (by decide) kc_73 (by decide) fr_13_59 dX13_readSymbols_151 rfl (fun f23 => ?_)
      replace h := h f23
      refine r_icmp_gt (pc' := 157) (tgt := 163) C (by decide) f23 dX13_readSymbols_154 (by decide) rfl (fun c24 => ?_) (fun c24 => ?_)
      · replace h := h.1 c24
        refine r_iconst (pc' := 164) C dX13_readSymbols_163 rfl ?_
        refine r_goto (tgt := 168) C dX13_readSymbols_164 (by decide) ?_
        refine r_putz (pc' := 171) (k := 73) C fl_X13_269 (by decide) kc_73 (by decide) fr_13_57 (by decide) dX13_readSymbols_168 rfl ?_
        exact Wa.sub [0, 1, 2, 4] rfl h
      · replace h := h.2 c24
        refine r_iload (pc' := 159) C 4 rfl dX13_readSymbols_157 rfl ?_
        refine r_iload_n (pc' := 160) C 1 rfl rfl dX13_readSymbols_159 rfl ?_
        refine r_icmp_le (pc' := 163) (tgt := 167) C (by decide) hx1 dX13_readSymbols_160 (by decide) rfl (fun c25 => ?_) (fun c25 => ?_)
        · replace h := h.1 c25
          refine r_iconst (pc' := 168) C dX13_readSymbols_167 rfl ?_
          refine r_putz (pc' := 171) (k := 73) C fl_X13_269 (by decide) kc_73 (by decide) fr_13_57 (by decide) dX13_readSymbols_168 rfl ?_
          exact Wa.sub [0, 1, 2, 4] rfl h
        · replace h := h.2 c25
          refine r_iconst (pc' := 164) C dX13_readSymbols_163 rfl ?_
          refine r_goto (tgt := 168) C dX13_readSymbols_164 (by decide) ?_
          refine r_putz (pc' := 171) (k := 73) C fl_X13_269 (by decide) kc_73 (by decide) fr_13_57 (by decide) dX13_readSymbols_168 rfl ?_
          exact Wa.sub [0, 1, 2, 4] rfl h
set_option maxHeartbeats 4000000 in
set_option maxRecDepth 100000 in
theorem w_X13_readSymbols_9 {Y : Gl} {X : Cx} {e : Nat} {P : PN} {x1 : Int} {x2 : Int} {iv av : IVt} (C : CX Y X RX13 "readSymbols" cX13_readSymbols 7 none (e + 2) 0 0) (hx2 : InR x2) (h :
    ((x2 = 256) →
      P 0 iv av
    ) ∧
    ((¬ x2 = 256) →
      ((InR (iv 73 57)) →
        ((¬ (iv 73 57) = 0) →
          P 0 iv av
        ) ∧
        (((iv 73 57) = 0) →
          ((256 ≤ x2) →
            ((x2 ≤ 285) →
              OkN Y (e + 1) mX13_lengthBase [.int (i32 x2)] RV (up2 iv 73 57 0) av 116 (fun r7 iv8 av9 =>
                (InR r7) →
                OkN Y (e + 1) mX13_lengthBits [.int (i32 x2)] RV iv8 av9 116 (fun r11 iv12 av13 =>
                  (InR r11) →
                  OkN Y (e + 1) mX13_readNumber [.ref (gl_b Y + 73), .int (i32 r11)] RV iv12 av13 116 (fun r15 iv16 av17 =>
                    (InR r15) →
                    OkN Y (e + 1) mX13_readSymbol [.ref (gl_b Y + 73), .ref (gl_b Y + 111)] RV iv16 av17 116 (fun r19 iv20 av21 =>
                      (InR r19) →
                      ((InR (iv20 73 57)) →
                        ((¬ (iv20 73 57) = 0) →
                          L_X13_readSymbols_112 Y X P x1 (r7 + r15) r19 (up2 iv20 73 57 1) av21
                        ) ∧
                        (((iv20 73 57) = 0) →
                          ((r19 ≤ 29) →
                            L_X13_readSymbols_112 Y X P x1 (r7 + r15) r19 (up2 iv20 73 57 0) av21
                          ) ∧
                          ((¬ r19 ≤ 29) →
                            L_X13_readSymbols_112 Y X P x1 (r7 + r15) r19 (up2 iv20 73 57 1) av21
                          )
                        )
                      )
                    )
                  )
                )
              )
            ) ∧
            ((¬ x2 ≤ 285) →
              OkN Y (e + 1) mX13_readSymbol [.ref (gl_b Y + 73), .ref (gl_b Y + 111)] RV (up2 iv 73 57 1) av 116 (fun r27 iv28 av29 =>
                (InR r27) →
                ((InR (iv28 73 57)) →
                  ((¬ (iv28 73 57) = 0) →
                    L_X13_readSymbols_112 Y X P x1 0 r27 (up2 iv28 73 57 1) av29
                  ) ∧
                  (((iv28 73 57) = 0) →
                    ((r27 ≤ 29) →
                      L_X13_readSymbols_112 Y X P x1 0 r27 (up2 iv28 73 57 0) av29
                    ) ∧
                    ((¬ r27 ≤ 29) →
                      L_X13_readSymbols_112 Y X P x1 0 r27 (up2 iv28 73 57 1) av29
                    )
                  )
                )
              )
            )
          ) ∧
          ((¬ 256 ≤ x2) →
            OkN Y (e + 1) mX13_makeByte [.ref (gl_b Y + 73), .int (i32 x2)] RV iv av 116 (fun r34 iv35 av36 =>
              OkN Y (e + 1) mX13_readSymbol [.ref (gl_b Y + 73), .ref (gl_b Y + 109)] RV iv35 av36 116 (fun r38 iv39 av40 =>
                (InR r38) →
                L_X13_readSymbols_9 Y X P x1 r38 iv39 av40
              )
            )
          )
        )
      )
    )) : L_X13_readSymbols_9 Y X P x1 x2 iv av := by
  unfold L_X13_readSymbols_9
  refine r_iload_n (pc' := 10) C 2 rfl rfl dX13_readSymbols_9 rfl ?_
  refine r_sipush (pc' := 13) C dX13_readSymbols_10 (by decide) rfl ?_
  refine r_icmp_eq (pc' := 16) (tgt := 221) C hx2 (by decide) dX13_readSymbols_13 (by decide) rfl (fun c1 => ?_) (fun c1 => ?_)
  · replace h := h.1 c1
    exact r_vret C ⟨rfl, rfl, h⟩ dX13_readSymbols_221
  · replace h := h.2 c1
    refine r_aload_n (pc' := 17) C 0 rfl rfl dX13_readSymbols_16 rfl ?_
    refine r_geti (pc' := 20) (k := 73) C fl_X13_269 (by decide) kc_73 (by decide) fr_13_57 dX13_readSymbols_17 rfl (fun f2 => ?_)
    replace h := h f2
    refine r_if_ne (pc' := 23) (tgt := 221) C f2 dX13_readSymbols_20 (by decide) rfl (fun c3 => ?_) (fun c3 => ?_)
    · replace h := h.1 c3
      exact r_vret C ⟨rfl, rfl, h⟩ dX13_readSymbols_221
    · replace h := h.2 c3
      refine r_iload_n (pc' := 24) C 2 rfl rfl dX13_readSymbols_23 rfl ?_
      refine r_sipush (pc' := 27) C dX13_readSymbols_24 (by decide) rfl ?_
      refine r_icmp_ge (pc' := 30) (tgt := 38) C hx2 (by decide) dX13_readSymbols_27 (by decide) rfl (fun c4 => ?_) (fun c4 => ?_)
      · replace h := h.1 c4
        refine r_aload_n (pc' := 39) C 0 rfl rfl dX13_readSymbols_38 rfl ?_
        refine r_iload_n (pc' := 40) C 2 rfl rfl dX13_readSymbols_39 rfl ?_
        refine r_sipush (pc' := 43) C dX13_readSymbols_40 (by decide) rfl ?_
        refine r_icmp_le (pc' := 46) (tgt := 50) C hx2 (by decide) dX13_readSymbols_43 (by decide) rfl (fun c5 => ?_) (fun c5 => ?_)
        · replace h := h.1 c5
          refine r_iconst (pc' := 51) C dX13_readSymbols_50 rfl ?_
          refine r_putz (pc' := 54) (k := 73) C fl_X13_269 (by decide) kc_73 (by decide) fr_13_57 (by decide) dX13_readSymbols_51 rfl ?_
          refine r_aload_n (pc' := 55) C 0 rfl rfl dX13_readSymbols_54 rfl ?_
          refine r_geti (pc' := 58) (k := 73) C fl_X13_269 (by decide) kc_73 (by decide) fr_13_57 dX13_readSymbols_55 rfl (fun f6 => ?_)
          have ef6 : (up2 iv 73 57 0) 73 57 = 0 := by simp [up2]
          rw [ef6] at f6 ⊢
          refine r_if_eq (pc' := 61) (tgt := 65) C (by decide) dX13_readSymbols_58 (by decide) rfl (fun _ => ?_) (fun z => absurd z (by decide))
          refine r_iload_n (pc' := 66) C 2 rfl rfl dX13_readSymbols_65 rfl ?_
          refine c_Si (pc' := 69) (mt := mX13_lengthBase) (as := [.int (i32 x2)]) (st := []) C h rfl cl_X13_lengthBase ml_X13_161 sm_X13_lengthBase (by omega) (Nat.le_refl _) (Nat.le_refl _) rfl rfl (Nat.le_of_ble_eq_true rfl) dX13_readSymbols_66 rfl (fun r7 iv8 av9 f10 h => ?_)
          replace h := h f10
          refine r_aload_n (pc' := 70) C 0 rfl rfl dX13_readSymbols_69 rfl ?_
          refine r_iload_n (pc' := 71) C 2 rfl rfl dX13_readSymbols_70 rfl ?_
          refine c_Si (pc' := 74) (mt := mX13_lengthBits) (as := [.int (i32 x2)]) (st := [.ref (gl_b Y + 73), .int (i32 r7)]) C h rfl cl_X13_lengthBits ml_X13_154 sm_X13_lengthBits (by omega) (Nat.le_refl _) (Nat.le_refl _) rfl rfl (Nat.le_of_ble_eq_true rfl) dX13_readSymbols_71 rfl (fun r11 iv12 av13 f14 h => ?_)
          replace h := h f14
          refine c_Vi (pc' := 77) (mt := mX13_readNumber) (as := [.int (i32 r11)]) (st := [.int (i32 r7)]) (k := 73) C h rfl cl_X13_readNumber ml_X13_304 im_X13_readNumber sl_X13_readNumber (by omega) (Nat.le_refl _) (Nat.le_refl _) rfl (by decide) kc_73 (by decide) rfl rfl rfl (Nat.le_of_ble_eq_true rfl) dX13_readSymbols_74 rfl (fun r15 iv16 av17 f18 h => ?_)
          replace h := h f18
          refine r_iadd (pc' := 78) C dX13_readSymbols_77 rfl ?_
          refine r_istore_n (pc' := 79) (ls' := [(0, .ref (gl_b Y + 73)), (1, .int (i32 x1)), (2, .int (i32 x2)), (3, .int (i32 (r7 + r15)))]) C (by decide) rfl rfl dX13_readSymbols_78 rfl ?_
          refine r_aload_n (pc' := 80) C 0 rfl rfl dX13_readSymbols_79 rfl ?_
          refine r_aload_n (pc' := 81) C 0 rfl rfl dX13_readSymbols_80 rfl ?_
          refine r_getr (pc' := 84) (k := 73) (r := 111) C fl_X13_130 (by decide) kc_73 (by decide) fr_13_50 RV_73_50 dX13_readSymbols_81 rfl ?_
          refine c_Vi (pc' := 87) (mt := mX13_readSymbol) (as := [.ref (gl_b Y + 111)]) (st := []) (k := 73) C h rfl cl_X13_readSymbol ml_X13_314 im_X13_readSymbol sl_X13_readSymbol (by omega) (Nat.le_refl _) (Nat.le_refl _) rfl (by decide) kc_73 (by decide) rfl rfl rfl (Nat.le_of_ble_eq_true rfl) dX13_readSymbols_84 rfl (fun r19 iv20 av21 f22 h => ?_)
          replace h := h f22
          refine r_istore (pc' := 89) (ls' := [(0, .ref (gl_b Y + 73)), (1, .int (i32 x1)), (2, .int (i32 x2)), (3, .int (i32 (r7 + r15))), (4, .int (i32 r19))]) C (by decide) rfl dX13_readSymbols_87 rfl ?_
          refine r_aload_n (pc' := 90) C 0 rfl rfl dX13_readSymbols_89 rfl ?_
          refine r_aload_n (pc' := 91) C 0 rfl rfl dX13_readSymbols_90 rfl ?_
          refine r_geti (pc' := 94) (k := 73) C fl_X13_269 (by decide) kc_73 (by decide) fr_13_57 dX13_readSymbols_91 rfl (fun f23 => ?_)
          replace h := h f23
          refine r_if_ne (pc' := 97) (tgt := 104) C f23 dX13_readSymbols_94 (by decide) rfl (fun c24 => ?_) (fun c24 => ?_)
          · replace h := h.1 c24
            refine r_iconst (pc' := 105) C dX13_readSymbols_104 rfl ?_
            refine r_goto (tgt := 109) C dX13_readSymbols_105 (by decide) ?_
            refine r_putz (pc' := 112) (k := 73) C fl_X13_269 (by decide) kc_73 (by decide) fr_13_57 (by decide) dX13_readSymbols_109 rfl ?_
            exact Wa.sub [0, 1, 3, 4] rfl h
          · replace h := h.2 c24
            refine r_iload (pc' := 99) C 4 rfl dX13_readSymbols_97 rfl ?_
            refine r_bipush (pc' := 101) C dX13_readSymbols_99 (by decide) rfl ?_
            refine r_icmp_le (pc' := 104) (tgt := 108) C f22 (by decide) dX13_readSymbols_101 (by decide) rfl (fun c25 => ?_) (fun c25 => ?_)
            · replace h := h.1 c25
              refine r_iconst (pc' := 109) C dX13_readSymbols_108 rfl ?_
              refine r_putz (pc' := 112) (k := 73) C fl_X13_269 (by decide) kc_73 (by decide) fr_13_57 (by decide) dX13_readSymbols_109 rfl ?_
              exact Wa.sub [0, 1, 3, 4] rfl h
            · replace h := h.2 c25
              refine r_iconst (pc' := 105) C dX13_readSymbols_104 rfl ?_
              refine r_goto (tgt := 109) C dX13_readSymbols_105 (by decide) ?_
              refine r_putz (pc' := 112) (k := 73) C fl_X13_269 (by decide) kc_73 (by decide) fr_13_57 (by decide) dX13_readSymbols_109 rfl ?_
              exact Wa.sub [0, 1, 3, 4] rfl h
        · replace h := h.2 c5
          refine r_iconst (pc' := 47) C dX13_readSymbols_46 rfl ?_
          refine r_goto (tgt := 51) C dX13_readSymbols_47 (by decide) ?_
          refine r_putz (pc' := 54) (k := 73) C fl_X13_269 (by decide) kc_73 (by decide) fr_13_57 (by decide) dX13_readSymbols_51 rfl ?_
          refine r_aload_n (pc' := 55) C 0 rfl rfl dX13_readSymbols_54 rfl ?_
          refine r_geti (pc' := 58) (k := 73) C fl_X13_269 (by decide) kc_73 (by decide) fr_13_57 dX13_readSymbols_55 rfl (fun f26 => ?_)
          have ef26 : (up2 iv 73 57 1) 73 57 = 1 := by simp [up2]
          rw [ef26] at f26 ⊢
          refine r_if_eq (pc' := 61) (tgt := 65) C (by decide) dX13_readSymbols_58 (by decide) rfl (fun z => absurd z (by decide)) (fun _ => ?_)
          refine r_iconst (pc' := 62) C dX13_readSymbols_61 rfl ?_
          refine r_goto (tgt := 78) C dX13_readSymbols_62 (by decide) ?_
          refine r_istore_n (pc' := 79) (ls' := [(0, .ref (gl_b Y + 73)), (1, .int (i32 x1)), (2, .int (i32 x2)), (3, .int (i32 0))]) C (by decide) rfl rfl dX13_readSymbols_78 rfl ?_
          refine r_aload_n (pc' := 80) C 0 rfl rfl dX13_readSymbols_79 rfl ?_
          refine r_aload_n (pc' := 81) C 0 rfl rfl dX13_readSymbols_80 rfl ?_
          refine r_getr (pc' := 84) (k := 73) (r := 111) C fl_X13_130 (by decide) kc_73 (by decide) fr_13_50 RV_73_50 dX13_readSymbols_81 rfl ?_
          refine c_Vi (pc' := 87) (mt := mX13_readSymbol) (as := [.ref (gl_b Y + 111)]) (st := []) (k := 73) C h rfl cl_X13_readSymbol ml_X13_314 im_X13_readSymbol sl_X13_readSymbol (by omega) (Nat.le_refl _) (Nat.le_refl _) rfl (by decide) kc_73 (by decide) rfl rfl rfl (Nat.le_of_ble_eq_true rfl) dX13_readSymbols_84 rfl (fun r27 iv28 av29 f30 h => ?_)
          replace h := h f30
          refine r_istore (pc' := 89) (ls' := [(0, .ref (gl_b Y + 73)), (1, .int (i32 x1)), (2, .int (i32 x2)), (3, .int (i32 0)), (4, .int (i32 r27))]) C (by decide) rfl dX13_readSymbols_87 rfl ?_
          refine r_aload_n (pc' := 90) C 0 rfl rfl dX13_readSymbols_89 rfl ?_
          refine r_aload_n (pc' := 91) C 0 rfl rfl dX13_readSymbols_90 rfl ?_
          refine r_geti (pc' := 94) (k := 73) C fl_X13_269 (by decide) kc_73 (by decide) fr_13_57 dX13_readSymbols_91 rfl (fun f31 => ?_)
          replace h := h f31
          refine r_if_ne (pc' := 97) (tgt := 104) C f31 dX13_readSymbols_94 (by decide) rfl (fun c32 => ?_) (fun c32 => ?_)
          · replace h := h.1 c32
            refine r_iconst (pc' := 105) C dX13_readSymbols_104 rfl ?_
            refine r_goto (tgt := 109) C dX13_readSymbols_105 (by decide) ?_
            refine r_putz (pc' := 112) (k := 73) C fl_X13_269 (by decide) kc_73 (by decide) fr_13_57 (by decide) dX13_readSymbols_109 rfl ?_
            exact Wa.sub [0, 1, 3, 4] rfl h
          · replace h := h.2 c32
            refine r_iload (pc' := 99) C 4 rfl dX13_readSymbols_97 rfl ?_
            refine r_bipush (pc' := 101) C dX13_readSymbols_99 (by decide) rfl ?_
            refine r_icmp_le (pc' := 104) (tgt := 108) C f30 (by decide) dX13_readSymbols_101 (by decide) rfl (fun c33 => ?_) (fun c33 => ?_)
            · replace h := h.1 c33
              refine r_iconst (pc' := 109) C dX13_readSymbols_108 rfl ?_
              refine r_putz (pc' := 112) (k := 73) C fl_X13_269 (by decide) kc_73 (by decide) fr_13_57 (by decide) dX13_readSymbols_109 rfl ?_
              exact Wa.sub [0, 1, 3, 4] rfl h
            · replace h := h.2 c33
              refine r_iconst (pc' := 105) C dX13_readSymbols_104 rfl ?_
              refine r_goto (tgt := 109) C dX13_readSymbols_105 (by decide) ?_
              refine r_putz (pc' := 112) (k := 73) C fl_X13_269 (by decide) kc_73 (by decide) fr_13_57 (by decide) dX13_readSymbols_109 rfl ?_
              exact Wa.sub [0, 1, 3, 4] rfl h
      · replace h := h.2 c4
        refine r_aload_n (pc' := 31) C 0 rfl rfl dX13_readSymbols_30 rfl ?_
        refine r_iload_n (pc' := 32) C 2 rfl rfl dX13_readSymbols_31 rfl ?_
        refine c_Vv (pc' := 35) (mt := mX13_makeByte) (as := [.int (i32 x2)]) (st := []) (k := 73) C h rfl cl_X13_makeByte ml_X13_307 im_X13_makeByte sl_X13_makeByte (by omega) (Nat.le_refl _) (Nat.le_refl _) rfl (by decide) kc_73 (by decide) rfl rfl rfl (Nat.le_of_ble_eq_true rfl) dX13_readSymbols_32 rfl (fun r34 iv35 av36 h => ?_)
        refine r_goto (tgt := 209) C dX13_readSymbols_35 (by decide) ?_
        refine r_aload_n (pc' := 210) C 0 rfl rfl dX13_readSymbols_209 rfl ?_
        refine r_aload_n (pc' := 211) C 0 rfl rfl dX13_readSymbols_210 rfl ?_
        refine r_getr (pc' := 214) (k := 73) (r := 109) C fl_X13_126 (by decide) kc_73 (by decide) fr_13_49 RV_73_49 dX13_readSymbols_211 rfl ?_
        refine c_Vi (pc' := 217) (mt := mX13_readSymbol) (as := [.ref (gl_b Y + 109)]) (st := []) (k := 73) C h rfl cl_X13_readSymbol ml_X13_314 im_X13_readSymbol sl_X13_readSymbol (by omega) (Nat.le_refl _) (Nat.le_refl _) rfl (by decide) kc_73 (by decide) rfl rfl rfl (Nat.le_of_ble_eq_true rfl) dX13_readSymbols_214 rfl (fun r38 iv39 av40 f41 h => ?_)
        replace h := h f41
        refine r_istore_n (pc' := 218) (ls' := [(0, .ref (gl_b Y + 73)), (1, .int (i32 x1)), (2, .int (i32 r38))]) C (by decide) rfl rfl dX13_readSymbols_217 rfl ?_
        refine r_goto (tgt := 9) C dX13_readSymbols_218 (by decide) ?_
        exact Wa.sub [0, 1, 2] rfl h
set_option maxHeartbeats 4000000 in
set_option maxRecDepth 100000 in
theorem o_X13_readSymbols {Y : Gl} {e : Nat} {P : PN} {x1 : Int} {iv av : IVt} (h : ∀ X : Cx, CX Y X RX13 "readSymbols" cX13_readSymbols 7 none (e + 2) 0 0 →
    OkN Y (e + 1) mX13_readSymbol [.ref (gl_b Y + 73), .ref (gl_b Y + 109)] RV iv av 116 (fun r1 iv2 av3 =>
      (InR r1) →
      L_X13_readSymbols_9 Y X P x1 r1 iv2 av3
    )) : OkN Y (e + 2) mX13_readSymbols [.ref (gl_b Y + 73), .int (i32 x1)] RV iv av 116 P := by
  refine OkW.of rfl (by show _ ≤ 7; exact Nat.le_of_ble_eq_true rfl) fun X C0 hR => ?_
  have C : CX Y X RX13 "readSymbols" cX13_readSymbols 7 none (e + 2) 0 0 := C0
  replace h := h X C
  show Wa Y X 7 (g_MQ Y X 0 (g_N RV 116 P) 0 0) 0 0 0 [(0, .ref (gl_b Y + 73)), (1, .int (i32 x1))] [] RV iv av 116
  refine r_aload_n (pc' := 1) C 0 rfl rfl dX13_readSymbols_0 rfl ?_
  refine r_aload_n (pc' := 2) C 0 rfl rfl dX13_readSymbols_1 rfl ?_
  refine r_getr (pc' := 5) (k := 73) (r := 109) C fl_X13_126 (by decide) kc_73 (by decide) fr_13_49 RV_73_49 dX13_readSymbols_2 rfl ?_
  refine c_Vi (pc' := 8) (mt := mX13_readSymbol) (as := [.ref (gl_b Y + 109)]) (st := []) (k := 73) C h rfl cl_X13_readSymbol ml_X13_314 im_X13_readSymbol sl_X13_readSymbol (by omega) (Nat.le_refl _) (Nat.le_refl _) rfl (by decide) kc_73 (by decide) rfl rfl rfl (Nat.le_of_ble_eq_true rfl) dX13_readSymbols_5 rfl (fun r1 iv2 av3 f4 h => ?_)
  replace h := h f4
  refine r_istore_n (pc' := 9) (ls' := [(0, .ref (gl_b Y + 73)), (1, .int (i32 x1)), (2, .int (i32 r1))]) C (by decide) rfl rfl dX13_readSymbols_8 rfl ?_
  exact Wa.sub [0, 1, 2] rfl h
def L_X13_unpack_126 (Y : Gl) (X : Cx) (P : PN) (a1 : Nat) (a4 : Nat) (x6 : Int) (x8 : Int) (iv av : IVt) : Prop := Wa Y X 12 (g_MQ Y X 1 (g_N RV 116 P) 0 0) 0 0 126 [(0, .ref (gl_b Y + 73)), (4, .ref (gl_b Y + a4)), (6, .int (i32 x6)), (8, .int (i32 x8))] [] RV iv av 116
def L_X13_unpack_182 (Y : Gl) (X : Cx) (P : PN) (a1 : Nat) (a4 : Nat) (x6 : Int) (x8 : Int) (x9 : Int) (iv av : IVt) : Prop := Wa Y X 12 (g_MQ Y X 1 (g_N RV 116 P) 0 0) 0 0 182 [(0, .ref (gl_b Y + 73)), (4, .ref (gl_b Y + a4)), (6, .int (i32 x6)), (8, .int (i32 x8)), (9, .int (i32 x9))] [] RV iv av 116
def L_X13_unpack_247 (Y : Gl) (X : Cx) (P : PN) (a1 : Nat) (a4 : Nat) (x6 : Int) (x8 : Int) (iv av : IVt) : Prop := Wa Y X 12 (g_MQ Y X 1 (g_N RV 116 P) 0 0) 0 0 247 [(0, .ref (gl_b Y + 73)), (4, .ref (gl_b Y + a4)), (6, .int (i32 x6)), (8, .int (i32 x8))] [] RV iv av 116
def L_X13_unpack_250 (Y : Gl) (X : Cx) (P : PN) (a1 : Nat) (a4 : Nat) (x6 : Int) (x8 : Int) (iv av : IVt) : Prop := Wa Y X 12 (g_MQ Y X 1 (g_N RV 116 P) 0 0) 0 0 250 [(0, .ref (gl_b Y + 73)), (4, .ref (gl_b Y + a4)), (6, .int (i32 x6)), (8, .int (i32 x8))] [] RV iv av 116
def L_X13_unpack_283 (Y : Gl) (X : Cx) (P : PN) (a1 : Nat) (a4 : Nat) (x6 : Int) (x8 : Int) (iv av : IVt) : Prop := Wa Y X 12 (g_MQ Y X 1 (g_N RV 116 P) 0 0) 0 0 283 [(0, .ref (gl_b Y + 73)), (4, .ref (gl_b Y + a4)), (6, .int (i32 x6)), (8, .int (i32 x8))] [] RV iv av 116
def L_X13_unpack_296 (Y : Gl) (X : Cx) (P : PN) (a1 : Nat) (a4 : Nat) (x9 : Int) (x11 : Int) (iv av : IVt) : Prop := Wa Y X 12 (g_MQ Y X 1 (g_N RV 116 P) 0 0) 0 0 296 [(0, .ref (gl_b Y + 73)), (4, .ref (gl_b Y + a4)), (9, .long (i64 x9)), (11, .int (i32 x11))] [] RV iv av 116
set_option maxHeartbeats 4000000 in
set_option maxRecDepth 100000 in
theorem w_X13_unpack_296 {Y : Gl} {X : Cx} {e : Nat} {P : PN} {a1 : Nat} {a4 : Nat} {x9 : Int} {x11 : Int} {iv av : IVt} (C : CX Y X RX13 "unpack" cX13_unpack 12 (some .int) (e + 3) 0 0) (Ka1 : ArrK 101 a1) (Ka4 : ArrK 101 a4) (hx9 : InL x9) (hx11 : InR x11) (h :
    ((4 ≤ x11) →
      ((InR (iv 73 57)) →
        ((¬ (iv 73 57) = 0) →
          P (-1) iv av
        ) ∧
        (((iv 73 57) = 0) →
          ((InR (iv 73 56)) →
            ((InR (iv 73 55)) →
              ((¬ (iv 73 56) = (iv 73 55)) →
                P (-1) iv av
              ) ∧
              (((iv 73 56) = (iv 73 55)) →
                ((InR (iv 73 59)) →
                  OkN Y (e + 2) mX13_checkOf [.ref (gl_b Y + a4), .int (i32 0), .int (i32 (iv 73 59))] RV iv av 116 (fun r8 iv9 av10 =>
                    (InL r8) →
                    (((g_cmp x9 r8) = 0) →
                      ((InR (iv9 73 59)) →
                        P (iv9 73 59) iv9 av10
                      )
                    ) ∧
                    ((¬ (g_cmp x9 r8) = 0) →
                      P (-1) iv9 av10
                    )
                  )
                )
              )
            )
          )
        )
      )
    ) ∧
    ((¬ 4 ≤ x11) →
      OkN Y (e + 2) mX13_readNumber [.ref (gl_b Y + 73), .int (i32 8)] RV iv av 116 (fun r14 iv15 av16 =>
        (InR r14) →
        L_X13_unpack_296 Y X P a1 a4 ((256 * x9) + r14) (x11 + 1) iv15 av16
      )
    )) : L_X13_unpack_296 Y X P a1 a4 x9 x11 iv av := by
  obtain ⟨ha1c, ha1l⟩ := Ka1
  obtain ⟨ha4c, ha4l⟩ := Ka4
  unfold L_X13_unpack_296
  refine r_iload (pc' := 298) C 3 rfl dX13_unpack_296 rfl ?_
  refine r_iconst (pc' := 299) C dX13_unpack_298 rfl ?_
  refine r_icmp_ge (pc' := 302) (tgt := 324) C hx11 (by decide) dX13_unpack_299 (by decide) rfl (fun c1 => ?_) (fun c1 => ?_)
  · replace h := h.1 c1
    refine r_aload_n (pc' := 325) C 0 rfl rfl dX13_unpack_324 rfl ?_
    refine r_geti (pc' := 328) (k := 73) C fl_X13_269 (by decide) kc_73 (by decide) fr_13_57 dX13_unpack_325 rfl (fun f2 => ?_)
    replace h := h f2
    refine r_if_ne (pc' := 331) (tgt := 358) C f2 dX13_unpack_328 (by decide) rfl (fun c3 => ?_) (fun c3 => ?_)
    · replace h := h.1 c3
      refine r_iconst (pc' := 359) C dX13_unpack_358 rfl ?_
      refine r_goto (tgt := 366) C dX13_unpack_359 (by decide) ?_
      exact r_iret C (by decide) ⟨rfl, rfl, h⟩ dX13_unpack_366
    · replace h := h.2 c3
      refine r_aload_n (pc' := 332) C 0 rfl rfl dX13_unpack_331 rfl ?_
      refine r_geti (pc' := 335) (k := 73) C fl_X13_273 (by decide) kc_73 (by decide) fr_13_56 dX13_unpack_332 rfl (fun f4 => ?_)
      replace h := h f4
      refine r_aload_n (pc' := 336) C 0 rfl rfl dX13_unpack_335 rfl ?_
      refine r_geti (pc' := 339) (k := 73) C fl_X13_276 (by decide) kc_73 (by decide) fr_13_55 dX13_unpack_336 rfl (fun f5 => ?_)
      replace h := h f5
      refine r_icmp_ne (pc' := 342) (tgt := 358) C f4 f5 dX13_unpack_339 (by decide) rfl (fun c6 => ?_) (fun c6 => ?_)
      · replace h := h.1 c6
        refine r_iconst (pc' := 359) C dX13_unpack_358 rfl ?_
        refine r_goto (tgt := 366) C dX13_unpack_359 (by decide) ?_
        exact r_iret C (by decide) ⟨rfl, rfl, h⟩ dX13_unpack_366
      · replace h := h.2 c6
        refine r_lload (pc' := 344) C 2 rfl dX13_unpack_342 rfl ?_
        refine r_aload (pc' := 346) C 1 rfl dX13_unpack_344 rfl ?_
        refine r_iconst (pc' := 347) C dX13_unpack_346 rfl ?_
        refine r_aload_n (pc' := 348) C 0 rfl rfl dX13_unpack_347 rfl ?_
        refine r_geti (pc' := 351) (k := 73) C fl_X13_292 (by decide) kc_73 (by decide) fr_13_59 dX13_unpack_348 rfl (fun f7 => ?_)
        replace h := h f7
        refine c_Sl (pc' := 354) (mt := mX13_checkOf) (as := [.ref (gl_b Y + a4), .int (i32 0), .int (i32 (iv 73 59))]) (st := [.long (i64 x9)]) C h rfl cl_X13_checkOf ml_X13_263 sm_X13_checkOf (by omega) (Nat.le_refl _) (Nat.le_refl _) rfl rfl (Nat.le_of_ble_eq_true rfl) dX13_unpack_351 rfl (fun r8 iv9 av10 f11 h => ?_)
        replace h := h f11
        refine r_lcmp (pc' := 355) C hx9 f11 dX13_unpack_354 rfl ?_
        refine r_if_eq (pc' := 358) (tgt := 362) C (g_cmp_in _ _) dX13_unpack_355 (by decide) rfl (fun c12 => ?_) (fun c12 => ?_)
        · replace h := h.1 c12
          refine r_aload_n (pc' := 363) C 0 rfl rfl dX13_unpack_362 rfl ?_
          refine r_geti (pc' := 366) (k := 73) C fl_X13_292 (by decide) kc_73 (by decide) fr_13_59 dX13_unpack_363 rfl (fun f13 => ?_)
          replace h := h f13
          exact r_iret C f13 ⟨rfl, rfl, h⟩ dX13_unpack_366
        · replace h := h.2 c12
          refine r_iconst (pc' := 359) C dX13_unpack_358 rfl ?_
          refine r_goto (tgt := 366) C dX13_unpack_359 (by decide) ?_
          exact r_iret C (by decide) ⟨rfl, rfl, h⟩ dX13_unpack_366
  · replace h := h.2 c1
    refine r_ldc2 (pc' := 305) (x := 256) C ct_X13_327 (by decide) dX13_unpack_302 rfl ?_
    refine r_lload (pc' := 307) C 2 rfl dX13_unpack_305 rfl ?_
    refine r_lmul (pc' := 308) C dX13_unpack_307 rfl ?_
    refine r_aload_n (pc' := 309) C 0 rfl rfl dX13_unpack_308 rfl ?_
    refine r_bipush (pc' := 311) C dX13_unpack_309 (by decide) rfl ?_
    refine c_Vi (pc' := 314) (mt := mX13_readNumber) (as := [.int (i32 8)]) (st := [.long (i64 (256 * x9))]) (k := 73) C h rfl cl_X13_readNumber ml_X13_304 im_X13_readNumber sl_X13_readNumber (by omega) (Nat.le_refl _) (Nat.le_refl _) rfl (by decide) kc_73 (by decide) rfl rfl rfl (Nat.le_of_ble_eq_true rfl) dX13_unpack_311 rfl (fun r14 iv15 av16 f17 h => ?_)
    replace h := h f17
    refine r_i2l (pc' := 315) C f17 dX13_unpack_314 rfl ?_
    refine r_ladd (pc' := 316) C dX13_unpack_315 rfl ?_
    refine r_lstore (pc' := 318) (ls' := [(0, .ref (gl_b Y + 73)), (4, .ref (gl_b Y + a4)), (9, .long (i64 ((256 * x9) + r14))), (11, .int (i32 x11))]) C (by decide) rfl dX13_unpack_316 rfl ?_
    refine r_iinc (pc' := 321) (ls' := [(0, .ref (gl_b Y + 73)), (4, .ref (gl_b Y + a4)), (9, .long (i64 ((256 * x9) + r14))), (11, .int (i32 (x11 + 1)))]) C 3 rfl (by decide) rfl dX13_unpack_318 rfl ?_
    refine r_goto (tgt := 296) C dX13_unpack_321 (by decide) ?_
    exact Wa.sub [0, 1, 2, 3] rfl h
set_option maxHeartbeats 4000000 in
set_option maxRecDepth 100000 in
theorem w_X13_unpack_283 {Y : Gl} {X : Cx} {e : Nat} {P : PN} {a1 : Nat} {a4 : Nat} {x6 : Int} {x8 : Int} {iv av : IVt} (C : CX Y X RX13 "unpack" cX13_unpack 12 (some .int) (e + 3) 0 0) (Ka1 : ArrK 101 a1) (Ka4 : ArrK 101 a4) (h :
    L_X13_unpack_126 Y X P a1 a4 x6 x8 iv av) : L_X13_unpack_283 Y X P a1 a4 x6 x8 iv av := by
  obtain ⟨ha1c, ha1l⟩ := Ka1
  obtain ⟨ha4c, ha4l⟩ := Ka4
  unfold L_X13_unpack_283
  refine r_goto (tgt := 126) C dX13_unpack_283 (by decide) ?_
  exact Wa.sub [0, 1, 2, 3] rfl h
set_option maxHeartbeats 4000000 in
set_option maxRecDepth 100000 in
theorem w_X13_unpack_250 {Y : Gl} {X : Cx} {e : Nat} {P : PN} {a1 : Nat} {a4 : Nat} {x6 : Int} {x8 : Int} {iv av : IVt} (C : CX Y X RX13 "unpack" cX13_unpack 12 (some .int) (e + 3) 0 0) (Ka1 : ArrK 101 a1) (Ka4 : ArrK 101 a4) (hx6 : InR x6) (h :
    (0 ≤ x6) ∧
    (0 ≤ (x6 / 16) ∧ (x6 / 16) ≤ 31) ∧
    (InR (256 * 2 ^ (x6 / 16).toNat)) ∧
    OkN Y (e + 2) mX13_readSymbols [.ref (gl_b Y + 73), .int (i32 (256 * 2 ^ (x6 / 16).toNat))] RV iv av 116 (fun r4 iv5 av6 =>
      L_X13_unpack_283 Y X P a1 a4 x6 x8 iv5 av6
    )) : L_X13_unpack_250 Y X P a1 a4 x6 x8 iv av := by
  obtain ⟨ha1c, ha1l⟩ := Ka1
  obtain ⟨ha4c, ha4l⟩ := Ka4
  unfold L_X13_unpack_250
  refine r_aload_n (pc' := 251) C 0 rfl rfl dX13_unpack_250 rfl ?_
  refine r_sipush (pc' := 254) C dX13_unpack_251 (by decide) rfl ?_
  refine r_iload (pc' := 256) C 2 rfl dX13_unpack_254 rfl ?_
  refine r_bipush (pc' := 258) C dX13_unpack_256 (by decide) rfl ?_
  have o1 := h.1
  replace h := h.2
  refine r_idiv (pc' := 259) C ⟨o1, hx6⟩ ⟨(by decide), (by decide)⟩ dX13_unpack_258 rfl ?_
  have o2 := h.1
  replace h := h.2
  refine r_ishl (pc' := 260) C o2 dX13_unpack_259 rfl ?_
  have o3 := h.1
  replace h := h.2
  refine c_Vv (pc' := 263) (mt := mX13_readSymbols) (as := [.int (i32 (256 * 2 ^ (x6 / 16).toNat))]) (st := []) (k := 73) C h rfl cl_X13_readSymbols ml_X13_321 im_X13_readSymbols sl_X13_readSymbols (by omega) (Nat.le_refl _) (Nat.le_refl _) rfl (by decide) kc_73 (by decide) rfl rfl rfl (Nat.le_of_ble_eq_true rfl) dX13_unpack_260 rfl (fun r4 iv5 av6 h => ?_)
  refine r_goto (tgt := 283) C dX13_unpack_263 (by decide) ?_
  exact Wa.sub [0, 1, 2, 3] rfl h
set_option maxHeartbeats 4000000 in
set_option maxRecDepth 100000 in
theorem w_X13_unpack_247 {Y : Gl} {X : Cx} {e : Nat} {P : PN} {a1 : Nat} {a4 : Nat} {x6 : Int} {x8 : Int} {iv av : IVt} (C : CX Y X RX13 "unpack" cX13_unpack 12 (some .int) (e + 3) 0 0) (Ka1 : ArrK 101 a1) (Ka4 : ArrK 101 a4) (h :
    L_X13_unpack_250 Y X P a1 a4 x6 x8 iv av) : L_X13_unpack_247 Y X P a1 a4 x6 x8 iv av := by
  obtain ⟨ha1c, ha1l⟩ := Ka1
  obtain ⟨ha4c, ha4l⟩ := Ka4
  unfold L_X13_unpack_247
  refine r_iconst (pc' := 248) C dX13_unpack_247 rfl ?_
  refine r_istore (pc' := 250) (ls' := [(0, .ref (gl_b Y + 73)), (4, .ref (gl_b Y + a4)), (6, .int (i32 x6)), (8, .int (i32 x8)), (10, .int (i32 0))]) C (by decide) rfl dX13_unpack_248 rfl ?_
  exact Wa.sub [0, 1, 2, 3] rfl h
set_option maxHeartbeats 4000000 in
set_option maxRecDepth 100000 in
theorem w_X13_unpack_182 {Y : Gl} {X : Cx} {e : Nat} {P : PN} {a1 : Nat} {a4 : Nat} {x6 : Int} {x8 : Int} {x9 : Int} {iv av : IVt} (C : CX Y X RX13 "unpack" cX13_unpack 12 (some .int) (e + 3) 0 0) (Ka1 : ArrK 101 a1) (Ka4 : ArrK 101 a4) (hx6 : InR x6) (hx9 : InR x9) (h :
    ((¬ x9 = 0) →
      ((¬ x9 = 1) →
        OkN Y (e + 2) mX13_readMade [.ref (gl_b Y + 73)] RV iv av 116 (fun r3 iv4 av5 =>
          (0 ≤ x6) ∧
          (0 ≤ (x6 / 16) ∧ (x6 / 16) ≤ 31) ∧
          (InR (256 * 2 ^ (x6 / 16).toNat)) ∧
          OkN Y (e + 2) mX13_readSymbols [.ref (gl_b Y + 73), .int (i32 (256 * 2 ^ (x6 / 16).toNat))] RV iv4 av5 116 (fun r10 iv11 av12 =>
            L_X13_unpack_283 Y X P a1 a4 x6 x8 iv11 av12
          )
        )
      ) ∧
      ((x9 = 1) →
        OkN Y (e + 2) mX13_makeFixed [.ref (gl_b Y + 73)] RV iv av 116 (fun r14 iv15 av16 =>
          OkN Y (e + 2) mX12_make [.ref (gl_b Y + 109), .ref (gl_b Y + 100), .int (i32 0), .int (i32 288), .int (i32 0)] RV iv15 av16 116 (fun r18 iv19 av20 =>
            (InR r18) →
            ((r18 = 0) →
              L_X13_unpack_247 Y X P a1 a4 x6 x8 iv19 av20
            ) ∧
            ((¬ r18 = 0) →
              OkN Y (e + 2) mX12_make [.ref (gl_b Y + 111), .ref (gl_b Y + 100), .int (i32 288), .int (i32 32), .int (i32 0)] RV iv19 av20 116 (fun r23 iv24 av25 =>
                (InR r23) →
                ((r23 = 0) →
                  L_X13_unpack_247 Y X P a1 a4 x6 x8 iv24 av25
                ) ∧
                ((¬ r23 = 0) →
                  L_X13_unpack_250 Y X P a1 a4 x6 x8 iv24 av25
                )
              )
            )
          )
        )
      )
    ) ∧
    ((x9 = 0) →
      OkN Y (e + 2) mX13_readStored [.ref (gl_b Y + 73)] RV iv av 116 (fun r28 iv29 av30 =>
        L_X13_unpack_283 Y X P a1 a4 x6 x8 iv29 av30
      )
    )) : L_X13_unpack_182 Y X P a1 a4 x6 x8 x9 iv av := by
  obtain ⟨ha1c, ha1l⟩ := Ka1
  obtain ⟨ha4c, ha4l⟩ := Ka4
  unfold L_X13_unpack_182
  refine r_iload (pc' := 184) C 4 rfl dX13_unpack_182 rfl ?_
  refine r_if_ne (pc' := 187) (tgt := 194) C hx9 dX13_unpack_184 (by decide) rfl (fun c1 => ?_) (fun c1 => ?_)
  · replace h := h.1 c1
    refine r_iload (pc' := 196) C 4 rfl dX13_unpack_194 rfl ?_
    refine r_iconst (pc' := 197) C dX13_unpack_196 rfl ?_
    refine r_icmp_ne (pc' := 200) (tgt := 266) C hx9 (by decide) dX13_unpack_197 (by decide) rfl (fun c2 => ?_) (fun c2 => ?_)
    · replace h := h.1 c2
      refine r_aload_n (pc' := 267) C 0 rfl rfl dX13_unpack_266 rfl ?_
      refine c_Vv (pc' := 270) (mt := mX13_readMade) (as := []) (st := []) (k := 73) C h rfl cl_X13_readMade ml_X13_324 im_X13_readMade sl_X13_readMade (by omega) (Nat.le_refl _) (Nat.le_refl _) rfl (by decide) kc_73 (by decide) rfl rfl rfl (Nat.le_of_ble_eq_true rfl) dX13_unpack_267 rfl (fun r3 iv4 av5 h => ?_)
      refine r_aload_n (pc' := 271) C 0 rfl rfl dX13_unpack_270 rfl ?_
      refine r_sipush (pc' := 274) C dX13_unpack_271 (by decide) rfl ?_
      refine r_iload (pc' := 276) C 2 rfl dX13_unpack_274 rfl ?_
      refine r_bipush (pc' := 278) C dX13_unpack_276 (by decide) rfl ?_
      have o7 := h.1
      replace h := h.2
      refine r_idiv (pc' := 279) C ⟨o7, hx6⟩ ⟨(by decide), (by decide)⟩ dX13_unpack_278 rfl ?_
      have o8 := h.1
      replace h := h.2
      refine r_ishl (pc' := 280) C o8 dX13_unpack_279 rfl ?_
      have o9 := h.1
      replace h := h.2
      refine c_Vv (pc' := 283) (mt := mX13_readSymbols) (as := [.int (i32 (256 * 2 ^ (x6 / 16).toNat))]) (st := []) (k := 73) C h rfl cl_X13_readSymbols ml_X13_321 im_X13_readSymbols sl_X13_readSymbols (by omega) (Nat.le_refl _) (Nat.le_refl _) rfl (by decide) kc_73 (by decide) rfl rfl rfl (Nat.le_of_ble_eq_true rfl) dX13_unpack_280 rfl (fun r10 iv11 av12 h => ?_)
      exact Wa.sub [0, 1, 2, 3] rfl h
    · replace h := h.2 c2
      refine r_aload_n (pc' := 201) C 0 rfl rfl dX13_unpack_200 rfl ?_
      refine c_Vv (pc' := 204) (mt := mX13_makeFixed) (as := []) (st := []) (k := 73) C h rfl cl_X13_makeFixed ml_X13_240 im_X13_makeFixed sl_X13_makeFixed (by omega) (Nat.le_refl _) (Nat.le_refl _) rfl (by decide) kc_73 (by decide) rfl rfl rfl (Nat.le_of_ble_eq_true rfl) dX13_unpack_201 rfl (fun r14 iv15 av16 h => ?_)
      refine r_aload_n (pc' := 205) C 0 rfl rfl dX13_unpack_204 rfl ?_
      refine r_getr (pc' := 208) (k := 73) (r := 109) C fl_X13_126 (by decide) kc_73 (by decide) fr_13_49 RV_73_49 dX13_unpack_205 rfl ?_
      refine r_aload_n (pc' := 209) C 0 rfl rfl dX13_unpack_208 rfl ?_
      refine r_getr (pc' := 212) (k := 73) (r := 100) C fl_X13_96 (by decide) kc_73 (by decide) fr_13_39 RV_73_39 dX13_unpack_209 rfl ?_
      refine r_iconst (pc' := 213) C dX13_unpack_212 rfl ?_
      refine r_sipush (pc' := 216) C dX13_unpack_213 (by decide) rfl ?_
      refine r_iconst (pc' := 217) C dX13_unpack_216 rfl ?_
      refine c_Vi (pc' := 220) (mt := mX12_make) (as := [.ref (gl_b Y + 100), .int (i32 0), .int (i32 288), .int (i32 0)]) (st := []) (k := 109) C h rfl cl_X12_make ml_X13_310 im_X12_make sl_X12_make (by omega) (Nat.le_refl _) (Nat.le_refl _) rfl (by decide) kc_109 (by decide) rfl rfl rfl (Nat.le_of_ble_eq_true rfl) dX13_unpack_217 rfl (fun r18 iv19 av20 f21 h => ?_)
      replace h := h f21
      refine r_if_eq (pc' := 223) (tgt := 247) C f21 dX13_unpack_220 (by decide) rfl (fun c22 => ?_) (fun c22 => ?_)
      · replace h := h.1 c22
        exact Wa.sub [0, 1, 2, 3] rfl h
      · replace h := h.2 c22
        refine r_aload_n (pc' := 224) C 0 rfl rfl dX13_unpack_223 rfl ?_
        refine r_getr (pc' := 227) (k := 73) (r := 111) C fl_X13_130 (by decide) kc_73 (by decide) fr_13_50 RV_73_50 dX13_unpack_224 rfl ?_
        refine r_aload_n (pc' := 228) C 0 rfl rfl dX13_unpack_227 rfl ?_
        refine r_getr (pc' := 231) (k := 73) (r := 100) C fl_X13_96 (by decide) kc_73 (by decide) fr_13_39 RV_73_39 dX13_unpack_228 rfl ?_
        refine r_sipush (pc' := 234) C dX13_unpack_231 (by decide) rfl ?_
        refine r_bipush (pc' := 236) C dX13_unpack_234 (by decide) rfl ?_
        refine r_iconst (pc' := 237) C dX13_unpack_236 rfl ?_
        refine c_Vi (pc' := 240) (mt := mX12_make) (as := [.ref (gl_b Y + 100), .int (i32 288), .int (i32 32), .int (i32 0)]) (st := []) (k := 111) C h rfl cl_X12_make ml_X13_310 im_X12_make sl_X12_make (by omega) (Nat.le_refl _) (Nat.le_refl _) rfl (by decide) kc_111 (by decide) rfl rfl rfl (Nat.le_of_ble_eq_true rfl) dX13_unpack_237 rfl (fun r23 iv24 av25 f26 h => ?_)
        replace h := h f26
        refine r_if_eq (pc' := 243) (tgt := 247) C f26 dX13_unpack_240 (by decide) rfl (fun c27 => ?_) (fun c27 => ?_)
        · replace h := h.1 c27
          exact Wa.sub [0, 1, 2, 3] rfl h
        · replace h := h.2 c27
          refine r_iconst (pc' := 244) C dX13_unpack_243 rfl ?_
          refine r_goto (tgt := 248) C dX13_unpack_244 (by decide) ?_
          refine r_istore (pc' := 250) (ls' := [(0, .ref (gl_b Y + 73)), (4, .ref (gl_b Y + a4)), (6, .int (i32 x6)), (8, .int (i32 x8)), (9, .int (i32 x9)), (10, .int (i32 1))]) C (by decide) rfl dX13_unpack_248 rfl ?_
          exact Wa.sub [0, 1, 2, 3] rfl h
  · replace h := h.2 c1
    refine r_aload_n (pc' := 188) C 0 rfl rfl dX13_unpack_187 rfl ?_
    refine c_Vv (pc' := 191) (mt := mX13_readStored) (as := []) (st := []) (k := 73) C h rfl cl_X13_readStored ml_X13_318 im_X13_readStored sl_X13_readStored (by omega) (Nat.le_refl _) (Nat.le_refl _) rfl (by decide) kc_73 (by decide) rfl rfl rfl (Nat.le_of_ble_eq_true rfl) dX13_unpack_188 rfl (fun r28 iv29 av30 h => ?_)
    refine r_goto (tgt := 283) C dX13_unpack_191 (by decide) ?_
    exact Wa.sub [0, 1, 2, 3] rfl h
set_option maxHeartbeats 4000000 in
set_option maxRecDepth 100000 in
theorem w_X13_unpack_126 {Y : Gl} {X : Cx} {e : Nat} {P : PN} {a1 : Nat} {a4 : Nat} {x6 : Int} {x8 : Int} {iv av : IVt} (C : CX Y X RX13 "unpack" cX13_unpack 12 (some .int) (e + 3) 0 0) (Ka1 : ArrK 101 a1) (Ka4 : ArrK 101 a4) (hx8 : InR x8) (h :
    ((¬ x8 = 0) →
      OkN Y (e + 2) mX13_toByte [.ref (gl_b Y + 73)] RV iv av 116 (fun r2 iv3 av4 =>
        L_X13_unpack_296 Y X P a1 a4 0 0 iv3 av4
      )
    ) ∧
    ((x8 = 0) →
      ((InR (iv 73 57)) →
        ((¬ (iv 73 57) = 0) →
          OkN Y (e + 2) mX13_toByte [.ref (gl_b Y + 73)] RV iv av 116 (fun r8 iv9 av10 =>
            L_X13_unpack_296 Y X P a1 a4 0 0 iv9 av10
          )
        ) ∧
        (((iv 73 57) = 0) →
          OkN Y (e + 2) mX13_readBit [.ref (gl_b Y + 73)] RV iv av 116 (fun r12 iv13 av14 =>
            (InR r12) →
            ((¬ r12 = 1) →
              OkN Y (e + 2) mX13_readNumber [.ref (gl_b Y + 73), .int (i32 2)] RV iv13 av14 116 (fun r17 iv18 av19 =>
                (InR r17) →
                ((InR (iv18 73 57)) →
                  ((¬ (iv18 73 57) = 0) →
                    L_X13_unpack_182 Y X P a1 a4 x6 0 r17 (up2 iv18 73 57 1) av19
                  ) ∧
                  (((iv18 73 57) = 0) →
                    ((¬ r17 = 3) →
                      L_X13_unpack_182 Y X P a1 a4 x6 0 r17 (up2 iv18 73 57 0) av19
                    ) ∧
                    ((r17 = 3) →
                      L_X13_unpack_182 Y X P a1 a4 x6 0 r17 (up2 iv18 73 57 1) av19
                    )
                  )
                )
              )
            ) ∧
            ((r12 = 1) →
              OkN Y (e + 2) mX13_readNumber [.ref (gl_b Y + 73), .int (i32 2)] RV iv13 av14 116 (fun r24 iv25 av26 =>
                (InR r24) →
                ((InR (iv25 73 57)) →
                  ((¬ (iv25 73 57) = 0) →
                    L_X13_unpack_182 Y X P a1 a4 x6 1 r24 (up2 iv25 73 57 1) av26
                  ) ∧
                  (((iv25 73 57) = 0) →
                    ((¬ r24 = 3) →
                      L_X13_unpack_182 Y X P a1 a4 x6 1 r24 (up2 iv25 73 57 0) av26
                    ) ∧
                    ((r24 = 3) →
                      L_X13_unpack_182 Y X P a1 a4 x6 1 r24 (up2 iv25 73 57 1) av26
                    )
                  )
                )
              )
            )
          )
        )
      )
    )) : L_X13_unpack_126 Y X P a1 a4 x6 x8 iv av := by
  obtain ⟨ha1c, ha1l⟩ := Ka1
  obtain ⟨ha4c, ha4l⟩ := Ka4
  unfold L_X13_unpack_126
  refine r_iload (pc' := 128) C 3 rfl dX13_unpack_126 rfl ?_
  refine r_if_ne (pc' := 131) (tgt := 286) C hx8 dX13_unpack_128 (by decide) rfl (fun c1 => ?_) (fun c1 => ?_)
  · replace h := h.1 c1
    refine r_aload_n (pc' := 287) C 0 rfl rfl dX13_unpack_286 rfl ?_
    refine c_Vv (pc' := 290) (mt := mX13_toByte) (as := []) (st := []) (k := 73) C h rfl cl_X13_toByte ml_X13_301 im_X13_toByte sl_X13_toByte (by omega) (Nat.le_refl _) (Nat.le_refl _) rfl (by decide) kc_73 (by decide) rfl rfl rfl (Nat.le_of_ble_eq_true rfl) dX13_unpack_287 rfl (fun r2 iv3 av4 h => ?_)
    refine r_lconst (pc' := 291) (x := 0) C dX13_unpack_290 rfl rfl ?_
    refine r_lstore (pc' := 293) (ls' := [(0, .ref (gl_b Y + 73)), (4, .ref (gl_b Y + a4)), (6, .int (i32 x6)), (8, .int (i32 x8)), (9, .long (i64 0))]) C (by decide) rfl dX13_unpack_291 rfl ?_
    refine r_iconst (pc' := 294) C dX13_unpack_293 rfl ?_
    refine r_istore (pc' := 296) (ls' := [(0, .ref (gl_b Y + 73)), (4, .ref (gl_b Y + a4)), (6, .int (i32 x6)), (8, .int (i32 x8)), (9, .long (i64 0)), (11, .int (i32 0))]) C (by decide) rfl dX13_unpack_294 rfl ?_
    exact Wa.sub [0, 1, 4, 5] rfl h
  · replace h := h.2 c1
    refine r_aload_n (pc' := 132) C 0 rfl rfl dX13_unpack_131 rfl ?_
    refine r_geti (pc' := 135) (k := 73) C fl_X13_269 (by decide) kc_73 (by decide) fr_13_57 dX13_unpack_132 rfl (fun f6 => ?_)
    replace h := h f6
    refine r_if_ne (pc' := 138) (tgt := 286) C f6 dX13_unpack_135 (by decide) rfl (fun c7 => ?_) (fun c7 => ?_)
    · replace h := h.1 c7
      refine r_aload_n (pc' := 287) C 0 rfl rfl dX13_unpack_286 rfl ?_
      refine c_Vv (pc' := 290) (mt := mX13_toByte) (as := []) (st := []) (k := 73) C h rfl cl_X13_toByte ml_X13_301 im_X13_toByte sl_X13_toByte (by omega) (Nat.le_refl _) (Nat.le_refl _) rfl (by decide) kc_73 (by decide) rfl rfl rfl (Nat.le_of_ble_eq_true rfl) dX13_unpack_287 rfl (fun r8 iv9 av10 h => ?_)
      refine r_lconst (pc' := 291) (x := 0) C dX13_unpack_290 rfl rfl ?_
      refine r_lstore (pc' := 293) (ls' := [(0, .ref (gl_b Y + 73)), (4, .ref (gl_b Y + a4)), (6, .int (i32 x6)), (8, .int (i32 x8)), (9, .long (i64 0))]) C (by decide) rfl dX13_unpack_291 rfl ?_
      refine r_iconst (pc' := 294) C dX13_unpack_293 rfl ?_
      refine r_istore (pc' := 296) (ls' := [(0, .ref (gl_b Y + 73)), (4, .ref (gl_b Y + a4)), (6, .int (i32 x6)), (8, .int (i32 x8)), (9, .long (i64 0)), (11, .int (i32 0))]) C (by decide) rfl dX13_unpack_294 rfl ?_
      exact Wa.sub [0, 1, 4, 5] rfl h
    · replace h := h.2 c7
      refine r_aload_n (pc' := 139) C 0 rfl rfl dX13_unpack_138 rfl ?_
      refine c_Vi (pc' := 142) (mt := mX13_readBit) (as := []) (st := []) (k := 73) C h rfl cl_X13_readBit ml_X13_285 im_X13_readBit sl_X13_readBit (by omega) (Nat.le_refl _) (Nat.le_refl _) rfl (by decide) kc_73 (by decide) rfl rfl rfl (Nat.le_of_ble_eq_true rfl) dX13_unpack_139 rfl (fun r12 iv13 av14 f15 h => ?_)
      replace h := h f15
      refine r_iconst (pc' := 143) C dX13_unpack_142 rfl ?_
      refine r_icmp_ne (pc' := 146) (tgt := 150) C f15 (by decide) dX13_unpack_143 (by decide) rfl (fun c16 => ?_) (fun c16 => ?_)
      · replace h := h.1 c16
        refine r_iconst (pc' := 151) C dX13_unpack_150 rfl ?_
        refine r_istore (pc' := 153) (ls' := [(0, .ref (gl_b Y + 73)), (4, .ref (gl_b Y + a4)), (6, .int (i32 x6)), (8, .int (i32 0))]) C (by decide) rfl dX13_unpack_151 rfl ?_
        refine r_aload_n (pc' := 154) C 0 rfl rfl dX13_unpack_153 rfl ?_
        refine r_iconst (pc' := 155) C dX13_unpack_154 rfl ?_
        refine c_Vi (pc' := 158) (mt := mX13_readNumber) (as := [.int (i32 2)]) (st := []) (k := 73) C h rfl cl_X13_readNumber ml_X13_304 im_X13_readNumber sl_X13_readNumber (by omega) (Nat.le_refl _) (Nat.le_refl _) rfl (by decide) kc_73 (by decide) rfl rfl rfl (Nat.le_of_ble_eq_true rfl) dX13_unpack_155 rfl (fun r17 iv18 av19 f20 h => ?_)
        replace h := h f20
        refine r_istore (pc' := 160) (ls' := [(0, .ref (gl_b Y + 73)), (4, .ref (gl_b Y + a4)), (6, .int (i32 x6)), (8, .int (i32 0)), (9, .int (i32 r17))]) C (by decide) rfl dX13_unpack_158 rfl ?_
        refine r_aload_n (pc' := 161) C 0 rfl rfl dX13_unpack_160 rfl ?_
        refine r_aload_n (pc' := 162) C 0 rfl rfl dX13_unpack_161 rfl ?_
        refine r_geti (pc' := 165) (k := 73) C fl_X13_269 (by decide) kc_73 (by decide) fr_13_57 dX13_unpack_162 rfl (fun f21 => ?_)
        replace h := h f21
        refine r_if_ne (pc' := 168) (tgt := 174) C f21 dX13_unpack_165 (by decide) rfl (fun c22 => ?_) (fun c22 => ?_)
        · replace h := h.1 c22
          refine r_iconst (pc' := 175) C dX13_unpack_174 rfl ?_
          refine r_goto (tgt := 179) C dX13_unpack_175 (by decide) ?_
          refine r_putz (pc' := 182) (k := 73) C fl_X13_269 (by decide) kc_73 (by decide) fr_13_57 (by decide) dX13_unpack_179 rfl ?_
          exact Wa.sub [0, 1, 2, 3, 4] rfl h
        · replace h := h.2 c22
          refine r_iload (pc' := 170) C 4 rfl dX13_unpack_168 rfl ?_
          refine r_iconst (pc' := 171) C dX13_unpack_170 rfl ?_
          refine r_icmp_ne (pc' := 174) (tgt := 178) C f20 (by decide) dX13_unpack_171 (by decide) rfl (fun c23 => ?_) (fun c23 => ?_)
          · replace h := h.1 c23
            refine r_iconst (pc' := 179) C dX13_unpack_178 rfl ?_
            refine r_putz (pc' := 182) (k := 73) C fl_X13_269 (by decide) kc_73 (by decide) fr_13_57 (by decide) dX13_unpack_179 rfl ?_
            exact Wa.sub [0, 1, 2, 3, 4] rfl h
          · replace h := h.2 c23
            refine r_iconst (pc' := 175) C dX13_unpack_174 rfl ?_
            refine r_goto (tgt := 179) C dX13_unpack_175 (by decide) ?_
            refine r_putz (pc' := 182) (k := 73) C fl_X13_269 (by decide) kc_73 (by decide) fr_13_57 (by decide) dX13_unpack_179 rfl ?_
            exact Wa.sub [0, 1, 2, 3, 4] rfl h
      · replace h := h.2 c16
        refine r_iconst (pc' := 147) C dX13_unpack_146 rfl ?_
        refine r_goto (tgt := 151) C dX13_unpack_147 (by decide) ?_
        refine r_istore (pc' := 153) (ls' := [(0, .ref (gl_b Y + 73)), (4, .ref (gl_b Y + a4)), (6, .int (i32 x6)), (8, .int (i32 1))]) C (by decide) rfl dX13_unpack_151 rfl ?_
        refine r_aload_n (pc' := 154) C 0 rfl rfl dX13_unpack_153 rfl ?_
        refine r_iconst (pc' := 155) C dX13_unpack_154 rfl ?_
        refine c_Vi (pc' := 158) (mt := mX13_readNumber) (as := [.int (i32 2)]) (st := []) (k := 73) C h rfl cl_X13_readNumber ml_X13_304 im_X13_readNumber sl_X13_readNumber (by omega) (Nat.le_refl _) (Nat.le_refl _) rfl (by decide) kc_73 (by decide) rfl rfl rfl (Nat.le_of_ble_eq_true rfl) dX13_unpack_155 rfl (fun r24 iv25 av26 f27 h => ?_)
        replace h := h f27
        refine r_istore (pc' := 160) (ls' := [(0, .ref (gl_b Y + 73)), (4, .ref (gl_b Y + a4)), (6, .int (i32 x6)), (8, .int (i32 1)), (9, .int (i32 r24))]) C (by decide) rfl dX13_unpack_158 rfl ?_
        refine r_aload_n (pc' := 161) C 0 rfl rfl dX13_unpack_160 rfl ?_
        refine r_aload_n (pc' := 162) C 0 rfl rfl dX13_unpack_161 rfl ?_
        refine r_geti (pc' := 165) (k := 73) C fl_X13_269 (by decide) kc_73 (by decide) fr_13_57 dX13_unpack_162 rfl (fun f28 => ?_)
        replace h := h f28
        refine r_if_ne (pc' := 168) (tgt := 174) C f28 dX13_unpack_165 (by decide) rfl (fun c29 => ?_) (fun c29 => ?_)
        · replace h := h.1 c29
          refine r_iconst (pc' := 175) C dX13_unpack_174 rfl ?_
          refine r_goto (tgt := 179) C dX13_unpack_175 (by decide) ?_
          refine r_putz (pc' := 182) (k := 73) C fl_X13_269 (by decide) kc_73 (by decide) fr_13_57 (by decide) dX13_unpack_179 rfl ?_
          exact Wa.sub [0, 1, 2, 3, 4] rfl h
        · replace h := h.2 c29
          refine r_iload (pc' := 170) C 4 rfl dX13_unpack_168 rfl ?_
          refine r_iconst (pc' := 171) C dX13_unpack_170 rfl ?_
          refine r_icmp_ne (pc' := 174) (tgt := 178) C f27 (by decide) dX13_unpack_171 (by decide) rfl (fun c30 => ?_) (fun c30 => ?_)
          · replace h := h.1 c30
            refine r_iconst (pc' := 179) C dX13_unpack_178 rfl ?_
            refine r_putz (pc' := 182) (k := 73) C fl_X13_269 (by decide) kc_73 (by decide) fr_13_57 (by decide) dX13_unpack_179 rfl ?_
            exact Wa.sub [0, 1, 2, 3, 4] rfl h
          · replace h := h.2 c30
            refine r_iconst (pc' := 175) C dX13_unpack_174 rfl ?_
            refine r_goto (tgt := 179) C dX13_unpack_175 (by decide) ?_
            refine r_putz (pc' := 182) (k := 73) C fl_X13_269 (by decide) kc_73 (by decide) fr_13_57 (by decide) dX13_unpack_179 rfl ?_
            exact Wa.sub [0, 1, 2, 3, 4] rfl h
set_option maxHeartbeats 4000000 in
set_option maxRecDepth 100000 in
theorem o_X13_unpack {Y : Gl} {e : Nat} {P : PN} {a1 : Nat} {a4 : Nat} {x2 : Int} {x3 : Int} {x5 : Int} {iv av : IVt} (Ka1 : ArrK 101 a1) (Ka4 : ArrK 101 a4) (hx2 : InR x2) (hx5 : InR x5) (h : ∀ X : Cx, CX Y X RX13 "unpack" cX13_unpack 12 (some .int) (e + 3) 0 0 →
    (InR (8 * x3)) ∧
    OkN Y (e + 2) mX13_readNumber [.ref (gl_b Y + 73), .int (i32 8)] RV (up2 (up2 (up2 (up2 (up2 (up2 (up2 (up2 iv 73 53 ((a1 + 1 : Nat) : Int)) 73 54 x2) 73 55 (8 * x3)) 73 56 0) 73 57 0) 73 58 ((a4 + 1 : Nat) : Int)) 73 59 0) 73 60 x5) av 116 (fun r2 iv3 av4 =>
      (InR r2) →
      OkN Y (e + 2) mX13_readNumber [.ref (gl_b Y + 73), .int (i32 8)] RV iv3 av4 116 (fun r6 iv7 av8 =>
        (InR r6) →
        ((InR (iv7 73 57)) →
          ((¬ (iv7 73 57) = 0) →
            L_X13_unpack_126 Y X P a1 a4 r2 0 (up2 iv7 73 57 1) av8
          ) ∧
          (((iv7 73 57) = 0) →
            (InR ((256 * r2) + r6)) ∧
            (0 ≤ ((256 * r2) + r6)) ∧
            ((¬ (((256 * r2) + r6) % 31) = 0) →
              L_X13_unpack_126 Y X P a1 a4 r2 0 (up2 iv7 73 57 1) av8
            ) ∧
            (((((256 * r2) + r6) % 31) = 0) →
              (0 ≤ r2) ∧
              ((¬ (r2 % 16) = 8) →
                L_X13_unpack_126 Y X P a1 a4 r2 0 (up2 iv7 73 57 1) av8
              ) ∧
              (((r2 % 16) = 8) →
                ((7 < (r2 / 16)) →
                  L_X13_unpack_126 Y X P a1 a4 r2 0 (up2 iv7 73 57 1) av8
                ) ∧
                ((¬ 7 < (r2 / 16)) →
                  (0 ≤ r6) ∧
                  (0 ≤ (r6 / 32)) ∧
                  ((¬ ((r6 / 32) % 2) = 1) →
                    L_X13_unpack_126 Y X P a1 a4 r2 0 (up2 iv7 73 57 0) av8
                  ) ∧
                  ((((r6 / 32) % 2) = 1) →
                    L_X13_unpack_126 Y X P a1 a4 r2 0 (up2 iv7 73 57 1) av8
                  )
                )
              )
            )
          )
        )
      )
    )) : OkN Y (e + 3) mX13_unpack [.ref (gl_b Y + 73), .ref (gl_b Y + a1), .int (i32 x2), .int (i32 x3), .ref (gl_b Y + a4), .int (i32 x5)] RV iv av 116 P := by
  obtain ⟨ha1c, ha1l⟩ := Ka1
  obtain ⟨ha4c, ha4l⟩ := Ka4
  refine OkW.of rfl (by show _ ≤ 12; exact Nat.le_of_ble_eq_true rfl) fun X C0 hR => ?_
  have C : CX Y X RX13 "unpack" cX13_unpack 12 (some .int) (e + 3) 0 0 := C0
  replace h := h X C
  show Wa Y X 12 (g_MQ Y X 1 (g_N RV 116 P) 0 0) 0 0 0 [(0, .ref (gl_b Y + 73)), (1, .ref (gl_b Y + a1)), (2, .int (i32 x2)), (3, .int (i32 x3)), (4, .ref (gl_b Y + a4)), (5, .int (i32 x5))] [] RV iv av 116
  refine r_aload_n (pc' := 1) C 0 rfl rfl dX13_unpack_0 rfl ?_
  refine r_aload_n (pc' := 2) C 1 rfl rfl dX13_unpack_1 rfl ?_
  refine r_putq (pc' := 5) (k := 73) (r := a1) C fl_X13_279 (by decide) kc_73 (by decide) fr_13_53 (by omega) (fun _ => ⟨rfl, rfl⟩) dX13_unpack_2 rfl ?_
  refine r_aload_n (pc' := 6) C 0 rfl rfl dX13_unpack_5 rfl ?_
  refine r_iload_n (pc' := 7) C 2 rfl rfl dX13_unpack_6 rfl ?_
  refine r_puti (pc' := 10) (k := 73) C fl_X13_282 (by decide) kc_73 (by decide) fr_13_54 hx2 dX13_unpack_7 rfl ?_
  refine r_aload_n (pc' := 11) C 0 rfl rfl dX13_unpack_10 rfl ?_
  refine r_bipush (pc' := 13) C dX13_unpack_11 (by decide) rfl ?_
  refine r_iload_n (pc' := 14) C 3 rfl rfl dX13_unpack_13 rfl ?_
  refine r_imul (pc' := 15) C dX13_unpack_14 rfl ?_
  have o1 := h.1
  replace h := h.2
  refine r_puti (pc' := 18) (k := 73) C fl_X13_276 (by decide) kc_73 (by decide) fr_13_55 o1 dX13_unpack_15 rfl ?_
  refine r_aload_n (pc' := 19) C 0 rfl rfl dX13_unpack_18 rfl ?_
  refine r_iconst (pc' := 20) C dX13_unpack_19 rfl ?_
  refine r_puti (pc' := 23) (k := 73) C fl_X13_273 (by decide) kc_73 (by decide) fr_13_56 (by decide) dX13_unpack_20 rfl ?_
  refine r_aload_n (pc' := 24) C 0 rfl rfl dX13_unpack_23 rfl ?_
  refine r_iconst (pc' := 25) C dX13_unpack_24 rfl ?_
  refine r_putz (pc' := 28) (k := 73) C fl_X13_269 (by decide) kc_73 (by decide) fr_13_57 (by decide) dX13_unpack_25 rfl ?_
  refine r_aload_n (pc' := 29) C 0 rfl rfl dX13_unpack_28 rfl ?_
  refine r_aload (pc' := 31) C 4 rfl dX13_unpack_29 rfl ?_
  refine r_putq (pc' := 34) (k := 73) (r := a4) C fl_X13_298 (by decide) kc_73 (by decide) fr_13_58 (by omega) (fun _ => ⟨rfl, rfl⟩) dX13_unpack_31 rfl ?_
  refine r_aload_n (pc' := 35) C 0 rfl rfl dX13_unpack_34 rfl ?_
  refine r_iconst (pc' := 36) C dX13_unpack_35 rfl ?_
  refine r_puti (pc' := 39) (k := 73) C fl_X13_292 (by decide) kc_73 (by decide) fr_13_59 (by decide) dX13_unpack_36 rfl ?_
  refine r_aload_n (pc' := 40) C 0 rfl rfl dX13_unpack_39 rfl ?_
  refine r_iload (pc' := 42) C 5 rfl dX13_unpack_40 rfl ?_
  refine r_puti (pc' := 45) (k := 73) C fl_X13_295 (by decide) kc_73 (by decide) fr_13_60 hx5 dX13_unpack_42 rfl ?_
  refine r_aload_n (pc' := 46) C 0 rfl rfl dX13_unpack_45 rfl ?_
  refine r_bipush (pc' := 48) C dX13_unpack_46 (by decide) rfl ?_
  refine c_Vi (pc' := 51) (mt := mX13_readNumber) (as := [.int (i32 8)]) (st := []) (k := 73) C h rfl cl_X13_readNumber ml_X13_304 im_X13_readNumber sl_X13_readNumber (by omega) (Nat.le_refl _) (Nat.le_refl _) rfl (by decide) kc_73 (by decide) rfl rfl rfl (Nat.le_of_ble_eq_true rfl) dX13_unpack_48 rfl (fun r2 iv3 av4 f5 h => ?_)
  replace h := h f5
  refine r_istore (pc' := 53) (ls' := [(0, .ref (gl_b Y + 73)), (1, .ref (gl_b Y + a1)), (2, .int (i32 x2)), (3, .int (i32 x3)), (4, .ref (gl_b Y + a4)), (5, .int (i32 x5)), (6, .int (i32 r2))]) C (by decide) rfl dX13_unpack_51 rfl ?_
  refine r_aload_n (pc' := 54) C 0 rfl rfl dX13_unpack_53 rfl ?_
  refine r_bipush (pc' := 56) C dX13_unpack_54 (by decide) rfl ?_
  refine c_Vi (pc' := 59) (mt := mX13_readNumber) (as := [.int (i32 8)]) (st := []) (k := 73) C h rfl cl_X13_readNumber ml_X13_304 im_X13_readNumber sl_X13_readNumber (by omega) (Nat.le_refl _) (Nat.le_refl _) rfl (by decide) kc_73 (by decide) rfl rfl rfl (Nat.le_of_ble_eq_true rfl) dX13_unpack_56 rfl (fun r6 iv7 av8 f9 h => ?_)
  replace h := h f9
  refine r_istore (pc' := 61) (ls' := [(0, .ref (gl_b Y + 73)), (1, .ref (gl_b Y + a1)), (2, .int (i32 x2)), (3, .int (i32 x3)), (4, .ref (gl_b Y + a4)), (5, .int (i32 x5)), (6, .int (i32 r2)), (7, .int (i32 r6))]) C (by decide) rfl dX13_unpack_59 rfl ?_
  refine r_aload_n (pc' := 62) C 0 rfl rfl dX13_unpack_61 rfl ?_
  refine r_aload_n (pc' := 63) C 0 rfl rfl dX13_unpack_62 rfl ?_
  refine r_geti (pc' := 66) (k := 73) C fl_X13_269 (by decide) kc_73 (by decide) fr_13_57 dX13_unpack_63 rfl (fun f10 => ?_)
  replace h := h f10
  refine r_if_ne (pc' := 69) (tgt := 115) C f10 dX13_unpack_66 (by decide) rfl (fun c11 => ?_) (fun c11 => ?_)
  · replace h := h.1 c11
    refine r_iconst (pc' := 116) C dX13_unpack_115 rfl ?_
    refine r_goto (tgt := 120) C dX13_unpack_116 (by decide) ?_
    refine r_putz (pc' := 123) (k := 73) C fl_X13_269 (by decide) kc_73 (by decide) fr_13_57 (by decide) dX13_unpack_120 rfl ?_
    refine r_iconst (pc' := 124) C dX13_unpack_123 rfl ?_
    refine r_istore (pc' := 126) (ls' := [(0, .ref (gl_b Y + 73)), (1, .ref (gl_b Y + a1)), (2, .int (i32 x2)), (3, .int (i32 x3)), (4, .ref (gl_b Y + a4)), (5, .int (i32 x5)), (6, .int (i32 r2)), (7, .int (i32 r6)), (8, .int (i32 0))]) C (by decide) rfl dX13_unpack_124 rfl ?_
    exact Wa.sub [0, 4, 6, 8] rfl h
  · replace h := h.2 c11
    refine r_sipush (pc' := 72) C dX13_unpack_69 (by decide) rfl ?_
    refine r_iload (pc' := 74) C 6 rfl dX13_unpack_72 rfl ?_
    refine r_imul (pc' := 75) C dX13_unpack_74 rfl ?_
    refine r_iload (pc' := 77) C 7 rfl dX13_unpack_75 rfl ?_
    refine r_iadd (pc' := 78) C dX13_unpack_77 rfl ?_
    refine r_bipush (pc' := 80) C dX13_unpack_78 (by decide) rfl ?_
    have o12 := h.1
    replace h := h.2
    have o13 := h.1
    replace h := h.2
    refine r_irem (pc' := 81) C ⟨o13, o12⟩ ⟨(by decide), (by decide)⟩ dX13_unpack_80 rfl ?_
    refine r_if_ne (pc' := 84) (tgt := 115) C (by omega) dX13_unpack_81 (by decide) rfl (fun c14 => ?_) (fun c14 => ?_)
    · replace h := h.1 c14
      refine r_iconst (pc' := 116) C dX13_unpack_115 rfl ?_
      refine r_goto (tgt := 120) C dX13_unpack_116 (by decide) ?_
      refine r_putz (pc' := 123) (k := 73) C fl_X13_269 (by decide) kc_73 (by decide) fr_13_57 (by decide) dX13_unpack_120 rfl ?_
      refine r_iconst (pc' := 124) C dX13_unpack_123 rfl ?_
      refine r_istore (pc' := 126) (ls' := [(0, .ref (gl_b Y + 73)), (1, .ref (gl_b Y + a1)), (2, .int (i32 x2)), (3, .int (i32 x3)), (4, .ref (gl_b Y + a4)), (5, .int (i32 x5)), (6, .int (i32 r2)), (7, .int (i32 r6)), (8, .int (i32 0))]) C (by decide) rfl dX13_unpack_124 rfl ?_
      exact Wa.sub [0, 4, 6, 8] rfl h
    · replace h := h.2 c14
      refine r_iload (pc' := 86) C 6 rfl dX13_unpack_84 rfl ?_
      refine r_bipush (pc' := 88) C dX13_unpack_86 (by decide) rfl ?_
      have o15 := h.1
      replace h := h.2
      refine r_irem (pc' := 89) C ⟨o15, f5⟩ ⟨(by decide), (by decide)⟩ dX13_unpack_88 rfl ?_
      refine r_bipush (pc' := 91) C dX13_unpack_89 (by decide) rfl ?_
      refine r_icmp_ne (pc' := 94) (tgt := 115) C (by omega) (by decide) dX13_unpack_91 (by decide) rfl (fun c16 => ?_) (fun c16 => ?_)
      · replace h := h.1 c16
        refine r_iconst (pc' := 116) C dX13_unpack_115 rfl ?_
        refine r_goto (tgt := 120) C dX13_unpack_116 (by decide) ?_
        refine r_putz (pc' := 123) (k := 73) C fl_X13_269 (by decide) kc_73 (by decide) fr_13_57 (by decide) dX13_unpack_120 rfl ?_
        refine r_iconst (pc' := 124) C dX13_unpack_123 rfl ?_
        refine r_istore (pc' := 126) (ls' := [(0, .ref (gl_b Y + 73)), (1, .ref (gl_b Y + a1)), (2, .int (i32 x2)), (3, .int (i32 x3)), (4, .ref (gl_b Y + a4)), (5, .int (i32 x5)), (6, .int (i32 r2)), (7, .int (i32 r6)), (8, .int (i32 0))]) C (by decide) rfl dX13_unpack_124 rfl ?_
        exact Wa.sub [0, 4, 6, 8] rfl h
      · replace h := h.2 c16
        refine r_iload (pc' := 96) C 6 rfl dX13_unpack_94 rfl ?_
        refine r_bipush (pc' := 98) C dX13_unpack_96 (by decide) rfl ?_
        refine r_idiv (pc' := 99) C ⟨o15, f5⟩ ⟨(by decide), (by decide)⟩ dX13_unpack_98 rfl ?_
        refine r_bipush (pc' := 101) C dX13_unpack_99 (by decide) rfl ?_
        refine r_icmp_gt (pc' := 104) (tgt := 115) C (by omega) (by decide) dX13_unpack_101 (by decide) rfl (fun c17 => ?_) (fun c17 => ?_)
        · replace h := h.1 c17
          refine r_iconst (pc' := 116) C dX13_unpack_115 rfl ?_
          refine r_goto (tgt := 120) C dX13_unpack_116 (by decide) ?_
          refine r_putz (pc' := 123) (k := 73) C fl_X13_269 (by decide) kc_73 (by decide) fr_13_57 (by decide) dX13_unpack_120 rfl ?_
          refine r_iconst (pc' := 124) C dX13_unpack_123 rfl ?_
          refine r_istore (pc' := 126) (ls' := [(0, .ref (gl_b Y + 73)), (1, .ref (gl_b Y + a1)), (2, .int (i32 x2)), (3, .int (i32 x3)), (4, .ref (gl_b Y + a4)), (5, .int (i32 x5)), (6, .int (i32 r2)), (7, .int (i32 r6)), (8, .int (i32 0))]) C (by decide) rfl dX13_unpack_124 rfl ?_
          exact Wa.sub [0, 4, 6, 8] rfl h
        · replace h := h.2 c17
          refine r_iload (pc' := 106) C 7 rfl dX13_unpack_104 rfl ?_
          refine r_bipush (pc' := 108) C dX13_unpack_106 (by decide) rfl ?_
          have o18 := h.1
          replace h := h.2
          refine r_idiv (pc' := 109) C ⟨o18, f9⟩ ⟨(by decide), (by decide)⟩ dX13_unpack_108 rfl ?_
          refine r_iconst (pc' := 110) C dX13_unpack_109 rfl ?_
          have o19 := h.1
          replace h := h.2
          refine r_irem (pc' := 111) C ⟨o19, (by omega)⟩ ⟨(by decide), (by decide)⟩ dX13_unpack_110 rfl ?_
          refine r_iconst (pc' := 112) C dX13_unpack_111 rfl ?_
          refine r_icmp_ne (pc' := 115) (tgt := 119) C (by omega) (by decide) dX13_unpack_112 (by decide) rfl (fun c20 => ?_) (fun c20 => ?_)
          · replace h := h.1 c20
            refine r_iconst (pc' := 120) C dX13_unpack_119 rfl ?_
            refine r_putz (pc' := 123) (k := 73) C fl_X13_269 (by decide) kc_73 (by decide) fr_13_57 (by decide) dX13_unpack_120 rfl ?_
            refine r_iconst (pc' := 124) C dX13_unpack_123 rfl ?_
            refine r_istore (pc' := 126) (ls' := [(0, .ref (gl_b Y + 73)), (1, .ref (gl_b Y + a1)), (2, .int (i32 x2)), (3, .int (i32 x3)), (4, .ref (gl_b Y + a4)), (5, .int (i32 x5)), (6, .int (i32 r2)), (7, .int (i32 r6)), (8, .int (i32 0))]) C (by decide) rfl dX13_unpack_124 rfl ?_
            exact Wa.sub [0, 4, 6, 8] rfl h
          · replace h := h.2 c20
            refine r_iconst (pc' := 116) C dX13_unpack_115 rfl ?_
            refine r_goto (tgt := 120) C dX13_unpack_116 (by decide) ?_
            refine r_putz (pc' := 123) (k := 73) C fl_X13_269 (by decide) kc_73 (by decide) fr_13_57 (by decide) dX13_unpack_120 rfl ?_
            refine r_iconst (pc' := 124) C dX13_unpack_123 rfl ?_
            refine r_istore (pc' := 126) (ls' := [(0, .ref (gl_b Y + 73)), (1, .ref (gl_b Y + a1)), (2, .int (i32 x2)), (3, .int (i32 x3)), (4, .ref (gl_b Y + a4)), (5, .int (i32 x5)), (6, .int (i32 r2)), (7, .int (i32 r6)), (8, .int (i32 0))]) C (by decide) rfl dX13_unpack_124 rfl ?_
            exact Wa.sub [0, 4, 6, 8] rfl h
set_option maxHeartbeats 4000000 in
set_option maxRecDepth 100000 in
theorem o_X13_add {Y : Gl} {e : Nat} {P : PN} {x1 : Int} {iv av : IVt} (h : 
    ((InR (iv 73 23)) →
      (0 ≤ (iv 73 23) ∧ (iv 73 23) < 131072) ∧
      (InR ((iv 73 23) + 1)) ∧
      P 0 (up2 iv 73 23 ((iv 73 23) + 1)) (up2 av 89 ((iv 73 23).toNat) (bm8 (bm8 x1)))
    )) : OkN Y e mX13_add [.ref (gl_b Y + 73), .int (i32 x1)] RV iv av 116 P := by
  refine OkW.of rfl (by show _ ≤ 2; exact Nat.le_of_ble_eq_true rfl) fun X C0 hR => ?_
  have C : CX Y X RX13 "add" cX13_add 2 none e 0 0 := C0
  show Wa Y X 2 (g_MQ Y X 0 (g_N RV 116 P) 0 0) 0 0 0 [(0, .ref (gl_b Y + 73)), (1, .int (i32 x1))] [] RV iv av 116
  refine r_aload_n (pc' := 1) C 0 rfl rfl dX13_add_0 rfl ?_
  refine r_getr (pc' := 4) (k := 73) (r := 89) C fl_X13_62 (by decide) kc_73 (by decide) fr_13_24 RV_73_24 dX13_add_1 rfl ?_
  refine r_aload_n (pc' := 5) C 0 rfl rfl dX13_add_4 rfl ?_
  refine r_geti (pc' := 8) (k := 73) C fl_X13_329 (by decide) kc_73 (by decide) fr_13_23 dX13_add_5 rfl (fun f1 => ?_)
  replace h := h f1
  refine r_iload_n (pc' := 9) C 1 rfl rfl dX13_add_8 rfl ?_
  refine r_i2b (pc' := 10) C dX13_add_9 rfl ?_
  have o2 := h.1
  replace h := h.2
  refine r_bast (pc' := 11) (k := 89) C (by decide) kc_89 (by have := kl_89; omega) dX13_add_10 rfl ?_
  refine r_aload_n (pc' := 12) C 0 rfl rfl dX13_add_11 rfl ?_
  refine r_dup (pc' := 13) C rfl dX13_add_12 rfl ?_
  refine r_geti (pc' := 16) (k := 73) C fl_X13_329 (by decide) kc_73 (by decide) fr_13_23 dX13_add_13 rfl (fun f3 => ?_)
  refine r_iconst (pc' := 17) C dX13_add_16 rfl ?_
  refine r_iadd (pc' := 18) C dX13_add_17 rfl ?_
  have o4 := h.1
  replace h := h.2
  refine r_puti (pc' := 21) (k := 73) C fl_X13_329 (by decide) kc_73 (by decide) fr_13_23 o4 dX13_add_18 rfl ?_
  exact r_vret C ⟨rfl, rfl, h⟩ dX13_add_21
def L_X13_store_23 (Y : Gl) (X : Cx) (P : PN) (a1 : Nat) (x2 : Int) (x3 : Int) (x4 : Int) (x5 : Int) (iv av : IVt) : Prop := Wa Y X 6 (g_MQ Y X 1 (g_N RV 116 P) 0 0) 0 0 23 [(0, .ref (gl_b Y + 73)), (1, .ref (gl_b Y + a1)), (2, .int (i32 x2)), (3, .int (i32 x3)), (4, .int (i32 x4)), (5, .int (i32 x5))] [] RV iv av 116
set_option maxHeartbeats 4000000 in
set_option maxRecDepth 100000 in
theorem w_X13_store_23 {Y : Gl} {X : Cx} {e : Nat} {P : PN} {a1 : Nat} {x2 : Int} {x3 : Int} {x4 : Int} {x5 : Int} {iv av : IVt} (C : CX Y X RX13 "store" cX13_store 6 (some .int) (e + 20) 0 0) (Ka1 : ArrK 101 a1) (hx3 : InR x3) (hx4 : InR x4) (hx5 : InR x5) (h :
    ((x3 ≤ x4) →
      ((x3 ≤ x5) →
        ((x3 ≤ x4) →
          P (g_or x3 16777216) iv av
        ) ∧
        ((¬ x3 ≤ x4) →
          P x4 iv av
        )
      ) ∧
      ((¬ x3 ≤ x5) →
        ((x3 ≤ x4) →
          (0 ≤ (x2 + x5) ∧ (x2 + x5) < (kl a1 : Int)) ∧
          ((-128 ≤ (av a1 (x2 + x5).toNat) ∧ (av a1 (x2 + x5).toNat) ≤ 127) →
            OkN Y (e + 19) mX13_add [.ref (gl_b Y + 73), .int (i32 (av a1 (x2 + x5).toNat))] RV iv av 116 (fun r7 iv8 av9 =>
              L_X13_store_23 Y X P a1 x2 x3 x4 (x5 + 1) iv8 av9
            )
          )
        ) ∧
        ((¬ x3 ≤ x4) →
          (0 ≤ x5 ∧ x5 < 66000) ∧
          ((-128 ≤ (av 93 x5.toNat) ∧ (av 93 x5.toNat) ≤ 127) →
            OkN Y (e + 19) mX13_add [.ref (gl_b Y + 73), .int (i32 (av 93 x5.toNat))] RV iv av 116 (fun r13 iv14 av15 =>
              L_X13_store_23 Y X P a1 x2 x3 x4 (x5 + 1) iv14 av15
            )
          )
        )
      )
    ) ∧
    ((¬ x3 ≤ x4) →
      ((x4 ≤ x5) →
        ((x3 ≤ x4) →
          P (g_or x3 16777216) iv av
        ) ∧
        ((¬ x3 ≤ x4) →
          P x4 iv av
        )
      ) ∧
      ((¬ x4 ≤ x5) →
        ((x3 ≤ x4) →
          (0 ≤ (x2 + x5) ∧ (x2 + x5) < (kl a1 : Int)) ∧
          ((-128 ≤ (av a1 (x2 + x5).toNat) ∧ (av a1 (x2 + x5).toNat) ≤ 127) →
            OkN Y (e + 19) mX13_add [.ref (gl_b Y + 73), .int (i32 (av a1 (x2 + x5).toNat))] RV iv av 116 (fun r22 iv23 av24 =>
              L_X13_store_23 Y X P a1 x2 x3 x4 (x5 + 1) iv23 av24
            )
          )
        ) ∧
        ((¬ x3 ≤ x4) →
          (0 ≤ x5 ∧ x5 < 66000) ∧
          ((-128 ≤ (av 93 x5.toNat) ∧ (av 93 x5.toNat) ≤ 127) →
            OkN Y (e + 19) mX13_add [.ref (gl_b Y + 73), .int (i32 (av 93 x5.toNat))] RV iv av 116 (fun r28 iv29 av30 =>
              L_X13_store_23 Y X P a1 x2 x3 x4 (x5 + 1) iv29 av30
            )
          )
        )
      )
    )) : L_X13_store_23 Y X P a1 x2 x3 x4 x5 iv av := by
  obtain ⟨ha1c, ha1l⟩ := Ka1
  unfold L_X13_store_23
  refine r_iload (pc' := 25) C 5 rfl dX13_store_23 rfl ?_
  refine r_iload (pc' := 27) C 4 rfl dX13_store_25 rfl ?_
  refine r_iload_n (pc' := 28) C 3 rfl rfl dX13_store_27 rfl ?_
  refine r_icmp_ge (pc' := 31) (tgt := 36) C hx4 hx3 dX13_store_28 (by decide) rfl (fun c1 => ?_) (fun c1 => ?_)
  · replace h := h.1 c1
    refine r_iload_n (pc' := 37) C 3 rfl rfl dX13_store_36 rfl ?_
    refine r_icmp_ge (pc' := 40) (tgt := 72) C hx5 hx3 dX13_store_37 (by decide) rfl (fun c2 => ?_) (fun c2 => ?_)
    · replace h := h.1 c2
      refine r_iload (pc' := 74) C 4 rfl dX13_store_72 rfl ?_
      refine r_iload_n (pc' := 75) C 3 rfl rfl dX13_store_74 rfl ?_
      refine r_icmp_ge (pc' := 78) (tgt := 83) C hx4 hx3 dX13_store_75 (by decide) rfl (fun c3 => ?_) (fun c3 => ?_)
      · replace h := h.1 c3
        refine r_iload_n (pc' := 84) C 3 rfl rfl dX13_store_83 rfl ?_
        refine r_ldcw (pc' := 87) (x := 16777216) C ct_X13_342 (by decide) dX13_store_84 rfl ?_
        refine r_ior (pc' := 88) C dX13_store_87 rfl ?_
        exact r_iret C (g_or_in _ _) ⟨rfl, rfl, h⟩ dX13_store_88
      · replace h := h.2 c3
        refine r_iload (pc' := 80) C 4 rfl dX13_store_78 rfl ?_
        refine r_goto (tgt := 88) C dX13_store_80 (by decide) ?_
        exact r_iret C hx4 ⟨rfl, rfl, h⟩ dX13_store_88
    · replace h := h.2 c2
      refine r_aload_n (pc' := 41) C 0 rfl rfl dX13_store_40 rfl ?_
      refine r_iload (pc' := 43) C 4 rfl dX13_store_41 rfl ?_
      refine r_iload_n (pc' := 44) C 3 rfl rfl dX13_store_43 rfl ?_
      refine r_icmp_ge (pc' := 47) (tgt := 57) C hx4 hx3 dX13_store_44 (by decide) rfl (fun c4 => ?_) (fun c4 => ?_)
      · replace h := h.1 c4
        refine r_aload_n (pc' := 58) C 1 rfl rfl dX13_store_57 rfl ?_
        refine r_iload_n (pc' := 59) C 2 rfl rfl dX13_store_58 rfl ?_
        refine r_iload (pc' := 61) C 5 rfl dX13_store_59 rfl ?_
        refine r_iadd (pc' := 62) C dX13_store_61 rfl ?_
        have o5 := h.1
        replace h := h.2
        refine r_bald (pc' := 63) (k := a1) C (by omega) ha1c o5 dX13_store_62 rfl (fun f6 => ?_)
        replace h := h f6
        refine c_Vv (pc' := 66) (mt := mX13_add) (as := [.int (i32 (av a1 (x2 + x5).toNat))]) (st := []) (k := 73) C h rfl cl_X13_add ml_X13_339 im_X13_add sl_X13_add (by omega) (Nat.le_refl _) (Nat.le_refl _) rfl (by decide) kc_73 (by decide) rfl rfl rfl (Nat.le_of_ble_eq_true rfl) dX13_store_63 rfl (fun r7 iv8 av9 h => ?_)
        refine r_iinc (pc' := 69) (ls' := [(0, .ref (gl_b Y + 73)), (1, .ref (gl_b Y + a1)), (2, .int (i32 x2)), (3, .int (i32 x3)), (4, .int (i32 x4)), (5, .int (i32 (x5 + 1)))]) C 5 rfl (by decide) rfl dX13_store_66 rfl ?_
        refine r_goto (tgt := 23) C dX13_store_69 (by decide) ?_
        exact Wa.sub [0, 1, 2, 3, 4, 5] rfl h
      · replace h := h.2 c4
        refine r_aload_n (pc' := 48) C 0 rfl rfl dX13_store_47 rfl ?_
        refine r_getr (pc' := 51) (k := 73) (r := 93) C fl_X13_75 (by decide) kc_73 (by decide) fr_13_30 RV_73_30 dX13_store_48 rfl ?_
        refine r_iload (pc' := 53) C 5 rfl dX13_store_51 rfl ?_
        have o11 := h.1
        replace h := h.2
        refine r_bald (pc' := 54) (k := 93) C (by decide) kc_93 (by have := kl_93; omega) dX13_store_53 rfl (fun f12 => ?_)
        replace h := h f12
        refine r_goto (tgt := 63) C dX13_store_54 (by decide) ?_
        refine c_Vv (pc' := 66) (mt := mX13_add) (as := [.int (i32 (av 93 x5.toNat))]) (st := []) (k := 73) C h rfl cl_X13_add ml_X13_339 im_X13_add sl_X13_add (by omega) (Nat.le_refl _) (Nat.le_refl _) rfl (by decide) kc_73 (by decide) rfl rfl rfl (Nat.le_of_ble_eq_true rfl) dX13_store_63 rfl (fun r13 iv14 av15 h => ?_)
        refine r_iinc (pc' := 69) (ls' := [(0, .ref (gl_b Y + 73)), (1, .ref (gl_b Y + a1)), (2, .int (i32 x2)), (3, .int (i32 x3)), (4, .int (i32 x4)), (5, .int (i32 (x5 + 1)))]) C 5 rfl (by decide) rfl dX13_store_66 rfl ?_
        refine r_goto (tgt := 23) C dX13_store_69 (by decide) ?_
        exact Wa.sub [0, 1, 2, 3, 4, 5] rfl h
  · replace h := h.2 c1
    refine r_iload (pc' := 33) C 4 rfl dX13_store_31 rfl ?_
    refine r_goto (tgt := 37) C dX13_store_33 (by decide) ?_
    refine r_icmp_ge (pc' := 40) (tgt := 72) C hx5 hx4 dX13_store_37 (by decide) rfl (fun c17 => ?_) (fun c17 => ?_)
    · replace h := h.1 c17
      refine r_iload (pc' := 74) C 4 rfl dX13_store_72 rfl ?_
      refine r_iload_n (pc' := 75) C 3 rfl rfl dX13_store_74 rfl ?_
      refine r_icmp_ge (pc' := 78) (tgt := 83) C hx4 hx3 dX13_store_75 (by decide) rfl (fun c18 => ?_) (fun c18 => ?_)
      · replace h := h.1 c18
        refine r_iload_n (pc' := 84) C 3 rfl rfl dX13_store_83 rfl ?_
        refine r_ldcw (pc' := 87) (x := 16777216) C ct_X13_342 (by decide) dX13_store_84 rfl ?_
        refine r_ior (pc' := 88) C dX13_store_87 rfl ?_
        exact r_iret C (g_or_in _ _) ⟨rfl, rfl, h⟩ dX13_store_88
      · replace h := h.2 c18
        refine r_iload (pc' := 80) C 4 rfl dX13_store_78 rfl ?_
        refine r_goto (tgt := 88) C dX13_store_80 (by decide) ?_
        exact r_iret C hx4 ⟨rfl, rfl, h⟩ dX13_store_88
    · replace h := h.2 c17
      refine r_aload_n (pc' := 41) C 0 rfl rfl dX13_store_40 rfl ?_
      refine r_iload (pc' := 43) C 4 rfl dX13_store_41 rfl ?_
      refine r_iload_n (pc' := 44) C 3 rfl rfl dX13_store_43 rfl ?_
      refine r_icmp_ge (pc' := 47) (tgt := 57) C hx4 hx3 dX13_store_44 (by decide) rfl (fun c19 => ?_) (fun c19 => ?_)
      · replace h := h.1 c19
        refine r_aload_n (pc' := 58) C 1 rfl rfl dX13_store_57 rfl ?_
        refine r_iload_n (pc' := 59) C 2 rfl rfl dX13_store_58 rfl ?_
        refine r_iload (pc' := 61) C 5 rfl dX13_store_59 rfl ?_
        refine r_iadd (pc' := 62) C dX13_store_61 rfl ?_
        have o20 := h.1
        replace h := h.2
        refine r_bald (pc' := 63) (k := a1) C (by omega) ha1c o20 dX13_store_62 rfl (fun f21 => ?_)
        replace h := h f21
        refine c_Vv (pc' := 66) (mt := mX13_add) (as := [.int (i32 (av a1 (x2 + x5).toNat))]) (st := []) (k := 73) C h rfl cl_X13_add ml_X13_339 im_X13_add sl_X13_add (by omega) (Nat.le_refl _) (Nat.le_refl _) rfl (by decide) kc_73 (by decide) rfl rfl rfl (Nat.le_of_ble_eq_true rfl) dX13_store_63 rfl (fun r22 iv23 av24 h => ?_)
        refine r_iinc (pc' := 69) (ls' := [(0, .ref (gl_b Y + 73)), (1, .ref (gl_b Y + a1)), (2, .int (i32 x2)), (3, .int (i32 x3)), (4, .int (i32 x4)), (5, .int (i32 (x5 + 1)))]) C 5 rfl (by decide) rfl dX13_store_66 rfl ?_
        refine r_goto (tgt := 23) C dX13_store_69 (by decide) ?_
        exact Wa.sub [0, 1, 2, 3, 4, 5] rfl h
      · replace h := h.2 c19
        refine r_aload_n (pc' := 48) C 0 rfl rfl dX13_store_47 rfl ?_
        refine r_getr (pc' := 51) (k := 73) (r := 93) C fl_X13_75 (by decide) kc_73 (by decide) fr_13_30 RV_73_30 dX13_store_48 rfl ?_
        refine r_iload (pc' := 53) C 5 rfl dX13_store_51 rfl ?_
        have o26 := h.1
        replace h := h.2
        refine r_bald (pc' := 54) (k := 93) C (by decide) kc_93 (by have := kl_93; omega) dX13_store_53 rfl (fun f27 => ?_)
        replace h := h f27
        refine r_goto (tgt := 63) C dX13_store_54 (by decide) ?_
        refine c_Vv (pc' := 66) (mt := mX13_add) (as := [.int (i32 (av 93 x5.toNat))]) (st := []) (k := 73) C h rfl cl_X13_add ml_X13_339 im_X13_add sl_X13_add (by omega) (Nat.le_refl _) (Nat.le_refl _) rfl (by decide) kc_73 (by decide) rfl rfl rfl (Nat.le_of_ble_eq_true rfl) dX13_store_63 rfl (fun r28 iv29 av30 h => ?_)
        refine r_iinc (pc' := 69) (ls' := [(0, .ref (gl_b Y + 73)), (1, .ref (gl_b Y + a1)), (2, .int (i32 x2)), (3, .int (i32 x3)), (4, .int (i32 x4)), (5, .int (i32 (x5 + 1)))]) C 5 rfl (by decide) rfl dX13_store_66 rfl ?_
        refine r_goto (tgt := 23) C dX13_store_69 (by decide) ?_
        exact Wa.sub [0, 1, 2, 3, 4, 5] rfl h
set_option maxHeartbeats 4000000 in
set_option maxRecDepth 100000 in
theorem o_X13_store {Y : Gl} {e : Nat} {P : PN} {a1 : Nat} {x2 : Int} {x3 : Int} {iv av : IVt} (Ka1 : ArrK 101 a1) (hx2 : InR x2) (hx3 : InR x3) (h : ∀ X : Cx, CX Y X RX13 "store" cX13_store 6 (some .int) (e + 20) 0 0 →
    ((InR (iv 73 7)) →
      (((iv 73 7) = 0) →
        L_X13_store_23 Y X P a1 x2 x3 x3 0 iv av
      ) ∧
      ((¬ (iv 73 7) = 0) →
        OkN Y (e + 19) mX13_pack [.ref (gl_b Y + 73), .ref (gl_b Y + a1), .int (i32 x2), .int (i32 x3)] RV iv av 116 (fun r3 iv4 av5 =>
          (InR r3) →
          L_X13_store_23 Y X P a1 x2 x3 r3 0 iv4 av5
        )
      )
    )) : OkN Y (e + 20) mX13_store [.ref (gl_b Y + 73), .ref (gl_b Y + a1), .int (i32 x2), .int (i32 x3)] RV iv av 116 P := by
  obtain ⟨ha1c, ha1l⟩ := Ka1
  refine OkW.of rfl (by show _ ≤ 6; exact Nat.le_of_ble_eq_true rfl) fun X C0 hR => ?_
  have C : CX Y X RX13 "store" cX13_store 6 (some .int) (e + 20) 0 0 := C0
  replace h := h X C
  show Wa Y X 6 (g_MQ Y X 1 (g_N RV 116 P) 0 0) 0 0 0 [(0, .ref (gl_b Y + 73)), (1, .ref (gl_b Y + a1)), (2, .int (i32 x2)), (3, .int (i32 x3))] [] RV iv av 116
  refine r_aload_n (pc' := 1) C 0 rfl rfl dX13_store_0 rfl ?_
  refine r_geti (pc' := 4) (k := 73) C fl_X13_332 (by decide) kc_73 (by decide) fr_13_7 dX13_store_1 rfl (fun f1 => ?_)
  replace h := h f1
  refine r_if_eq (pc' := 7) (tgt := 17) C f1 dX13_store_4 (by decide) rfl (fun c2 => ?_) (fun c2 => ?_)
  · replace h := h.1 c2
    refine r_iload_n (pc' := 18) C 3 rfl rfl dX13_store_17 rfl ?_
    refine r_istore (pc' := 20) (ls' := [(0, .ref (gl_b Y + 73)), (1, .ref (gl_b Y + a1)), (2, .int (i32 x2)), (3, .int (i32 x3)), (4, .int (i32 x3))]) C (by decide) rfl dX13_store_18 rfl ?_
    refine r_iconst (pc' := 21) C dX13_store_20 rfl ?_
    refine r_istore (pc' := 23) (ls' := [(0, .ref (gl_b Y + 73)), (1, .ref (gl_b Y + a1)), (2, .int (i32 x2)), (3, .int (i32 x3)), (4, .int (i32 x3)), (5, .int (i32 0))]) C (by decide) rfl dX13_store_21 rfl ?_
    exact Wa.sub [0, 1, 2, 3, 4, 5] rfl h
  · replace h := h.2 c2
    refine r_aload_n (pc' := 8) C 0 rfl rfl dX13_store_7 rfl ?_
    refine r_aload_n (pc' := 9) C 1 rfl rfl dX13_store_8 rfl ?_
    refine r_iload_n (pc' := 10) C 2 rfl rfl dX13_store_9 rfl ?_
    refine r_iload_n (pc' := 11) C 3 rfl rfl dX13_store_10 rfl ?_
    refine c_Vi (pc' := 14) (mt := mX13_pack) (as := [.ref (gl_b Y + a1), .int (i32 x2), .int (i32 x3)]) (st := []) (k := 73) C h rfl cl_X13_pack ml_X13_335 im_X13_pack sl_X13_pack (by omega) (Nat.le_refl _) (Nat.le_refl _) rfl (by decide) kc_73 (by decide) rfl rfl rfl (Nat.le_of_ble_eq_true rfl) dX13_store_11 rfl (fun r3 iv4 av5 f6 h => ?_)
    replace h := h f6
    refine r_goto (tgt := 18) C dX13_store_14 (by decide) ?_
    refine r_istore (pc' := 20) (ls' := [(0, .ref (gl_b Y + 73)), (1, .ref (gl_b Y + a1)), (2, .int (i32 x2)), (3, .int (i32 x3)), (4, .int (i32 r3))]) C (by decide) rfl dX13_store_18 rfl ?_
    refine r_iconst (pc' := 21) C dX13_store_20 rfl ?_
    refine r_istore (pc' := 23) (ls' := [(0, .ref (gl_b Y + 73)), (1, .ref (gl_b Y + a1)), (2, .int (i32 x2)), (3, .int (i32 x3)), (4, .int (i32 r3)), (5, .int (i32 0))]) C (by decide) rfl dX13_store_21 rfl ?_
    exact Wa.sub [0, 1, 2, 3, 4, 5] rfl h
set_option maxHeartbeats 4000000 in
set_option maxRecDepth 100000 in
theorem o_X13_closeFragment {Y : Gl} {e : Nat} {P : PN} {iv av : IVt} (h : 
    ((InR (iv 73 22)) →
      (((iv 73 22) ≤ 0) →
        P 0 iv av
      ) ∧
      ((¬ (iv 73 22) ≤ 0) →
        ((InR (iv 73 18)) →
          ((InR (iv 73 23)) →
            (0 ≤ (iv 73 18) ∧ (iv 73 18) < 64) ∧
            OkN Y (e + 20) mX13_store [.ref (gl_b Y + 73), .ref (gl_b Y + 88), .int (i32 0), .int (i32 (iv 73 22))] RV iv (up2 av 86 ((iv 73 18).toNat) (iv 73 23)) 116 (fun r8 iv9 av10 =>
              (InR r8) →
              ((InR (iv9 73 18)) →
                (InR ((iv9 73 18) + 1)) ∧
                P 0 (up2 (up2 iv9 73 18 ((iv9 73 18) + 1)) 73 22 0) (up2 av10 87 ((iv 73 18).toNat) r8)
              )
            )
          )
        )
      )
    )) : OkN Y (e + 21) mX13_closeFragment [.ref (gl_b Y + 73)] RV iv av 116 P := by
  refine OkW.of rfl (by show _ ≤ 1; exact Nat.le_of_ble_eq_true rfl) fun X C0 hR => ?_
  have C : CX Y X RX13 "closeFragment" cX13_closeFragment 1 none (e + 21) 0 0 := C0
  show Wa Y X 1 (g_MQ Y X 0 (g_N RV 116 P) 0 0) 0 0 0 [(0, .ref (gl_b Y + 73))] [] RV iv av 116
  refine r_aload_n (pc' := 1) C 0 rfl rfl dX13_closeFragment_0 rfl ?_
  refine r_geti (pc' := 4) (k := 73) C fl_X13_343 (by decide) kc_73 (by decide) fr_13_22 dX13_closeFragment_1 rfl (fun f1 => ?_)
  replace h := h f1
  refine r_if_le (pc' := 7) (tgt := 57) C f1 dX13_closeFragment_4 (by decide) rfl (fun c2 => ?_) (fun c2 => ?_)
  · replace h := h.1 c2
    exact r_vret C ⟨rfl, rfl, h⟩ dX13_closeFragment_57
  · replace h := h.2 c2
    refine r_aload_n (pc' := 8) C 0 rfl rfl dX13_closeFragment_7 rfl ?_
    refine r_getr (pc' := 11) (k := 73) (r := 86) C fl_X13_52 (by decide) kc_73 (by decide) fr_13_19 RV_73_19 dX13_closeFragment_8 rfl ?_
    refine r_aload_n (pc' := 12) C 0 rfl rfl dX13_closeFragment_11 rfl ?_
    refine r_geti (pc' := 15) (k := 73) C fl_X13_346 (by decide) kc_73 (by decide) fr_13_18 dX13_closeFragment_12 rfl (fun f3 => ?_)
    replace h := h f3
    refine r_aload_n (pc' := 16) C 0 rfl rfl dX13_closeFragment_15 rfl ?_
    refine r_geti (pc' := 19) (k := 73) C fl_X13_329 (by decide) kc_73 (by decide) fr_13_23 dX13_closeFragment_16 rfl (fun f4 => ?_)
    replace h := h f4
    have o5 := h.1
    replace h := h.2
    refine r_iast (pc' := 20) (k := 86) C (by decide) kc_86 (by have := kl_86; omega) f4 dX13_closeFragment_19 rfl ?_
    refine r_aload_n (pc' := 21) C 0 rfl rfl dX13_closeFragment_20 rfl ?_
    refine r_getr (pc' := 24) (k := 73) (r := 87) C fl_X13_55 (by decide) kc_73 (by decide) fr_13_20 RV_73_20 dX13_closeFragment_21 rfl ?_
    refine r_aload_n (pc' := 25) C 0 rfl rfl dX13_closeFragment_24 rfl ?_
    refine r_geti (pc' := 28) (k := 73) C fl_X13_346 (by decide) kc_73 (by decide) fr_13_18 dX13_closeFragment_25 rfl (fun f6 => ?_)
    refine r_aload_n (pc' := 29) C 0 rfl rfl dX13_closeFragment_28 rfl ?_
    refine r_aload_n (pc' := 30) C 0 rfl rfl dX13_closeFragment_29 rfl ?_
    refine r_getr (pc' := 33) (k := 73) (r := 88) C fl_X13_58 (by decide) kc_73 (by decide) fr_13_21 RV_73_21 dX13_closeFragment_30 rfl ?_
    refine r_iconst (pc' := 34) C dX13_closeFragment_33 rfl ?_
    refine r_aload_n (pc' := 35) C 0 rfl rfl dX13_closeFragment_34 rfl ?_
    refine r_geti (pc' := 38) (k := 73) C fl_X13_343 (by decide) kc_73 (by decide) fr_13_22 dX13_closeFragment_35 rfl (fun f7 => ?_)
    refine c_Vi (pc' := 41) (mt := mX13_store) (as := [.ref (gl_b Y + 88), .int (i32 0), .int (i32 (iv 73 22))]) (st := [.int (i32 (iv 73 18)), .ref (gl_b Y + 87)]) (k := 73) C h rfl cl_X13_store ml_X13_349 im_X13_store sl_X13_store (by omega) (Nat.le_refl _) (Nat.le_refl _) rfl (by decide) kc_73 (by decide) rfl rfl rfl (Nat.le_of_ble_eq_true rfl) dX13_closeFragment_38 rfl (fun r8 iv9 av10 f11 h => ?_)
    replace h := h f11
    refine r_iast (pc' := 42) (k := 87) C (by decide) kc_87 (by have := kl_87; omega) f11 dX13_closeFragment_41 rfl ?_
    refine r_aload_n (pc' := 43) C 0 rfl rfl dX13_closeFragment_42 rfl ?_
    refine r_dup (pc' := 44) C rfl dX13_closeFragment_43 rfl ?_
    refine r_geti (pc' := 47) (k := 73) C fl_X13_346 (by decide) kc_73 (by decide) fr_13_18 dX13_closeFragment_44 rfl (fun f12 => ?_)
    replace h := h f12
    refine r_iconst (pc' := 48) C dX13_closeFragment_47 rfl ?_
    refine r_iadd (pc' := 49) C dX13_closeFragment_48 rfl ?_
    have o13 := h.1
    replace h := h.2
    refine r_puti (pc' := 52) (k := 73) C fl_X13_346 (by decide) kc_73 (by decide) fr_13_18 o13 dX13_closeFragment_49 rfl ?_
    refine r_aload_n (pc' := 53) C 0 rfl rfl dX13_closeFragment_52 rfl ?_
    refine r_iconst (pc' := 54) C dX13_closeFragment_53 rfl ?_
    refine r_puti (pc' := 57) (k := 73) C fl_X13_343 (by decide) kc_73 (by decide) fr_13_22 (by decide) dX13_closeFragment_54 rfl ?_
    exact r_vret C ⟨rfl, rfl, h⟩ dX13_closeFragment_57
def L_X13_twin_2 (Y : Gl) (X : Cx) (P : PN) (x1 : Int) (x2 : Int) (iv av : IVt) : Prop := Wa Y X 5 (g_MQ Y X 1 (g_N RV 116 P) 0 0) 0 0 2 [(0, .ref (gl_b Y + 73)), (1, .int (i32 x1)), (2, .int (i32 x2))] [] RV iv av 116
def L_X13_twin_40 (Y : Gl) (X : Cx) (P : PN) (x1 : Int) (x2 : Int) (x3 : Int) (x4 : Int) (iv av : IVt) : Prop := Wa Y X 5 (g_MQ Y X 1 (g_N RV 116 P) 0 0) 0 0 40 [(0, .ref (gl_b Y + 73)), (1, .int (i32 x1)), (2, .int (i32 x2)), (3, .int (i32 x3)), (4, .int (i32 x4))] [] RV iv av 116
set_option maxHeartbeats 4000000 in
set_option maxRecDepth 100000 in
theorem w_X13_twin_40 {Y : Gl} {X : Cx} {e : Nat} {P : PN} {x1 : Int} {x2 : Int} {x3 : Int} {x4 : Int} {iv av : IVt} (C : CX Y X RX13 "twin" cX13_twin 5 (some .int) e 0 0) (hx2 : InR x2) (hx3 : InR x3) (hx4 : InR x4) (h :
    (0 ≤ x1 ∧ x1 < 64) ∧
    ((InR (av 76 x1.toNat)) →
      (((av 76 x1.toNat) ≤ x4) →
        ((x3 = 0) →
          L_X13_twin_2 Y X P x1 (x2 + 1) iv av
        ) ∧
        ((¬ x3 = 0) →
          P x2 iv av
        )
      ) ∧
      ((¬ (av 76 x1.toNat) ≤ x4) →
        ((x3 = 0) →
          ((x3 = 0) →
            L_X13_twin_2 Y X P x1 (x2 + 1) iv av
          ) ∧
          ((¬ x3 = 0) →
            P x2 iv av
          )
        ) ∧
        ((¬ x3 = 0) →
          (0 ≤ x2 ∧ x2 < 64) ∧
          ((InR (av 75 x2.toNat)) →
            (0 ≤ ((av 75 x2.toNat) + x4) ∧ ((av 75 x2.toNat) + x4) < 65536) ∧
            ((-128 ≤ (av 77 ((av 75 x2.toNat) + x4).toNat) ∧ (av 77 ((av 75 x2.toNat) + x4).toNat) ≤ 127) →
              ((InR (av 75 x1.toNat)) →
                (0 ≤ ((av 75 x1.toNat) + x4) ∧ ((av 75 x1.toNat) + x4) < 65536) ∧
                ((-128 ≤ (av 77 ((av 75 x1.toNat) + x4).toNat) ∧ (av 77 ((av 75 x1.toNat) + x4).toNat) ≤ 127) →
                  ((¬ (av 77 ((av 75 x2.toNat) + x4).toNat) = (av 77 ((av 75 x1.toNat) + x4).toNat)) →
                    L_X13_twin_40 Y X P x1 x2 0 (x4 + 1) iv av
                  ) ∧
                  (((av 77 ((av 75 x2.toNat) + x4).toNat) = (av 77 ((av 75 x1.toNat) + x4).toNat)) →
                    L_X13_twin_40 Y X P x1 x2 1 (x4 + 1) iv av
                  )
                )
              )
            )
          )
        )
      )
    )) : L_X13_twin_40 Y X P x1 x2 x3 x4 iv av := by
  unfold L_X13_twin_40
  refine r_iload (pc' := 42) C 4 rfl dX13_twin_40 rfl ?_
  refine r_aload_n (pc' := 43) C 0 rfl rfl dX13_twin_42 rfl ?_
  refine r_getr (pc' := 46) (k := 73) (r := 76) C fl_X13_17 (by decide) kc_73 (by decide) fr_13_3 RV_73_3 dX13_twin_43 rfl ?_
  refine r_iload_n (pc' := 47) C 1 rfl rfl dX13_twin_46 rfl ?_
  have o1 := h.1
  replace h := h.2
  refine r_iald (pc' := 48) (k := 76) C (by decide) kc_76 (by have := kl_76; omega) dX13_twin_47 rfl (fun f2 => ?_)
  replace h := h f2
  refine r_icmp_ge (pc' := 51) (tgt := 98) C hx4 f2 dX13_twin_48 (by decide) rfl (fun c3 => ?_) (fun c3 => ?_)
  · replace h := h.1 c3
    refine r_iload_n (pc' := 99) C 3 rfl rfl dX13_twin_98 rfl ?_
    refine r_if_eq (pc' := 102) (tgt := 104) C hx3 dX13_twin_99 (by decide) rfl (fun c4 => ?_) (fun c4 => ?_)
    · replace h := h.1 c4
      refine r_iinc (pc' := 107) (ls' := [(0, .ref (gl_b Y + 73)), (1, .int (i32 x1)), (2, .int (i32 (x2 + 1))), (3, .int (i32 x3)), (4, .int (i32 x4))]) C 2 rfl (by decide) rfl dX13_twin_104 rfl ?_
      refine r_goto (tgt := 2) C dX13_twin_107 (by decide) ?_
      exact Wa.sub [0, 1, 2] rfl h
    · replace h := h.2 c4
      refine r_iload_n (pc' := 103) C 2 rfl rfl dX13_twin_102 rfl ?_
      exact r_iret C hx2 ⟨rfl, rfl, h⟩ dX13_twin_103
  · replace h := h.2 c3
    refine r_iload_n (pc' := 52) C 3 rfl rfl dX13_twin_51 rfl ?_
    refine r_if_eq (pc' := 55) (tgt := 98) C hx3 dX13_twin_52 (by decide) rfl (fun c5 => ?_) (fun c5 => ?_)
    · replace h := h.1 c5
      refine r_iload_n (pc' := 99) C 3 rfl rfl dX13_twin_98 rfl ?_
      refine r_if_eq (pc' := 102) (tgt := 104) C hx3 dX13_twin_99 (by decide) rfl (fun c6 => ?_) (fun c6 => ?_)
      · replace h := h.1 c6
        refine r_iinc (pc' := 107) (ls' := [(0, .ref (gl_b Y + 73)), (1, .int (i32 x1)), (2, .int (i32 (x2 + 1))), (3, .int (i32 x3)), (4, .int (i32 x4))]) C 2 rfl (by decide) rfl dX13_twin_104 rfl ?_
        refine r_goto (tgt := 2) C dX13_twin_107 (by decide) ?_
        exact Wa.sub [0, 1, 2] rfl h
      · replace h := h.2 c6
        refine r_iload_n (pc' := 103) C 2 rfl rfl dX13_twin_102 rfl ?_
        exact r_iret C hx2 ⟨rfl, rfl, h⟩ dX13_twin_103
    · replace h := h.2 c5
      refine r_aload_n (pc' := 56) C 0 rfl rfl dX13_twin_55 rfl ?_
      refine r_getr (pc' := 59) (k := 73) (r := 77) C fl_X13_21 (by decide) kc_73 (by decide) fr_13_4 RV_73_4 dX13_twin_56 rfl ?_
      refine r_aload_n (pc' := 60) C 0 rfl rfl dX13_twin_59 rfl ?_
      refine r_getr (pc' := 63) (k := 73) (r := 75) C fl_X13_13 (by decide) kc_73 (by decide) fr_13_2 RV_73_2 dX13_twin_60 rfl ?_
      refine r_iload_n (pc' := 64) C 2 rfl rfl dX13_twin_63 rfl ?_
      have o7 := h.1
      replace h := h.2
      refine r_iald (pc' := 65) (k := 75) C (by decide) kc_75 (by have := kl_75; omega) dX13_twin_64 rfl (fun f8 => ?_)
      replace h := h f8
      refine r_iload (pc' := 67) C 4 rfl dX13_twin_65 rfl ?_
      refine r_iadd (pc' := 68) C dX13_twin_67 rfl ?_
      have o9 := h.1
      replace h := h.2
      refine r_bald (pc' := 69) (k := 77) C (by decide) kc_77 (by have := kl_77; omega) dX13_twin_68 rfl (fun f10 => ?_)
      replace h := h f10
      refine r_aload_n (pc' := 70) C 0 rfl rfl dX13_twin_69 rfl ?_
      refine r_getr (pc' := 73) (k := 73) (r := 77) C fl_X13_21 (by decide) kc_73 (by decide) fr_13_4 RV_73_4 dX13_twin_70 rfl ?_
      refine r_aload_n (pc' := 74) C 0 rfl rfl dX13_twin_73 rfl ?_
      refine r_getr (pc' := 77) (k := 73) (r := 75) C fl_X13_13 (by decide) kc_73 (by decide) fr_13_2 RV_73_2 dX13_twin_74 rfl ?_
      refine r_iload_n (pc' := 78) C 1 rfl rfl dX13_twin_77 rfl ?_
      refine r_iald (pc' := 79) (k := 75) C (by decide) kc_75 (by have := kl_75; omega) dX13_twin_78 rfl (fun f11 => ?_)
      replace h := h f11
      refine r_iload (pc' := 81) C 4 rfl dX13_twin_79 rfl ?_
      refine r_iadd (pc' := 82) C dX13_twin_81 rfl ?_
      have o12 := h.1
      replace h := h.2
      refine r_bald (pc' := 83) (k := 77) C (by decide) kc_77 (by have := kl_77; omega) dX13_twin_82 rfl (fun f13 => ?_)
      replace h := h f13
      refine r_icmp_ne (pc' := 86) (tgt := 90) C (by omega) (by omega) dX13_twin_83 (by decide) rfl (fun c14 => ?_) (fun c14 => ?_)
      · replace h := h.1 c14
        refine r_iconst (pc' := 91) C dX13_twin_90 rfl ?_
        refine r_istore_n (pc' := 92) (ls' := [(0, .ref (gl_b Y + 73)), (1, .int (i32 x1)), (2, .int (i32 x2)), (3, .int (i32 0)), (4, .int (i32 x4))]) C (by decide) rfl rfl dX13_twin_91 rfl ?_
        refine r_iinc (pc' := 95) (ls' := [(0, .ref (gl_b Y + 73)), (1, .int (i32 x1)), (2, .int (i32 x2)), (3, .int (i32 0)), (4, .int (i32 (x4 + 1)))]) C 4 rfl (by decide) rfl dX13_twin_92 rfl ?_
        refine r_goto (tgt := 40) C dX13_twin_95 (by decide) ?_
        exact Wa.sub [0, 1, 2, 3, 4] rfl h
      · replace h := h.2 c14
        refine r_iconst (pc' := 87) C dX13_twin_86 rfl ?_
        refine r_goto (tgt := 91) C dX13_twin_87 (by decide) ?_
        refine r_istore_n (pc' := 92) (ls' := [(0, .ref (gl_b Y + 73)), (1, .int (i32 x1)), (2, .int (i32 x2)), (3, .int (i32 1)), (4, .int (i32 x4))]) C (by decide) rfl rfl dX13_twin_91 rfl ?_
        refine r_iinc (pc' := 95) (ls' := [(0, .ref (gl_b Y + 73)), (1, .int (i32 x1)), (2, .int (i32 x2)), (3, .int (i32 1)), (4, .int (i32 (x4 + 1)))]) C 4 rfl (by decide) rfl dX13_twin_92 rfl ?_
        refine r_goto (tgt := 40) C dX13_twin_95 (by decide) ?_
        exact Wa.sub [0, 1, 2, 3, 4] rfl h
set_option maxHeartbeats 4000000 in
set_option maxRecDepth 100000 in
theorem w_X13_twin_2 {Y : Gl} {X : Cx} {e : Nat} {P : PN} {x1 : Int} {x2 : Int} {iv av : IVt} (C : CX Y X RX13 "twin" cX13_twin 5 (some .int) e 0 0) (hx1 : InR x1) (hx2 : InR x2) (h :
    ((x1 ≤ x2) →
      P (-1) iv av
    ) ∧
    ((¬ x1 ≤ x2) →
      (0 ≤ x1 ∧ x1 < 64) ∧
      ((InR (av 76 x1.toNat)) →
        (((av 76 x1.toNat) ≤ 0) →
          P (-1) iv av
        ) ∧
        ((¬ (av 76 x1.toNat) ≤ 0) →
          (0 ≤ x2 ∧ x2 < 64) ∧
          ((InR (av 76 x2.toNat)) →
            ((¬ (av 76 x2.toNat) = (av 76 x1.toNat)) →
              L_X13_twin_40 Y X P x1 x2 0 0 iv av
            ) ∧
            (((av 76 x2.toNat) = (av 76 x1.toNat)) →
              L_X13_twin_40 Y X P x1 x2 1 0 iv av
            )
          )
        )
      )
    )) : L_X13_twin_2 Y X P x1 x2 iv av := by
  unfold L_X13_twin_2
  refine r_iload_n (pc' := 3) C 2 rfl rfl dX13_twin_2 rfl ?_
  refine r_iload_n (pc' := 4) C 1 rfl rfl dX13_twin_3 rfl ?_
  refine r_icmp_ge (pc' := 7) (tgt := 110) C hx2 hx1 dX13_twin_4 (by decide) rfl (fun c1 => ?_) (fun c1 => ?_)
  · replace h := h.1 c1
    refine r_iconst (pc' := 111) C dX13_twin_110 rfl ?_
    exact r_iret C (by decide) ⟨rfl, rfl, h⟩ dX13_twin_111
  · replace h := h.2 c1
    refine r_aload_n (pc' := 8) C 0 rfl rfl dX13_twin_7 rfl ?_
    refine r_getr (pc' := 11) (k := 73) (r := 76) C fl_X13_17 (by decide) kc_73 (by decide) fr_13_3 RV_73_3 dX13_twin_8 rfl ?_
    refine r_iload_n (pc' := 12) C 1 rfl rfl dX13_twin_11 rfl ?_
    have o2 := h.1
    replace h := h.2
    refine r_iald (pc' := 13) (k := 76) C (by decide) kc_76 (by have := kl_76; omega) dX13_twin_12 rfl (fun f3 => ?_)
    replace h := h f3
    refine r_if_le (pc' := 16) (tgt := 110) C f3 dX13_twin_13 (by decide) rfl (fun c4 => ?_) (fun c4 => ?_)
    · replace h := h.1 c4
      refine r_iconst (pc' := 111) C dX13_twin_110 rfl ?_
      exact r_iret C (by decide) ⟨rfl, rfl, h⟩ dX13_twin_111
    · replace h := h.2 c4
      refine r_aload_n (pc' := 17) C 0 rfl rfl dX13_twin_16 rfl ?_
      refine r_getr (pc' := 20) (k := 73) (r := 76) C fl_X13_17 (by decide) kc_73 (by decide) fr_13_3 RV_73_3 dX13_twin_17 rfl ?_
      refine r_iload_n (pc' := 21) C 2 rfl rfl dX13_twin_20 rfl ?_
      have o5 := h.1
      replace h := h.2
      refine r_iald (pc' := 22) (k := 76) C (by decide) kc_76 (by have := kl_76; omega) dX13_twin_21 rfl (fun f6 => ?_)
      replace h := h f6
      refine r_aload_n (pc' := 23) C 0 rfl rfl dX13_twin_22 rfl ?_
      refine r_getr (pc' := 26) (k := 73) (r := 76) C fl_X13_17 (by decide) kc_73 (by decide) fr_13_3 RV_73_3 dX13_twin_23 rfl ?_
      refine r_iload_n (pc' := 27) C 1 rfl rfl dX13_twin_26 rfl ?_
      refine r_iald (pc' := 28) (k := 76) C (by decide) kc_76 (by have := kl_76; omega) dX13_twin_27 rfl (fun f7 => ?_)
      refine r_icmp_ne (pc' := 31) (tgt := 35) C f6 f3 dX13_twin_28 (by decide) rfl (fun c8 => ?_) (fun c8 => ?_)
      · replace h := h.1 c8
        refine r_iconst (pc' := 36) C dX13_twin_35 rfl ?_
        refine r_istore_n (pc' := 37) (ls' := [(0, .ref (gl_b Y + 73)), (1, .int (i32 x1)), (2, .int (i32 x2)), (3, .int (i32 0))]) C (by decide) rfl rfl dX13_twin_36 rfl ?_
        refine r_iconst (pc' := 38) C dX13_twin_37 rfl ?_
        refine r_istore (pc' := 40) (ls' := [(0, .ref (gl_b Y + 73)), (1, .int (i32 x1)), (2, .int (i32 x2)), (3, .int (i32 0)), (4, .int (i32 0))]) C (by decide) rfl dX13_twin_38 rfl ?_
        exact Wa.sub [0, 1, 2, 3, 4] rfl h
      · replace h := h.2 c8
        refine r_iconst (pc' := 32) C dX13_twin_31 rfl ?_
        refine r_goto (tgt := 36) C dX13_twin_32 (by decide) ?_
        refine r_istore_n (pc' := 37) (ls' := [(0, .ref (gl_b Y + 73)), (1, .int (i32 x1)), (2, .int (i32 x2)), (3, .int (i32 1))]) C (by decide) rfl rfl dX13_twin_36 rfl ?_
        refine r_iconst (pc' := 38) C dX13_twin_37 rfl ?_
        refine r_istore (pc' := 40) (ls' := [(0, .ref (gl_b Y + 73)), (1, .int (i32 x1)), (2, .int (i32 x2)), (3, .int (i32 1)), (4, .int (i32 0))]) C (by decide) rfl dX13_twin_38 rfl ?_
        exact Wa.sub [0, 1, 2, 3, 4] rfl h
set_option maxHeartbeats 4000000 in
set_option maxRecDepth 100000 in
theorem o_X13_twin {Y : Gl} {e : Nat} {P : PN} {x1 : Int} {iv av : IVt} (h : ∀ X : Cx, CX Y X RX13 "twin" cX13_twin 5 (some .int) e 0 0 →
    L_X13_twin_2 Y X P x1 0 iv av) : OkN Y e mX13_twin [.ref (gl_b Y + 73), .int (i32 x1)] RV iv av 116 P := by
  refine OkW.of rfl (by show _ ≤ 5; exact Nat.le_of_ble_eq_true rfl) fun X C0 hR => ?_
  have C : CX Y X RX13 "twin" cX13_twin 5 (some .int) e 0 0 := C0
  replace h := h X C
  show Wa Y X 5 (g_MQ Y X 1 (g_N RV 116 P) 0 0) 0 0 0 [(0, .ref (gl_b Y + 73)), (1, .int (i32 x1))] [] RV iv av 116
  refine r_iconst (pc' := 1) C dX13_twin_0 rfl ?_
  refine r_istore_n (pc' := 2) (ls' := [(0, .ref (gl_b Y + 73)), (1, .int (i32 x1)), (2, .int (i32 0))]) C (by decide) rfl rfl dX13_twin_1 rfl ?_
  exact Wa.sub [0, 1, 2] rfl h
def L_X13_putBlock_6 (Y : Gl) (X : Cx) (P : PN) (x1 : Int) (x2 : Int) (x3 : Int) (x4 : Int) (x5 : Int) (iv av : IVt) : Prop := Wa Y X 6 (g_MQ Y X 0 (g_N RV 116 P) 0 0) 0 0 6 [(0, .ref (gl_b Y + 73)), (1, .int (i32 x1)), (2, .int (i32 x2)), (3, .int (i32 x3)), (4, .int (i32 x4)), (5, .int (i32 x5))] [] RV iv av 116
set_option maxHeartbeats 4000000 in
set_option maxRecDepth 100000 in
theorem w_X13_putBlock_6 {Y : Gl} {X : Cx} {e : Nat} {P : PN} {x1 : Int} {x2 : Int} {x3 : Int} {x4 : Int} {x5 : Int} {iv av : IVt} (C : CX Y X RX13 "putBlock" cX13_putBlock 6 none (e + 21) 0 0) (hx2 : InR x2) (hx3 : InR x3) (hx4 : InR x4) (hx5 : InR x5) (h :
    ((x3 ≤ x5) →
      ((x4 = 0) →
        (0 ≤ x1 ∧ x1 < 64) ∧
        ((InR (av 84 x1.toNat)) →
          ((InR (iv 73 16)) →
            ((x4 = 0) →
              OkN Y (e + 20) mX13_store [.ref (gl_b Y + 73), .ref (gl_b Y + 77), .int (i32 x2), .int (i32 x3)] RV iv (up2 av 84 x1.toNat (av 84 x1.toNat)) 116 (fun r7 iv8 av9 =>
                (InR r7) →
                (0 ≤ (iv 73 16) ∧ (iv 73 16) < 128) ∧
                ((InR (iv8 73 16)) →
                  (InR ((iv8 73 16) + 1)) ∧
                  ((InR (av9 81 x1.toNat)) →
                    (InR ((av9 81 x1.toNat) + 1)) ∧
                    P 0 (up2 iv8 73 16 ((iv8 73 16) + 1)) (up2 (up2 av9 85 ((iv 73 16).toNat) r7) 81 x1.toNat ((av9 81 x1.toNat) + 1))
                  )
                )
              )
            ) ∧
            ((¬ x4 = 0) →
              (0 ≤ (iv 73 16) ∧ (iv 73 16) < 128) ∧
              (InR ((iv 73 16) + 1)) ∧
              ((InR (av 81 x1.toNat)) →
                (InR ((av 81 x1.toNat) + 1)) ∧
                P 0 (up2 iv 73 16 ((iv 73 16) + 1)) (up2 (up2 (up2 av 84 x1.toNat (av 84 x1.toNat)) 85 ((iv 73 16).toNat) 0) 81 x1.toNat ((av 81 x1.toNat) + 1))
              )
            )
          )
        )
      ) ∧
      ((¬ x4 = 0) →
        (0 ≤ x1 ∧ x1 < 64) ∧
        ((InR (av 84 x1.toNat)) →
          (InR ((av 84 x1.toNat) + x3)) ∧
          ((InR (iv 73 16)) →
            ((x4 = 0) →
              OkN Y (e + 20) mX13_store [.ref (gl_b Y + 73), .ref (gl_b Y + 77), .int (i32 x2), .int (i32 x3)] RV iv (up2 av 84 x1.toNat ((av 84 x1.toNat) + x3)) 116 (fun r26 iv27 av28 =>
                (InR r26) →
                (0 ≤ (iv 73 16) ∧ (iv 73 16) < 128) ∧
                ((InR (iv27 73 16)) →
                  (InR ((iv27 73 16) + 1)) ∧
                  ((InR (av28 81 x1.toNat)) →
                    (InR ((av28 81 x1.toNat) + 1)) ∧
                    P 0 (up2 iv27 73 16 ((iv27 73 16) + 1)) (up2 (up2 av28 85 ((iv 73 16).toNat) r26) 81 x1.toNat ((av28 81 x1.toNat) + 1))
                  )
                )
              )
            ) ∧
            ((¬ x4 = 0) →
              (0 ≤ (iv 73 16) ∧ (iv 73 16) < 128) ∧
              (InR ((iv 73 16) + 1)) ∧
              ((InR (av 81 x1.toNat)) →
                (InR ((av 81 x1.toNat) + 1)) ∧
                P 0 (up2 iv 73 16 ((iv 73 16) + 1)) (up2 (up2 (up2 av 84 x1.toNat ((av 84 x1.toNat) + x3)) 85 ((iv 73 16).toNat) 0) 81 x1.toNat ((av 81 x1.toNat) + 1))
              )
            )
          )
        )
      )
    ) ∧
    ((¬ x3 ≤ x5) →
      ((x4 = 0) →
        ((x4 = 0) →
          (0 ≤ x1 ∧ x1 < 64) ∧
          ((InR (av 84 x1.toNat)) →
            ((InR (iv 73 16)) →
              ((x4 = 0) →
                OkN Y (e + 20) mX13_store [.ref (gl_b Y + 73), .ref (gl_b Y + 77), .int (i32 x2), .int (i32 x3)] RV iv (up2 av 84 x1.toNat (av 84 x1.toNat)) 116 (fun r46 iv47 av48 =>
                  (InR r46) →
                  (0 ≤ (iv 73 16) ∧ (iv 73 16) < 128) ∧
                  ((InR (iv47 73 16)) →
                    (InR ((iv47 73 16) + 1)) ∧
                    ((InR (av48 81 x1.toNat)) →
                      (InR ((av48 81 x1.toNat) + 1)) ∧
                      P 0 (up2 iv47 73 16 ((iv47 73 16) + 1)) (up2 (up2 av48 85 ((iv 73 16).toNat) r46) 81 x1.toNat ((av48 81 x1.toNat) + 1))
                    )
                  )
                )
              ) ∧
              ((¬ x4 = 0) →
                (0 ≤ (iv 73 16) ∧ (iv 73 16) < 128) ∧
                (InR ((iv 73 16) + 1)) ∧
                ((InR (av 81 x1.toNat)) →
                  (InR ((av 81 x1.toNat) + 1)) ∧
                  P 0 (up2 iv 73 16 ((iv 73 16) + 1)) (up2 (up2 (up2 av 84 x1.toNat (av 84 x1.toNat)) 85 ((iv 73 16).toNat) 0) 81 x1.toNat ((av 81 x1.toNat) + 1))
                )
              )
            )
          )
        ) ∧
        ((¬ x4 = 0) →
          (0 ≤ x1 ∧ x1 < 64) ∧
          ((InR (av 84 x1.toNat)) →
            (InR ((av 84 x1.toNat) + x3)) ∧
            ((InR (iv 73 16)) →
              ((x4 = 0) →
                OkN Y (e + 20) mX13_store [.ref (gl_b Y + 73), .ref (gl_b Y + 77), .int (i32 x2), .int (i32 x3)] RV iv (up2 av 84 x1.toNat ((av 84 x1.toNat) + x3)) 116 (fun r65 iv66 av67 =>
                  (InR r65) →
                  (0 ≤ (iv 73 16) ∧ (iv 73 16) < 128) ∧
                  ((InR (iv66 73 16)) →
                    (InR ((iv66 73 16) + 1)) ∧
                    ((InR (av67 81 x1.toNat)) →
                      (InR ((av67 81 x1.toNat) + 1)) ∧
                      P 0 (up2 iv66 73 16 ((iv66 73 16) + 1)) (up2 (up2 av67 85 ((iv 73 16).toNat) r65) 81 x1.toNat ((av67 81 x1.toNat) + 1))
                    )
                  )
                )
              ) ∧
              ((¬ x4 = 0) →
                (0 ≤ (iv 73 16) ∧ (iv 73 16) < 128) ∧
                (InR ((iv 73 16) + 1)) ∧
                ((InR (av 81 x1.toNat)) →
                  (InR ((av 81 x1.toNat) + 1)) ∧
                  P 0 (up2 iv 73 16 ((iv 73 16) + 1)) (up2 (up2 (up2 av 84 x1.toNat ((av 84 x1.toNat) + x3)) 85 ((iv 73 16).toNat) 0) 81 x1.toNat ((av 81 x1.toNat) + 1))
                )
              )
            )
          )
        )
      ) ∧
      ((¬ x4 = 0) →
        (0 ≤ (x2 + x5) ∧ (x2 + x5) < 65536) ∧
        ((-128 ≤ (av 77 (x2 + x5).toNat) ∧ (av 77 (x2 + x5).toNat) ≤ 127) →
          ((¬ (av 77 (x2 + x5).toNat) = 0) →
            L_X13_putBlock_6 Y X P x1 x2 x3 0 (x5 + 1) iv av
          ) ∧
          (((av 77 (x2 + x5).toNat) = 0) →
            L_X13_putBlock_6 Y X P x1 x2 x3 1 (x5 + 1) iv av
          )
        )
      )
    )) : L_X13_putBlock_6 Y X P x1 x2 x3 x4 x5 iv av := by
  unfold L_X13_putBlock_6
  refine r_iload (pc' := 8) C 5 rfl dX13_putBlock_6 rfl ?_
  refine r_iload_n (pc' := 9) C 3 rfl rfl dX13_putBlock_8 rfl ?_
  refine r_icmp_ge (pc' := 12) (tgt := 42) C hx5 hx3 dX13_putBlock_9 (by decide) rfl (fun c1 => ?_) (fun c1 => ?_)
  · replace h := h.1 c1
    refine r_aload_n (pc' := 43) C 0 rfl rfl dX13_putBlock_42 rfl ?_
    refine r_getr (pc' := 46) (k := 73) (r := 84) C fl_X13_46 (by decide) kc_73 (by decide) fr_13_15 RV_73_15 dX13_putBlock_43 rfl ?_
    refine r_iload_n (pc' := 47) C 1 rfl rfl dX13_putBlock_46 rfl ?_
    refine r_iload (pc' := 49) C 4 rfl dX13_putBlock_47 rfl ?_
    refine r_if_eq (pc' := 52) (tgt := 63) C hx4 dX13_putBlock_49 (by decide) rfl (fun c2 => ?_) (fun c2 => ?_)
    · replace h := h.1 c2
      refine r_aload_n (pc' := 64) C 0 rfl rfl dX13_putBlock_63 rfl ?_
      refine r_getr (pc' := 67) (k := 73) (r := 84) C fl_X13_46 (by decide) kc_73 (by decide) fr_13_15 RV_73_15 dX13_putBlock_64 rfl ?_
      refine r_iload_n (pc' := 68) C 1 rfl rfl dX13_putBlock_67 rfl ?_
      have o3 := h.1
      replace h := h.2
      refine r_iald (pc' := 69) (k := 84) C (by decide) kc_84 (by have := kl_84; omega) dX13_putBlock_68 rfl (fun f4 => ?_)
      replace h := h f4
      refine r_iast (pc' := 70) (k := 84) C (by decide) kc_84 (by have := kl_84; omega) f4 dX13_putBlock_69 rfl ?_
      refine r_aload_n (pc' := 71) C 0 rfl rfl dX13_putBlock_70 rfl ?_
      refine r_getr (pc' := 74) (k := 73) (r := 85) C fl_X13_49 (by decide) kc_73 (by decide) fr_13_17 RV_73_17 dX13_putBlock_71 rfl ?_
      refine r_aload_n (pc' := 75) C 0 rfl rfl dX13_putBlock_74 rfl ?_
      refine r_geti (pc' := 78) (k := 73) C fl_X13_352 (by decide) kc_73 (by decide) fr_13_16 dX13_putBlock_75 rfl (fun f5 => ?_)
      replace h := h f5
      refine r_iload (pc' := 80) C 4 rfl dX13_putBlock_78 rfl ?_
      refine r_if_eq (pc' := 83) (tgt := 87) C hx4 dX13_putBlock_80 (by decide) rfl (fun c6 => ?_) (fun c6 => ?_)
      · replace h := h.1 c6
        refine r_aload_n (pc' := 88) C 0 rfl rfl dX13_putBlock_87 rfl ?_
        refine r_aload_n (pc' := 89) C 0 rfl rfl dX13_putBlock_88 rfl ?_
        refine r_getr (pc' := 92) (k := 73) (r := 77) C fl_X13_21 (by decide) kc_73 (by decide) fr_13_4 RV_73_4 dX13_putBlock_89 rfl ?_
        refine r_iload_n (pc' := 93) C 2 rfl rfl dX13_putBlock_92 rfl ?_
        refine r_iload_n (pc' := 94) C 3 rfl rfl dX13_putBlock_93 rfl ?_
        refine c_Vi (pc' := 97) (mt := mX13_store) (as := [.ref (gl_b Y + 77), .int (i32 x2), .int (i32 x3)]) (st := [.int (i32 (iv 73 16)), .ref (gl_b Y + 85)]) (k := 73) C h rfl cl_X13_store ml_X13_349 im_X13_store sl_X13_store (by omega) (Nat.le_refl _) (Nat.le_refl _) rfl (by decide) kc_73 (by decide) rfl rfl rfl (Nat.le_of_ble_eq_true rfl) dX13_putBlock_94 rfl (fun r7 iv8 av9 f10 h => ?_)
        replace h := h f10
        have o11 := h.1
        replace h := h.2
        refine r_iast (pc' := 98) (k := 85) C (by decide) kc_85 (by have := kl_85; omega) f10 dX13_putBlock_97 rfl ?_
        refine r_aload_n (pc' := 99) C 0 rfl rfl dX13_putBlock_98 rfl ?_
        refine r_dup (pc' := 100) C rfl dX13_putBlock_99 rfl ?_
        refine r_geti (pc' := 103) (k := 73) C fl_X13_352 (by decide) kc_73 (by decide) fr_13_16 dX13_putBlock_100 rfl (fun f12 => ?_)
        replace h := h f12
        refine r_iconst (pc' := 104) C dX13_putBlock_103 rfl ?_
        refine r_iadd (pc' := 105) C dX13_putBlock_104 rfl ?_
        have o13 := h.1
        replace h := h.2
        refine r_puti (pc' := 108) (k := 73) C fl_X13_352 (by decide) kc_73 (by decide) fr_13_16 o13 dX13_putBlock_105 rfl ?_
        refine r_aload_n (pc' := 109) C 0 rfl rfl dX13_putBlock_108 rfl ?_
        refine r_getr (pc' := 112) (k := 73) (r := 81) C fl_X13_37 (by decide) kc_73 (by decide) fr_13_12 RV_73_12 dX13_putBlock_109 rfl ?_
        refine r_iload_n (pc' := 113) C 1 rfl rfl dX13_putBlock_112 rfl ?_
        refine r_dup2 (pc' := 114) C rfl rfl dX13_putBlock_113 rfl ?_
        refine r_iald (pc' := 115) (k := 81) C (by decide) kc_81 (by have := kl_81; omega) dX13_putBlock_114 rfl (fun f14 => ?_)
        have ef14 : (up2 av9 85 ((iv 73 16).toNat) r7) 81 x1.toNat = (av9 81 x1.toNat) := by simp [up2]
        rw [ef14] at f14 ⊢
        replace h := h f14
        refine r_iconst (pc' := 116) C dX13_putBlock_115 rfl ?_
        refine r_iadd (pc' := 117) C dX13_putBlock_116 rfl ?_
        have o15 := h.1
        replace h := h.2
        refine r_iast (pc' := 118) (k := 81) C (by decide) kc_81 (by have := kl_81; omega) o15 dX13_putBlock_117 rfl ?_
        exact r_vret C ⟨rfl, rfl, h⟩ dX13_putBlock_118
      · replace h := h.2 c6
        refine r_iconst (pc' := 84) C dX13_putBlock_83 rfl ?_
        refine r_goto (tgt := 97) C dX13_putBlock_84 (by decide) ?_
        have o16 := h.1
        replace h := h.2
        refine r_iast (pc' := 98) (k := 85) C (by decide) kc_85 (by have := kl_85; omega) (by decide) dX13_putBlock_97 rfl ?_
        refine r_aload_n (pc' := 99) C 0 rfl rfl dX13_putBlock_98 rfl ?_
        refine r_dup (pc' := 100) C rfl dX13_putBlock_99 rfl ?_
        refine r_geti (pc' := 103) (k := 73) C fl_X13_352 (by decide) kc_73 (by decide) fr_13_16 dX13_putBlock_100 rfl (fun f17 => ?_)
        refine r_iconst (pc' := 104) C dX13_putBlock_103 rfl ?_
        refine r_iadd (pc' := 105) C dX13_putBlock_104 rfl ?_
        have o18 := h.1
        replace h := h.2
        refine r_puti (pc' := 108) (k := 73) C fl_X13_352 (by decide) kc_73 (by decide) fr_13_16 o18 dX13_putBlock_105 rfl ?_
        refine r_aload_n (pc' := 109) C 0 rfl rfl dX13_putBlock_108 rfl ?_
        refine r_getr (pc' := 112) (k := 73) (r := 81) C fl_X13_37 (by decide) kc_73 (by decide) fr_13_12 RV_73_12 dX13_putBlock_109 rfl ?_
        refine r_iload_n (pc' := 113) C 1 rfl rfl dX13_putBlock_112 rfl ?_
        refine r_dup2 (pc' := 114) C rfl rfl dX13_putBlock_113 rfl ?_
        refine r_iald (pc' := 115) (k := 81) C (by decide) kc_81 (by have := kl_81; omega) dX13_putBlock_114 rfl (fun f19 => ?_)
        have ef19 : (up2 (up2 av 84 x1.toNat (av 84 x1.toNat)) 85 ((iv 73 16).toNat) 0) 81 x1.toNat = (av 81 x1.toNat) := by simp [up2]
        rw [ef19] at f19 ⊢
        replace h := h f19
        refine r_iconst (pc' := 116) C dX13_putBlock_115 rfl ?_
        refine r_iadd (pc' := 117) C dX13_putBlock_116 rfl ?_
        have o20 := h.1
        replace h := h.2
        refine r_iast (pc' := 118) (k := 81) C (by decide) kc_81 (by have := kl_81; omega) o20 dX13_putBlock_117 rfl ?_
        exact r_vret C ⟨rfl, rfl, h⟩ dX13_putBlock_118
    · replace h := h.2 c2
      refine r_aload_n (pc' := 53) C 0 rfl rfl dX13_putBlock_52 rfl ?_
      refine r_getr (pc' := 56) (k := 73) (r := 84) C fl_X13_46 (by decide) kc_73 (by decide) fr_13_15 RV_73_15 dX13_putBlock_53 rfl ?_
      refine r_iload_n (pc' := 57) C 1 rfl rfl dX13_putBlock_56 rfl ?_
      have o21 := h.1
      replace h := h.2
      refine r_iald (pc' := 58) (k := 84) C (by decide) kc_84 (by have := kl_84; omega) dX13_putBlock_57 rfl (fun f22 => ?_)
      replace h := h f22
      refine r_iload_n (pc' := 59) C 3 rfl rfl dX13_putBlock_58 rfl ?_
      refine r_iadd (pc' := 60) C dX13_putBlock_59 rfl ?_
      refine r_goto (tgt := 69) C dX13_putBlock_60 (by decide) ?_
      have o23 := h.1
      replace h := h.2
      refine r_iast (pc' := 70) (k := 84) C (by decide) kc_84 (by have := kl_84; omega) o23 dX13_putBlock_69 rfl ?_
      refine r_aload_n (pc' := 71) C 0 rfl rfl dX13_putBlock_70 rfl ?_
      refine r_getr (pc' := 74) (k := 73) (r := 85) C fl_X13_49 (by decide) kc_73 (by decide) fr_13_17 RV_73_17 dX13_putBlock_71 rfl ?_
      refine r_aload_n (pc' := 75) C 0 rfl rfl dX13_putBlock_74 rfl ?_
      refine r_geti (pc' := 78) (k := 73) C fl_X13_352 (by decide) kc_73 (by decide) fr_13_16 dX13_putBlock_75 rfl (fun f24 => ?_)
      replace h := h f24
      refine r_iload (pc' := 80) C 4 rfl dX13_putBlock_78 rfl ?_
      refine r_if_eq (pc' := 83) (tgt := 87) C hx4 dX13_putBlock_80 (by decide) rfl (fun c25 => ?_) (fun c25 => ?_)
      · replace h := h.1 c25
        refine r_aload_n (pc' := 88) C 0 rfl rfl dX13_putBlock_87 rfl ?_
        refine r_aload_n (pc' := 89) C 0 rfl rfl dX13_putBlock_88 rfl ?_
        refine r_getr (pc' := 92) (k := 73) (r := 77) C fl_X13_21 (by decide) kc_73 (by decide) fr_13_4 RV_73_4 dX13_putBlock_89 rfl ?_
        refine r_iload_n (pc' := 93) C 2 rfl rfl dX13_putBlock_92 rfl ?_
        refine r_iload_n (pc' := 94) C 3 rfl rfl dX13_putBlock_93 rfl ?_
        refine c_Vi (pc' := 97) (mt := mX13_store) (as := [.ref (gl_b Y + 77), .int (i32 x2), .int (i32 x3)]) (st := [.int (i32 (iv 73 16)), .ref (gl_b Y + 85)]) (k := 73) C h rfl cl_X13_store ml_X13_349 im_X13_store sl_X13_store (by omega) (Nat.le_refl _) (Nat.le_refl _) rfl (by decide) kc_73 (by decide) rfl rfl rfl (Nat.le_of_ble_eq_true rfl) dX13_putBlock_94 rfl (fun r26 iv27 av28 f29 h => ?_)
        replace h := h f29
        have o30 := h.1
        replace h := h.2
        refine r_iast (pc' := 98) (k := 85) C (by decide) kc_85 (by have := kl_85; omega) f29 dX13_putBlock_97 rfl ?_
        refine r_aload_n (pc' := 99) C 0 rfl rfl dX13_putBlock_98 rfl ?_
        refine r_dup (pc' := 100) C rfl dX13_putBlock_99 rfl ?_
        refine r_geti (pc' := 103) (k := 73) C fl_X13_352 (by decide) kc_73 (by decide) fr_13_16 dX13_putBlock_100 rfl (fun f31 => ?_)
        replace h := h f31
        refine r_iconst (pc' := 104) C dX13_putBlock_103 rfl ?_
        refine r_iadd (pc' := 105) C dX13_putBlock_104 rfl ?_
        have o32 := h.1
        replace h := h.2
        refine r_puti (pc' := 108) (k := 73) C fl_X13_352 (by decide) kc_73 (by decide) fr_13_16 o32 dX13_putBlock_105 rfl ?_
        refine r_aload_n (pc' := 109) C 0 rfl rfl dX13_putBlock_108 rfl ?_
        refine r_getr (pc' := 112) (k := 73) (r := 81) C fl_X13_37 (by decide) kc_73 (by decide) fr_13_12 RV_73_12 dX13_putBlock_109 rfl ?_
        refine r_iload_n (pc' := 113) C 1 rfl rfl dX13_putBlock_112 rfl ?_
        refine r_dup2 (pc' := 114) C rfl rfl dX13_putBlock_113 rfl ?_
        refine r_iald (pc' := 115) (k := 81) C (by decide) kc_81 (by have := kl_81; omega) dX13_putBlock_114 rfl (fun f33 => ?_)
        have ef33 : (up2 av28 85 ((iv 73 16).toNat) r26) 81 x1.toNat = (av28 81 x1.toNat) := by simp [up2]
        rw [ef33] at f33 ⊢
        replace h := h f33
        refine r_iconst (pc' := 116) C dX13_putBlock_115 rfl ?_
        refine r_iadd (pc' := 117) C dX13_putBlock_116 rfl ?_
        have o34 := h.1
        replace h := h.2
        refine r_iast (pc' := 118) (k := 81) C (by decide) kc_81 (by have := kl_81; omega) o34 dX13_putBlock_117 rfl ?_
        exact r_vret C ⟨rfl, rfl, h⟩ dX13_putBlock_118
      · replace h := h.2 c25
        refine r_iconst (pc' := 84) C dX13_putBlock_83 rfl ?_
        refine r_goto (tgt := 97) C dX13_putBlock_84 (by decide) ?_
        have o35 := h.1
        replace h := h.2
        refine r_iast (pc' := 98) (k := 85) C (by decide) kc_85 (by have := kl_85; omega) (by decide) dX13_putBlock_97 rfl ?_
        refine r_aload_n (pc' := 99) C 0 rfl rfl dX13_putBlock_98 rfl ?_
        refine r_dup (pc' := 100) C rfl dX13_putBlock_99 rfl ?_
        refine r_geti (pc' := 103) (k := 73) C fl_X13_352 (by decide) kc_73 (by decide) fr_13_16 dX13_putBlock_100 rfl (fun f36 => ?_)
        refine r_iconst (pc' := 104) C dX13_putBlock_103 rfl ?_
        refine r_iadd (pc' := 105) C dX13_putBlock_104 rfl ?_
        have o37 := h.1
        replace h := h.2
        refine r_puti (pc' := 108) (k := 73) C fl_X13_352 (by decide) kc_73 (by decide) fr_13_16 o37 dX13_putBlock_105 rfl ?_
        refine r_aload_n (pc' := 109) C 0 rfl rfl dX13_putBlock_108 rfl ?_
        refine r_getr (pc' := 112) (k := 73) (r := 81) C fl_X13_37 (by decide) kc_73 (by decide) fr_13_12 RV_73_12 dX13_putBlock_109 rfl ?_
        refine r_iload_n (pc' := 113) C 1 rfl rfl dX13_putBlock_112 rfl ?_
        refine r_dup2 (pc' := 114) C rfl rfl dX13_putBlock_113 rfl ?_
        refine r_iald (pc' := 115) (k := 81) C (by decide) kc_81 (by have := kl_81; omega) dX13_putBlock_114 rfl (fun f38 => ?_)
        have ef38 : (up2 (up2 av 84 x1.toNat ((av 84 x1.toNat) + x3)) 85 ((iv 73 16).toNat) 0) 81 x1.toNat = (av 81 x1.toNat) := by simp [up2]
        rw [ef38] at f38 ⊢
        replace h := h f38
        refine r_iconst (pc' := 116) C dX13_putBlock_115 rfl ?_
        refine r_iadd (pc' := 117) C dX13_putBlock_116 rfl ?_
        have o39 := h.1
        replace h := h.2
        refine r_iast (pc' := 118) (k := 81) C (by decide) kc_81 (by have := kl_81; omega) o39 dX13_putBlock_117 rfl ?_
        exact r_vret C ⟨rfl, rfl, h⟩ dX13_putBlock_118
  · replace h := h.2 c1
    refine r_iload (pc' := 14) C 4 rfl dX13_putBlock_12 rfl ?_
    refine r_if_eq (pc' := 17) (tgt := 42) C hx4 dX13_putBlock_14 (by decide) rfl (fun c40 => ?_) (fun c40 => ?_)
    · replace h := h.1 c40
      refine r_aload_n (pc' := 43) C 0 rfl rfl dX13_putBlock_42 rfl ?_
      refine r_getr (pc' := 46) (k := 73) (r := 84) C fl_X13_46 (by decide) kc_73 (by decide) fr_13_15 RV_73_15 dX13_putBlock_43 rfl ?_
      refine r_iload_n (pc' := 47) C 1 rfl rfl dX13_putBlock_46 rfl ?_
      refine r_iload (pc' := 49) C 4 rfl dX13_putBlock_47 rfl ?_
      refine r_if_eq (pc' := 52) (tgt := 63) C hx4 dX13_putBlock_49 (by decide) rfl (fun c41 => ?_) (fun c41 => ?_)
      · replace h := h.1 c41
        refine r_aload_n (pc' := 64) C 0 rfl rfl dX13_putBlock_63 rfl ?_
        refine r_getr (pc' := 67) (k := 73) (r := 84) C fl_X13_46 (by decide) kc_73 (by decide) fr_13_15 RV_73_15 dX13_putBlock_64 rfl ?_
        refine r_iload_n (pc' := 68) C 1 rfl rfl dX13_putBlock_67 rfl ?_
        have o42 := h.1
        replace h := h.2
        refine r_iald (pc' := 69) (k := 84) C (by decide) kc_84 (by have := kl_84; omega) dX13_putBlock_68 rfl (fun f43 => ?_)
        replace h := h f43
        refine r_iast (pc' := 70) (k := 84) C (by decide) kc_84 (by have := kl_84; omega) f43 dX13_putBlock_69 rfl ?_
        refine r_aload_n (pc' := 71) C 0 rfl rfl dX13_putBlock_70 rfl ?_
        refine r_getr (pc' := 74) (k := 73) (r := 85) C fl_X13_49 (by decide) kc_73 (by decide) fr_13_17 RV_73_17 dX13_putBlock_71 rfl ?_
        refine r_aload_n (pc' := 75) C 0 rfl rfl dX13_putBlock_74 rfl ?_
        refine r_geti (pc' := 78) (k := 73) C fl_X13_352 (by decide) kc_73 (by decide) fr_13_16 dX13_putBlock_75 rfl (fun f44 => ?_)
        replace h := h f44
        refine r_iload (pc' := 80) C 4 rfl dX13_putBlock_78 rfl ?_
        refine r_if_eq (pc' := 83) (tgt := 87) C hx4 dX13_putBlock_80 (by decide) rfl (fun c45 => ?_) (fun c45 => ?_)
        · replace h := h.1 c45
          refine r_aload_n (pc' := 88) C 0 rfl rfl dX13_putBlock_87 rfl ?_
          refine r_aload_n (pc' := 89) C 0 rfl rfl dX13_putBlock_88 rfl ?_
          refine r_getr (pc' := 92) (k := 73) (r := 77) C fl_X13_21 (by decide) kc_73 (by decide) fr_13_4 RV_73_4 dX13_putBlock_89 rfl ?_
          refine r_iload_n (pc' := 93) C 2 rfl rfl dX13_putBlock_92 rfl ?_
          refine r_iload_n (pc' := 94) C 3 rfl rfl dX13_putBlock_93 rfl ?_
          refine c_Vi (pc' := 97) (mt := mX13_store) (as := [.ref (gl_b Y + 77), .int (i32 x2), .int (i32 x3)]) (st := [.int (i32 (iv 73 16)), .ref (gl_b Y + 85)]) (k := 73) C h rfl cl_X13_store ml_X13_349 im_X13_store sl_X13_store (by omega) (Nat.le_refl _) (Nat.le_refl _) rfl (by decide) kc_73 (by decide) rfl rfl rfl (Nat.le_of_ble_eq_true rfl) dX13_putBlock_94 rfl (fun r46 iv47 av48 f49 h => ?_)
          replace h := h f49
          have o50 := h.1
          replace h := h.2
          refine r_iast (pc' := 98) (k := 85) C (by decide) kc_85 (by have := kl_85; omega) f49 dX13_putBlock_97 rfl ?_
          refine r_aload_n (pc' := 99) C 0 rfl rfl dX13_putBlock_98 rfl ?_
          refine r_dup (pc' := 100) C rfl dX13_putBlock_99 rfl ?_
          refine r_geti (pc' := 103) (k := 73) C fl_X13_352 (by decide) kc_73 (by decide) fr_13_16 dX13_putBlock_100 rfl (fun f51 => ?_)
          replace h := h f51
          refine r_iconst (pc' := 104) C dX13_putBlock_103 rfl ?_
          refine r_iadd (pc' := 105) C dX13_putBlock_104 rfl ?_
          have o52 := h.1
          replace h := h.2
          refine r_puti (pc' := 108) (k := 73) C fl_X13_352 (by decide) kc_73 (by decide) fr_13_16 o52 dX13_putBlock_105 rfl ?_
          refine r_aload_n (pc' := 109) C 0 rfl rfl dX13_putBlock_108 rfl ?_
          refine r_getr (pc' := 112) (k := 73) (r := 81) C fl_X13_37 (by decide) kc_73 (by decide) fr_13_12 RV_73_12 dX13_putBlock_109 rfl ?_
          refine r_iload_n (pc' := 113) C 1 rfl rfl dX13_putBlock_112 rfl ?_
          refine r_dup2 (pc' := 114) C rfl rfl dX13_putBlock_113 rfl ?_
          refine r_iald (pc' := 115) (k := 81) C (by decide) kc_81 (by have := kl_81; omega) dX13_putBlock_114 rfl (fun f53 => ?_)
          have ef53 : (up2 av48 85 ((iv 73 16).toNat) r46) 81 x1.toNat = (av48 81 x1.toNat) := by simp [up2]
          rw [ef53] at f53 ⊢
          replace h := h f53
          refine r_iconst (pc' := 116) C dX13_putBlock_115 rfl ?_
          refine r_iadd (pc' := 117) C dX13_putBlock_116 rfl ?_
          have o54 := h.1
          replace h := h.2
          refine r_iast (pc' := 118) (k := 81) C (by decide) kc_81 (by have := kl_81; omega) o54 dX13_putBlock_117 rfl ?_
          exact r_vret C ⟨rfl, rfl, h⟩ dX13_putBlock_118
        · replace h := h.2 c45
          refine r_iconst (pc' := 84) C dX13_putBlock_83 rfl ?_
          refine r_goto (tgt := 97) C dX13_putBlock_84 (by decide) ?_
          have o55 := h.1
          replace h := h.2
          refine r_iast (pc' := 98) (k := 85) C (by decide) kc_85 (by have := kl_85; omega) (by decide) dX13_putBlock_97 rfl ?_
          refine r_aload_n (pc' := 99) C 0 rfl rfl dX13_putBlock_98 rfl ?_
          refine r_dup (pc' := 100) C rfl dX13_putBlock_99 rfl ?_
          refine r_geti (pc' := 103) (k := 73) C fl_X13_352 (by decide) kc_73 (by decide) fr_13_16 dX13_putBlock_100 rfl (fun f56 => ?_)
          refine r_iconst (pc' := 104) C dX13_putBlock_103 rfl ?_
          refine r_iadd (pc' := 105) C dX13_putBlock_104 rfl ?_
          have o57 := h.1
          replace h := h.2
          refine r_puti (pc' := 108) (k := 73) C fl_X13_352 (by decide) kc_73 (by decide) fr_13_16 o57 dX13_putBlock_105 rfl ?_
          refine r_aload_n (pc' := 109) C 0 rfl rfl dX13_putBlock_108 rfl ?_
          refine r_getr (pc' := 112) (k := 73) (r := 81) C fl_X13_37 (by decide) kc_73 (by decide) fr_13_12 RV_73_12 dX13_putBlock_109 rfl ?_
          refine r_iload_n (pc' := 113) C 1 rfl rfl dX13_putBlock_112 rfl ?_
          refine r_dup2 (pc' := 114) C rfl rfl dX13_putBlock_113 rfl ?_
          refine r_iald (pc' := 115) (k := 81) C (by decide) kc_81 (by have := kl_81; omega) dX13_putBlock_114 rfl (fun f58 => ?_)
          have ef58 : (up2 (up2 av 84 x1.toNat (av 84 x1.toNat)) 85 ((iv 73 16).toNat) 0) 81 x1.toNat = (av 81 x1.toNat) := by simp [up2]
          rw [ef58] at f58 ⊢
          replace h := h f58
          refine r_iconst (pc' := 116) C dX13_putBlock_115 rfl ?_
          refine r_iadd (pc' := 117) C dX13_putBlock_116 rfl ?_
          have o59 := h.1
          replace h := h.2
          refine r_iast (pc' := 118) (k := 81) C (by decide) kc_81 (by have := kl_81; omega) o59 dX13_putBlock_117 rfl ?_
          exact r_vret C ⟨rfl, rfl, h⟩ dX13_putBlock_118
      · replace h := h.2 c41
        refine r_aload_n (pc' := 53) C 0 rfl rfl dX13_putBlock_52 rfl ?_
        refine r_getr (pc' := 56) (k := 73) (r := 84) C fl_X13_46 (by decide) kc_73 (by decide) fr_13_15 RV_73_15 dX13_putBlock_53 rfl ?_
        refine r_iload_n (pc' := 57) C 1 rfl rfl dX13_putBlock_56 rfl ?_
        have o60 := h.1
        replace h := h.2
        refine r_iald (pc' := 58) (k := 84) C (by decide) kc_84 (by have := kl_84; omega) dX13_putBlock_57 rfl (fun f61 => ?_)
        replace h := h f61
        refine r_iload_n (pc' := 59) C 3 rfl rfl dX13_putBlock_58 rfl ?_
        refine r_iadd (pc' := 60) C dX13_putBlock_59 rfl ?_
        refine r_goto (tgt := 69) C dX13_putBlock_60 (by decide) ?_
        have o62 := h.1
        replace h := h.2
        refine r_iast (pc' := 70) (k := 84) C (by decide) kc_84 (by have := kl_84; omega) o62 dX13_putBlock_69 rfl ?_
        refine r_aload_n (pc' := 71) C 0 rfl rfl dX13_putBlock_70 rfl ?_
        refine r_getr (pc' := 74) (k := 73) (r := 85) C fl_X13_49 (by decide) kc_73 (by decide) fr_13_17 RV_73_17 dX13_putBlock_71 rfl ?_
        refine r_aload_n (pc' := 75) C 0 rfl rfl dX13_putBlock_74 rfl ?_
        refine r_geti (pc' := 78) (k := 73) C fl_X13_352 (by decide) kc_73 (by decide) fr_13_16 dX13_putBlock_75 rfl (fun f63 => ?_)
        replace h := h f63
        refine r_iload (pc' := 80) C 4 rfl dX13_putBlock_78 rfl ?_
        refine r_if_eq (pc' := 83) (tgt := 87) C hx4 dX13_putBlock_80 (by decide) rfl (fun c64 => ?_) (fun c64 => ?_)
        · replace h := h.1 c64
          refine r_aload_n (pc' := 88) C 0 rfl rfl dX13_putBlock_87 rfl ?_
          refine r_aload_n (pc' := 89) C 0 rfl rfl dX13_putBlock_88 rfl ?_
          refine r_getr (pc' := 92) (k := 73) (r := 77) C fl_X13_21 (by decide) kc_73 (by decide) fr_13_4 RV_73_4 dX13_putBlock_89 rfl ?_
          refine r_iload_n (pc' := 93) C 2 rfl rfl dX13_putBlock_92 rfl ?_
          refine r_iload_n (pc' := 94) C 3 rfl rfl dX13_putBlock_93 rfl ?_
          refine c_Vi (pc' := 97) (mt := mX13_store) (as := [.ref (gl_b Y + 77), .int (i32 x2), .int (i32 x3)]) (st := [.int (i32 (iv 73 16)), .ref (gl_b Y + 85)]) (k := 73) C h rfl cl_X13_store ml_X13_349 im_X13_store sl_X13_store (by omega) (Nat.le_refl _) (Nat.le_refl _) rfl (by decide) kc_73 (by decide) rfl rfl rfl (Nat.le_of_ble_eq_true rfl) dX13_putBlock_94 rfl (fun r65 iv66 av67 f68 h => ?_)
          replace h := h f68
          have o69 := h.1
          replace h := h.2
          refine r_iast (pc' := 98) (k := 85) C (by decide) kc_85 (by have := kl_85; omega) f68 dX13_putBlock_97 rfl ?_
          refine r_aload_n (pc' := 99) C 0 rfl rfl dX13_putBlock_98 rfl ?_
          refine r_dup (pc' := 100) C rfl dX13_putBlock_99 rfl ?_
          refine r_geti (pc' := 103) (k := 73) C fl_X13_352 (by decide) kc_73 (by decide) fr_13_16 dX13_putBlock_100 rfl (fun f70 => ?_)
          replace h := h f70
          refine r_iconst (pc' := 104) C dX13_putBlock_103 rfl ?_
          refine r_iadd (pc' := 105) C dX13_putBlock_104 rfl ?_
          have o71 := h.1
          replace h := h.2
          refine r_puti (pc' := 108) (k := 73) C fl_X13_352 (by decide) kc_73 (by decide) fr_13_16 o71 dX13_putBlock_105 rfl ?_
          refine r_aload_n (pc' := 109) C 0 rfl rfl dX13_putBlock_108 rfl ?_
          refine r_getr (pc' := 112) (k := 73) (r := 81) C fl_X13_37 (by decide) kc_73 (by decide) fr_13_12 RV_73_12 dX13_putBlock_109 rfl ?_
          refine r_iload_n (pc' := 113) C 1 rfl rfl dX13_putBlock_112 rfl ?_
          refine r_dup2 (pc' := 114) C rfl rfl dX13_putBlock_113 rfl ?_
          refine r_iald (pc' := 115) (k := 81) C (by decide) kc_81 (by have := kl_81; omega) dX13_putBlock_114 rfl (fun f72 => ?_)
          have ef72 : (up2 av67 85 ((iv 73 16).toNat) r65) 81 x1.toNat = (av67 81 x1.toNat) := by simp [up2]
          rw [ef72] at f72 ⊢
          replace h := h f72
          refine r_iconst (pc' := 116) C dX13_putBlock_115 rfl ?_
          refine r_iadd (pc' := 117) C dX13_putBlock_116 rfl ?_
          have o73 := h.1
          replace h := h.2
          refine r_iast (pc' := 118) (k := 81) C (by decide) kc_81 (by have := kl_81; omega) o73 dX13_putBlock_117 rfl ?_
          exact r_vret C ⟨rfl, rfl, h⟩ dX13_putBlock_118
        · replace h := h.2 c64
          refine r_iconst (pc' := 84) C dX13_putBlock_83 rfl ?_
          refine r_goto (tgt := 97) C dX13_putBlock_84 (by decide) ?_
          have o74 := h.1
          replace h := h.2
          refine r_iast (pc' := 98) (k := 85) C (by decide) kc_85 (by have := kl_85; omega) (by decide) dX13_putBlock_97 rfl ?_
          refine r_aload_n (pc' := 99) C 0 rfl rfl dX13_putBlock_98 rfl ?_
          refine r_dup (pc' := 100) C rfl dX13_putBlock_99 rfl ?_
          refine r_geti (pc' := 103) (k := 73) C fl_X13_352 (by decide) kc_73 (by decide) fr_13_16 dX13_putBlock_100 rfl (fun f75 => ?_)
          refine r_iconst (pc' := 104) C dX13_putBlock_103 rfl ?_
          refine r_iadd (pc' := 105) C dX13_putBlock_104 rfl ?_
          have o76 := h.1
          replace h := h.2
          refine r_puti (pc' := 108) (k := 73) C fl_X13_352 (by decide) kc_73 (by decide) fr_13_16 o76 dX13_putBlock_105 rfl ?_
          refine r_aload_n (pc' := 109) C 0 rfl rfl dX13_putBlock_108 rfl ?_
          refine r_getr (pc' := 112) (k := 73) (r := 81) C fl_X13_37 (by decide) kc_73 (by decide) fr_13_12 RV_73_12 dX13_putBlock_109 rfl ?_
          refine r_iload_n (pc' := 113) C 1 rfl rfl dX13_putBlock_112 rfl ?_
          refine r_dup2 (pc' := 114) C rfl rfl dX13_putBlock_113 rfl ?_
          refine r_iald (pc' := 115) (k := 81) C (by decide) kc_81 (by have := kl_81; omega) dX13_putBlock_114 rfl (fun f77 => ?_)
          have ef77 : (up2 (up2 av 84 x1.toNat ((av 84 x1.toNat) + x3)) 85 ((iv 73 16).toNat) 0) 81 x1.toNat = (av 81 x1.toNat) := by simp [up2]
          rw [ef77] at f77 ⊢
          replace h := h f77
          refine r_iconst (pc' := 116) C dX13_putBlock_115 rfl ?_
          refine r_iadd (pc' := 117) C dX13_putBlock_116 rfl ?_
          have o78 := h.1
          replace h := h.2
          refine r_iast (pc' := 118) (k := 81) C (by decide) kc_81 (by have := kl_81; omega) o78 dX13_putBlock_117 rfl ?_
          exact r_vret C ⟨rfl, rfl, h⟩ dX13_putBlock_118
    · replace h := h.2 c40
      refine r_aload_n (pc' := 18) C 0 rfl rfl dX13_putBlock_17 rfl ?_
      refine r_getr (pc' := 21) (k := 73) (r := 77) C fl_X13_21 (by decide) kc_73 (by decide) fr_13_4 RV_73_4 dX13_putBlock_18 rfl ?_
      refine r_iload_n (pc' := 22) C 2 rfl rfl dX13_putBlock_21 rfl ?_
      refine r_iload (pc' := 24) C 5 rfl dX13_putBlock_22 rfl ?_
      refine r_iadd (pc' := 25) C dX13_putBlock_24 rfl ?_
      have o79 := h.1
      replace h := h.2
      refine r_bald (pc' := 26) (k := 77) C (by decide) kc_77 (by have := kl_77; omega) dX13_putBlock_25 rfl (fun f80 => ?_)
      replace h := h f80
      refine r_if_ne (pc' := 29) (tgt := 33) C (by omega) dX13_putBlock_26 (by decide) rfl (fun c81 => ?_) (fun c81 => ?_)
      · replace h := h.1 c81
        refine r_iconst (pc' := 34) C dX13_putBlock_33 rfl ?_
        refine r_istore (pc' := 36) (ls' := [(0, .ref (gl_b Y + 73)), (1, .int (i32 x1)), (2, .int (i32 x2)), (3, .int (i32 x3)), (4, .int (i32 0)), (5, .int (i32 x5))]) C (by decide) rfl dX13_putBlock_34 rfl ?_
        refine r_iinc (pc' := 39) (ls' := [(0, .ref (gl_b Y + 73)), (1, .int (i32 x1)), (2, .int (i32 x2)), (3, .int (i32 x3)), (4, .int (i32 0)), (5, .int (i32 (x5 + 1)))]) C 5 rfl (by decide) rfl dX13_putBlock_36 rfl ?_
        refine r_goto (tgt := 6) C dX13_putBlock_39 (by decide) ?_
        exact Wa.sub [0, 1, 2, 3, 4, 5] rfl h
      · replace h := h.2 c81
        refine r_iconst (pc' := 30) C dX13_putBlock_29 rfl ?_
        refine r_goto (tgt := 34) C dX13_putBlock_30 (by decide) ?_
        refine r_istore (pc' := 36) (ls' := [(0, .ref (gl_b Y + 73)), (1, .int (i32 x1)), (2, .int (i32 x2)), (3, .int (i32 x3)), (4, .int (i32 1)), (5, .int (i32 x5))]) C (by decide) rfl dX13_putBlock_34 rfl ?_
        refine r_iinc (pc' := 39) (ls' := [(0, .ref (gl_b Y + 73)), (1, .int (i32 x1)), (2, .int (i32 x2)), (3, .int (i32 x3)), (4, .int (i32 1)), (5, .int (i32 (x5 + 1)))]) C 5 rfl (by decide) rfl dX13_putBlock_36 rfl ?_
        refine r_goto (tgt := 6) C dX13_putBlock_39 (by decide) ?_
        exact Wa.sub [0, 1, 2, 3, 4, 5] rfl h
set_option maxHeartbeats 4000000 in
set_option maxRecDepth 100000 in
theorem o_X13_putBlock {Y : Gl} {e : Nat} {P : PN} {x1 : Int} {x2 : Int} {x3 : Int} {iv av : IVt} (h : ∀ X : Cx, CX Y X RX13 "putBlock" cX13_putBlock 6 none (e + 21) 0 0 →
    L_X13_putBlock_6 Y X P x1 x2 x3 1 0 iv av) : OkN Y (e + 21) mX13_putBlock [.ref (gl_b Y + 73), .int (i32 x1), .int (i32 x2), .int (i32 x3)] RV iv av 116 P := by
  refine OkW.of rfl (by show _ ≤ 6; exact Nat.le_of_ble_eq_true rfl) fun X C0 hR => ?_
  have C : CX Y X RX13 "putBlock" cX13_putBlock 6 none (e + 21) 0 0 := C0
  replace h := h X C
  show Wa Y X 6 (g_MQ Y X 0 (g_N RV 116 P) 0 0) 0 0 0 [(0, .ref (gl_b Y + 73)), (1, .int (i32 x1)), (2, .int (i32 x2)), (3, .int (i32 x3))] [] RV iv av 116
  refine r_iconst (pc' := 1) C dX13_putBlock_0 rfl ?_
  refine r_istore (pc' := 3) (ls' := [(0, .ref (gl_b Y + 73)), (1, .int (i32 x1)), (2, .int (i32 x2)), (3, .int (i32 x3)), (4, .int (i32 1))]) C (by decide) rfl dX13_putBlock_1 rfl ?_
  refine r_iconst (pc' := 4) C dX13_putBlock_3 rfl ?_
  refine r_istore (pc' := 6) (ls' := [(0, .ref (gl_b Y + 73)), (1, .int (i32 x1)), (2, .int (i32 x2)), (3, .int (i32 x3)), (4, .int (i32 1)), (5, .int (i32 0))]) C (by decide) rfl dX13_putBlock_4 rfl ?_
  exact Wa.sub [0, 1, 2, 3, 4, 5] rfl h
def L_X13_putFile_107 (Y : Gl) (X : Cx) (P : PN) (x1 : Int) (x2 : Int) (x3 : Int) (x4 : Int) (x5 : Int) (iv av : IVt) : Prop := Wa Y X 7 (g_MQ Y X 0 (g_N RV 116 P) 0 0) 0 0 107 [(0, .ref (gl_b Y + 73)), (1, .int (i32 x1)), (2, .int (i32 x2)), (3, .int (i32 x3)), (4, .int (i32 x4)), (5, .int (i32 x5))] [] RV iv av 116
def L_X13_putFile_217 (Y : Gl) (X : Cx) (P : PN) (x3 : Int) (x5 : Int) (x6 : Int) (iv av : IVt) : Prop := Wa Y X 7 (g_MQ Y X 0 (g_N RV 116 P) 0 0) 0 0 217 [(0, .ref (gl_b Y + 73)), (3, .int (i32 x3)), (5, .int (i32 x5)), (6, .int (i32 x6))] [] RV iv av 116
set_option maxHeartbeats 4000000 in
set_option maxRecDepth 100000 in
theorem w_X13_putFile_217 {Y : Gl} {X : Cx} {e : Nat} {P : PN} {x3 : Int} {x5 : Int} {x6 : Int} {iv av : IVt} (C : CX Y X RX13 "putFile" cX13_putFile 7 none (e + 22) 0 0) (hx3 : InR x3) (hx6 : InR x6) (h :
    ((x3 ≤ x6) →
      P 0 iv av
    ) ∧
    ((¬ x3 ≤ x6) →
      ((InR (iv 73 22)) →
        (0 ≤ (x5 + x6) ∧ (x5 + x6) < 65536) ∧
        ((-128 ≤ (av 77 (x5 + x6).toNat) ∧ (av 77 (x5 + x6).toNat) ≤ 127) →
          (0 ≤ (iv 73 22) ∧ (iv 73 22) < 65536) ∧
          (InR ((iv 73 22) + 1)) ∧
          L_X13_putFile_217 Y X P x3 x5 (x6 + 1) (up2 iv 73 22 ((iv 73 22) + 1)) (up2 av 88 ((iv 73 22).toNat) (bm8 (av 77 (x5 + x6).toNat)))
        )
      )
    )) : L_X13_putFile_217 Y X P x3 x5 x6 iv av := by
  unfold L_X13_putFile_217
  refine r_iload (pc' := 219) C 3 rfl dX13_putFile_217 rfl ?_
  refine r_iload_n (pc' := 220) C 1 rfl rfl dX13_putFile_219 rfl ?_
  refine r_icmp_ge (pc' := 223) (tgt := 258) C hx6 hx3 dX13_putFile_220 (by decide) rfl (fun c1 => ?_) (fun c1 => ?_)
  · replace h := h.1 c1
    exact r_vret C ⟨rfl, rfl, h⟩ dX13_putFile_258
  · replace h := h.2 c1
    refine r_aload_n (pc' := 224) C 0 rfl rfl dX13_putFile_223 rfl ?_
    refine r_getr (pc' := 227) (k := 73) (r := 88) C fl_X13_58 (by decide) kc_73 (by decide) fr_13_21 RV_73_21 dX13_putFile_224 rfl ?_
    refine r_aload_n (pc' := 228) C 0 rfl rfl dX13_putFile_227 rfl ?_
    refine r_geti (pc' := 231) (k := 73) C fl_X13_343 (by decide) kc_73 (by decide) fr_13_22 dX13_putFile_228 rfl (fun f2 => ?_)
    replace h := h f2
    refine r_aload_n (pc' := 232) C 0 rfl rfl dX13_putFile_231 rfl ?_
    refine r_getr (pc' := 235) (k := 73) (r := 77) C fl_X13_21 (by decide) kc_73 (by decide) fr_13_4 RV_73_4 dX13_putFile_232 rfl ?_
    refine r_iload (pc' := 237) C 2 rfl dX13_putFile_235 rfl ?_
    refine r_iload (pc' := 239) C 3 rfl dX13_putFile_237 rfl ?_
    refine r_iadd (pc' := 240) C dX13_putFile_239 rfl ?_
    have o3 := h.1
    replace h := h.2
    refine r_bald (pc' := 241) (k := 77) C (by decide) kc_77 (by have := kl_77; omega) dX13_putFile_240 rfl (fun f4 => ?_)
    replace h := h f4
    have o5 := h.1
    replace h := h.2
    refine r_bast (pc' := 242) (k := 88) C (by decide) kc_88 (by have := kl_88; omega) dX13_putFile_241 rfl ?_
    refine r_aload_n (pc' := 243) C 0 rfl rfl dX13_putFile_242 rfl ?_
    refine r_dup (pc' := 244) C rfl dX13_putFile_243 rfl ?_
    refine r_geti (pc' := 247) (k := 73) C fl_X13_343 (by decide) kc_73 (by decide) fr_13_22 dX13_putFile_244 rfl (fun f6 => ?_)
    refine r_iconst (pc' := 248) C dX13_putFile_247 rfl ?_
    refine r_iadd (pc' := 249) C dX13_putFile_248 rfl ?_
    have o7 := h.1
    replace h := h.2
    refine r_puti (pc' := 252) (k := 73) C fl_X13_343 (by decide) kc_73 (by decide) fr_13_22 o7 dX13_putFile_249 rfl ?_
    refine r_iinc (pc' := 255) (ls' := [(0, .ref (gl_b Y + 73)), (3, .int (i32 x3)), (5, .int (i32 x5)), (6, .int (i32 (x6 + 1)))]) C 3 rfl (by decide) rfl dX13_putFile_252 rfl ?_
    refine r_goto (tgt := 217) C dX13_putFile_255 (by decide) ?_
    exact Wa.sub [0, 1, 2, 3] rfl h
set_option maxHeartbeats 4000000 in
set_option maxRecDepth 100000 in
theorem w_X13_putFile_107 {Y : Gl} {X : Cx} {e : Nat} {P : PN} {x1 : Int} {x2 : Int} {x3 : Int} {x4 : Int} {x5 : Int} {iv av : IVt} (C : CX Y X RX13 "putFile" cX13_putFile 7 none (e + 22) 0 0) (hx1 : InR x1) (hx2 : InR x2) (hx3 : InR x3) (hx4 : InR x4) (hx5 : InR x5) (h :
    ((x2 ≤ x5) →
      (0 ≤ x1 ∧ x1 < 64) ∧
      ((InR (av 75 x1.toNat)) →
        ((InR (iv 73 6)) →
          ((x4 = 0) →
            ((x3 ≤ 0) →
              P 0 iv av
            ) ∧
            ((¬ x3 ≤ 0) →
              ((InR (iv 73 22)) →
                (InR ((iv 73 22) + x3)) ∧
                ((((iv 73 22) + x3) ≤ (iv 73 6)) →
                  ((InR (iv 73 18)) →
                    L_X13_putFile_217 Y X P x3 ((av 75 x1.toNat) + (x2 * (iv 73 6))) 0 iv (up2 (up2 av 82 x1.toNat (iv 73 18)) 83 x1.toNat (iv 73 22))
                  )
                ) ∧
                ((¬ ((iv 73 22) + x3) ≤ (iv 73 6)) →
                  OkN Y (e + 21) mX13_closeFragment [.ref (gl_b Y + 73)] RV iv av 116 (fun r13 iv14 av15 =>
                    ((InR (iv14 73 18)) →
                      ((InR (iv14 73 22)) →
                        L_X13_putFile_217 Y X P x3 ((av 75 x1.toNat) + (x2 * (iv 73 6))) 0 iv14 (up2 (up2 av15 82 x1.toNat (iv14 73 18)) 83 x1.toNat (iv14 73 22))
                      )
                    )
                  )
                )
              )
            )
          ) ∧
          ((¬ x4 = 0) →
            (InR ((av 75 x1.toNat) + (x2 * (iv 73 6)))) ∧
            OkN Y (e + 21) mX13_putBlock [.ref (gl_b Y + 73), .int (i32 x1), .int (i32 ((av 75 x1.toNat) + (x2 * (iv 73 6)))), .int (i32 x3)] RV iv av 116 (fun r20 iv21 av22 =>
              P 0 iv21 av22
            )
          )
        )
      )
    ) ∧
    ((¬ x2 ≤ x5) →
      (0 ≤ x1 ∧ x1 < 64) ∧
      ((InR (av 75 x1.toNat)) →
        ((InR (iv 73 6)) →
          (InR ((av 75 x1.toNat) + (x5 * (iv 73 6)))) ∧
          OkN Y (e + 21) mX13_putBlock [.ref (gl_b Y + 73), .int (i32 x1), .int (i32 ((av 75 x1.toNat) + (x5 * (iv 73 6)))), .int (i32 (iv 73 6))] RV iv av 116 (fun r29 iv30 av31 =>
            L_X13_putFile_107 Y X P x1 x2 x3 x4 (x5 + 1) iv30 av31
          )
        )
      )
    )) : L_X13_putFile_107 Y X P x1 x2 x3 x4 x5 iv av := by
  unfold L_X13_putFile_107
  refine r_iload (pc' := 109) C 5 rfl dX13_putFile_107 rfl ?_
  refine r_iload_n (pc' := 110) C 2 rfl rfl dX13_putFile_109 rfl ?_
  refine r_icmp_ge (pc' := 113) (tgt := 142) C hx5 hx2 dX13_putFile_110 (by decide) rfl (fun c1 => ?_) (fun c1 => ?_)
  · replace h := h.1 c1
    refine r_aload_n (pc' := 143) C 0 rfl rfl dX13_putFile_142 rfl ?_
    refine r_getr (pc' := 146) (k := 73) (r := 75) C fl_X13_13 (by decide) kc_73 (by decide) fr_13_2 RV_73_2 dX13_putFile_143 rfl ?_
    refine r_iload_n (pc' := 147) C 1 rfl rfl dX13_putFile_146 rfl ?_
    have o2 := h.1
    replace h := h.2
    refine r_iald (pc' := 148) (k := 75) C (by decide) kc_75 (by have := kl_75; omega) dX13_putFile_147 rfl (fun f3 => ?_)
    replace h := h f3
    refine r_iload_n (pc' := 149) C 2 rfl rfl dX13_putFile_148 rfl ?_
    refine r_aload_n (pc' := 150) C 0 rfl rfl dX13_putFile_149 rfl ?_
    refine r_geti (pc' := 153) (k := 73) C fl_X13_24 (by decide) kc_73 (by decide) fr_13_6 dX13_putFile_150 rfl (fun f4 => ?_)
    replace h := h f4
    refine r_imul (pc' := 154) C dX13_putFile_153 rfl ?_
    refine r_iadd (pc' := 155) C dX13_putFile_154 rfl ?_
    refine r_istore (pc' := 157) (ls' := [(0, .ref (gl_b Y + 73)), (1, .int (i32 x1)), (2, .int (i32 x2)), (3, .int (i32 x3)), (4, .int (i32 x4)), (5, .int (i32 ((av 75 x1.toNat) + (x2 * (iv 73 6)))))]) C (by decide) rfl dX13_putFile_155 rfl ?_
    refine r_iload (pc' := 159) C 4 rfl dX13_putFile_157 rfl ?_
    refine r_if_eq (pc' := 162) (tgt := 173) C hx4 dX13_putFile_159 (by decide) rfl (fun c5 => ?_) (fun c5 => ?_)
    · replace h := h.1 c5
      refine r_iload_n (pc' := 174) C 3 rfl rfl dX13_putFile_173 rfl ?_
      refine r_if_le (pc' := 177) (tgt := 258) C hx3 dX13_putFile_174 (by decide) rfl (fun c6 => ?_) (fun c6 => ?_)
      · replace h := h.1 c6
        exact r_vret C ⟨rfl, rfl, h⟩ dX13_putFile_258
      · replace h := h.2 c6
        refine r_aload_n (pc' := 178) C 0 rfl rfl dX13_putFile_177 rfl ?_
        refine r_geti (pc' := 181) (k := 73) C fl_X13_343 (by decide) kc_73 (by decide) fr_13_22 dX13_putFile_178 rfl (fun f7 => ?_)
        replace h := h f7
        refine r_iload_n (pc' := 182) C 3 rfl rfl dX13_putFile_181 rfl ?_
        refine r_iadd (pc' := 183) C dX13_putFile_182 rfl ?_
        refine r_aload_n (pc' := 184) C 0 rfl rfl dX13_putFile_183 rfl ?_
        refine r_geti (pc' := 187) (k := 73) C fl_X13_24 (by decide) kc_73 (by decide) fr_13_6 dX13_putFile_184 rfl (fun f8 => ?_)
        have o9 := h.1
        replace h := h.2
        refine r_icmp_le (pc' := 190) (tgt := 194) C o9 f4 dX13_putFile_187 (by decide) rfl (fun c10 => ?_) (fun c10 => ?_)
        · replace h := h.1 c10
          refine r_aload_n (pc' := 195) C 0 rfl rfl dX13_putFile_194 rfl ?_
          refine r_getr (pc' := 198) (k := 73) (r := 82) C fl_X13_40 (by decide) kc_73 (by decide) fr_13_13 RV_73_13 dX13_putFile_195 rfl ?_
          refine r_iload_n (pc' := 199) C 1 rfl rfl dX13_putFile_198 rfl ?_
          refine r_aload_n (pc' := 200) C 0 rfl rfl dX13_putFile_199 rfl ?_
          refine r_geti (pc' := 203) (k := 73) C fl_X13_346 (by decide) kc_73 (by decide) fr_13_18 dX13_putFile_200 rfl (fun f11 => ?_)
          replace h := h f11
          refine r_iast (pc' := 204) (k := 82) C (by decide) kc_82 (by have := kl_82; omega) f11 dX13_putFile_203 rfl ?_
          refine r_aload_n (pc' := 205) C 0 rfl rfl dX13_putFile_204 rfl ?_
          refine r_getr (pc' := 208) (k := 73) (r := 83) C fl_X13_43 (by decide) kc_73 (by decide) fr_13_14 RV_73_14 dX13_putFile_205 rfl ?_
          refine r_iload_n (pc' := 209) C 1 rfl rfl dX13_putFile_208 rfl ?_
          refine r_aload_n (pc' := 210) C 0 rfl rfl dX13_putFile_209 rfl ?_
          refine r_geti (pc' := 213) (k := 73) C fl_X13_343 (by decide) kc_73 (by decide) fr_13_22 dX13_putFile_210 rfl (fun f12 => ?_)
          refine r_iast (pc' := 214) (k := 83) C (by decide) kc_83 (by have := kl_83; omega) f7 dX13_putFile_213 rfl ?_
          refine r_iconst (pc' := 215) C dX13_putFile_214 rfl ?_
          refine r_istore (pc' := 217) (ls' := [(0, .ref (gl_b Y + 73)), (1, .int (i32 x1)), (2, .int (i32 x2)), (3, .int (i32 x3)), (4, .int (i32 x4)), (5, .int (i32 ((av 75 x1.toNat) + (x2 * (iv 73 6))))), (6, .int (i32 0))]) C (by decide) rfl dX13_putFile_215 rfl ?_
          exact Wa.sub [0, 3, 5, 6] rfl h
        · replace h := h.2 c10
          refine r_aload_n (pc' := 191) C 0 rfl rfl dX13_putFile_190 rfl ?_
          refine c_Vv (pc' := 194) (mt := mX13_closeFragment) (as := []) (st := []) (k := 73) C h rfl cl_X13_closeFragment ml_X13_361 im_X13_closeFragment sl_X13_closeFragment (by omega) (Nat.le_refl _) (Nat.le_refl _) rfl (by decide) kc_73 (by decide) rfl rfl rfl (Nat.le_of_ble_eq_true rfl) dX13_putFile_191 rfl (fun r13 iv14 av15 h => ?_)
          refine r_aload_n (pc' := 195) C 0 rfl rfl dX13_putFile_194 rfl ?_
          refine r_getr (pc' := 198) (k := 73) (r := 82) C fl_X13_40 (by decide) kc_73 (by decide) fr_13_13 RV_73_13 dX13_putFile_195 rfl ?_
          refine r_iload_n (pc' := 199) C 1 rfl rfl dX13_putFile_198 rfl ?_
          refine r_aload_n (pc' := 200) C 0 rfl rfl dX13_putFile_199 rfl ?_
          refine r_geti (pc' := 203) (k := 73) C fl_X13_346 (by decide) kc_73 (by decide) fr_13_18 dX13_putFile_200 rfl (fun f17 => ?_)
          replace h := h f17
          refine r_iast (pc' := 204) (k := 82) C (by decide) kc_82 (by have := kl_82; omega) f17 dX13_putFile_203 rfl ?_
          refine r_aload_n (pc' := 205) C 0 rfl rfl dX13_putFile_204 rfl ?_
          refine r_getr (pc' := 208) (k := 73) (r := 83) C fl_X13_43 (by decide) kc_73 (by decide) fr_13_14 RV_73_14 dX13_putFile_205 rfl ?_
          refine r_iload_n (pc' := 209) C 1 rfl rfl dX13_putFile_208 rfl ?_
          refine r_aload_n (pc' := 210) C 0 rfl rfl dX13_putFile_209 rfl ?_
          refine r_geti (pc' := 213) (k := 73) C fl_X13_343 (by decide) kc_73 (by decide) fr_13_22 dX13_putFile_210 rfl (fun f18 => ?_)
          replace h := h f18
          refine r_iast (pc' := 214) (k := 83) C (by decide) kc_83 (by have := kl_83; omega) f18 dX13_putFile_213 rfl ?_
          refine r_iconst (pc' := 215) C dX13_putFile_214 rfl ?_
          refine r_istore (pc' := 217) (ls' := [(0, .ref (gl_b Y + 73)), (1, .int (i32 x1)), (2, .int (i32 x2)), (3, .int (i32 x3)), (4, .int (i32 x4)), (5, .int (i32 ((av 75 x1.toNat) + (x2 * (iv 73 6))))), (6, .int (i32 0))]) C (by decide) rfl dX13_putFile_215 rfl ?_
          exact Wa.sub [0, 3, 5, 6] rfl h
    · replace h := h.2 c5
      refine r_aload_n (pc' := 163) C 0 rfl rfl dX13_putFile_162 rfl ?_
      refine r_iload_n (pc' := 164) C 1 rfl rfl dX13_putFile_163 rfl ?_
      refine r_iload (pc' := 166) C 5 rfl dX13_putFile_164 rfl ?_
      refine r_iload_n (pc' := 167) C 3 rfl rfl dX13_putFile_166 rfl ?_
      have o19 := h.1
      replace h := h.2
      refine c_Vv (pc' := 170) (mt := mX13_putBlock) (as := [.int (i32 x1), .int (i32 ((av 75 x1.toNat) + (x2 * (iv 73 6)))), .int (i32 x3)]) (st := []) (k := 73) C h rfl cl_X13_putBlock ml_X13_358 im_X13_putBlock sl_X13_putBlock (by omega) (Nat.le_refl _) (Nat.le_refl _) rfl (by decide) kc_73 (by decide) rfl rfl rfl (Nat.le_of_ble_eq_true rfl) dX13_putFile_167 rfl (fun r20 iv21 av22 h => ?_)
      refine r_goto (tgt := 258) C dX13_putFile_170 (by decide) ?_
      exact r_vret C ⟨rfl, rfl, h⟩ dX13_putFile_258
  · replace h := h.2 c1
    refine r_aload_n (pc' := 114) C 0 rfl rfl dX13_putFile_113 rfl ?_
    refine r_iload_n (pc' := 115) C 1 rfl rfl dX13_putFile_114 rfl ?_
    refine r_aload_n (pc' := 116) C 0 rfl rfl dX13_putFile_115 rfl ?_
    refine r_getr (pc' := 119) (k := 73) (r := 75) C fl_X13_13 (by decide) kc_73 (by decide) fr_13_2 RV_73_2 dX13_putFile_116 rfl ?_
    refine r_iload_n (pc' := 120) C 1 rfl rfl dX13_putFile_119 rfl ?_
    have o24 := h.1
    replace h := h.2
    refine r_iald (pc' := 121) (k := 75) C (by decide) kc_75 (by have := kl_75; omega) dX13_putFile_120 rfl (fun f25 => ?_)
    replace h := h f25
    refine r_iload (pc' := 123) C 5 rfl dX13_putFile_121 rfl ?_
    refine r_aload_n (pc' := 124) C 0 rfl rfl dX13_putFile_123 rfl ?_
    refine r_geti (pc' := 127) (k := 73) C fl_X13_24 (by decide) kc_73 (by decide) fr_13_6 dX13_putFile_124 rfl (fun f26 => ?_)
    replace h := h f26
    refine r_imul (pc' := 128) C dX13_putFile_127 rfl ?_
    refine r_iadd (pc' := 129) C dX13_putFile_128 rfl ?_
    refine r_aload_n (pc' := 130) C 0 rfl rfl dX13_putFile_129 rfl ?_
    refine r_geti (pc' := 133) (k := 73) C fl_X13_24 (by decide) kc_73 (by decide) fr_13_6 dX13_putFile_130 rfl (fun f27 => ?_)
    have o28 := h.1
    replace h := h.2
    refine c_Vv (pc' := 136) (mt := mX13_putBlock) (as := [.int (i32 x1), .int (i32 ((av 75 x1.toNat) + (x5 * (iv 73 6)))), .int (i32 (iv 73 6))]) (st := []) (k := 73) C h rfl cl_X13_putBlock ml_X13_358 im_X13_putBlock sl_X13_putBlock (by omega) (Nat.le_refl _) (Nat.le_refl _) rfl (by decide) kc_73 (by decide) rfl rfl rfl (Nat.le_of_ble_eq_true rfl) dX13_putFile_133 rfl (fun r29 iv30 av31 h => ?_)
    refine r_iinc (pc' := 139) (ls' := [(0, .ref (gl_b Y + 73)), (1, .int (i32 x1)), (2, .int (i32 x2)), (3, .int (i32 x3)), (4, .int (i32 x4)), (5, .int (i32 (x5 + 1)))]) C 5 rfl (by decide) rfl dX13_putFile_136 rfl ?_
    refine r_goto (tgt := 107) C dX13_putFile_139 (by decide) ?_
    exact Wa.sub [0, 1, 2, 3, 4, 5] rfl h
set_option maxHeartbeats 4000000 in
set_option maxRecDepth 100000 in
theorem o_X13_putFile {Y : Gl} {e : Nat} {P : PN} {x1 : Int} {iv av : IVt} (h : ∀ X : Cx, CX Y X RX13 "putFile" cX13_putFile 7 none (e + 22) 0 0 →
    (0 ≤ x1 ∧ x1 < 64) ∧
    ((InR (av 76 x1.toNat)) →
      ((InR (iv 73 6)) →
        (0 ≤ (av 76 x1.toNat)) ∧
        (0 < (iv 73 6)) ∧
        ((InR (iv 73 8)) →
          ((¬ (iv 73 8) = 0) →
            ((InR (iv 73 16)) →
              (InR ((av 76 x1.toNat) / (iv 73 6))) ∧
              ((0 < ((av 76 x1.toNat) / (iv 73 6))) →
                ((InR (iv 73 23)) →
                  L_X13_putFile_107 Y X P x1 ((av 76 x1.toNat) / (iv 73 6)) ((av 76 x1.toNat) % (iv 73 6)) 0 0 iv (up2 (up2 (up2 (up2 (up2 (up2 av 80 x1.toNat (iv 73 16)) 81 x1.toNat 0) 84 x1.toNat 0) 79 x1.toNat (iv 73 23)) 82 x1.toNat (-2)) 83 x1.toNat 0)
                )
              ) ∧
              ((¬ 0 < ((av 76 x1.toNat) / (iv 73 6))) →
                L_X13_putFile_107 Y X P x1 ((av 76 x1.toNat) / (iv 73 6)) ((av 76 x1.toNat) % (iv 73 6)) 0 0 iv (up2 (up2 (up2 (up2 (up2 (up2 av 80 x1.toNat (iv 73 16)) 81 x1.toNat 0) 84 x1.toNat 0) 79 x1.toNat 0) 82 x1.toNat (-2)) 83 x1.toNat 0)
              )
            )
          ) ∧
          (((iv 73 8) = 0) →
            (InR ((av 76 x1.toNat) % (iv 73 6))) ∧
            ((((av 76 x1.toNat) % (iv 73 6)) ≤ 0) →
              ((InR (iv 73 16)) →
                (InR ((av 76 x1.toNat) / (iv 73 6))) ∧
                ((0 < ((av 76 x1.toNat) / (iv 73 6))) →
                  ((InR (iv 73 23)) →
                    L_X13_putFile_107 Y X P x1 ((av 76 x1.toNat) / (iv 73 6)) ((av 76 x1.toNat) % (iv 73 6)) 0 0 iv (up2 (up2 (up2 (up2 (up2 (up2 av 80 x1.toNat (iv 73 16)) 81 x1.toNat 0) 84 x1.toNat 0) 79 x1.toNat (iv 73 23)) 82 x1.toNat (-2)) 83 x1.toNat 0)
                  )
                ) ∧
                ((¬ 0 < ((av 76 x1.toNat) / (iv 73 6))) →
                  L_X13_putFile_107 Y X P x1 ((av 76 x1.toNat) / (iv 73 6)) ((av 76 x1.toNat) % (iv 73 6)) 0 0 iv (up2 (up2 (up2 (up2 (up2 (up2 av 80 x1.toNat (iv 73 16)) 81 x1.toNat 0) 84 x1.toNat 0) 79 x1.toNat 0) 82 x1.toNat (-2)) 83 x1.toNat 0)
                )
              )
            ) ∧
            ((¬ ((av 76 x1.toNat) % (iv 73 6)) ≤ 0) →
              ((InR (iv 73 16)) →
                (InR ((av 76 x1.toNat) / (iv 73 6))) ∧
                ((0 < ((av 76 x1.toNat) / (iv 73 6))) →
                  ((InR (iv 73 23)) →
                    L_X13_putFile_107 Y X P x1 ((av 76 x1.toNat) / (iv 73 6)) ((av 76 x1.toNat) % (iv 73 6)) 1 0 iv (up2 (up2 (up2 (up2 (up2 (up2 av 80 x1.toNat (iv 73 16)) 81 x1.toNat 0) 84 x1.toNat 0) 79 x1.toNat (iv 73 23)) 82 x1.toNat (-2)) 83 x1.toNat 0)
                  )
                ) ∧
                ((¬ 0 < ((av 76 x1.toNat) / (iv 73 6))) →
                  ((InR (iv 73 23)) →
                    L_X13_putFile_107 Y X P x1 ((av 76 x1.toNat) / (iv 73 6)) ((av 76 x1.toNat) % (iv 73 6)) 1 0 iv (up2 (up2 (up2 (up2 (up2 (up2 av 80 x1.toNat (iv 73 16)) 81 x1.toNat 0) 84 x1.toNat 0) 79 x1.toNat (iv 73 23)) 82 x1.toNat (-2)) 83 x1.toNat 0)
                  )
                )
              )
            )
          )
        )
      )
    )) : OkN Y (e + 22) mX13_putFile [.ref (gl_b Y + 73), .int (i32 x1)] RV iv av 116 P := by
  refine OkW.of rfl (by show _ ≤ 7; exact Nat.le_of_ble_eq_true rfl) fun X C0 hR => ?_
  have C : CX Y X RX13 "putFile" cX13_putFile 7 none (e + 22) 0 0 := C0
  replace h := h X C
  show Wa Y X 7 (g_MQ Y X 0 (g_N RV 116 P) 0 0) 0 0 0 [(0, .ref (gl_b Y + 73)), (1, .int (i32 x1))] [] RV iv av 116
  refine r_aload_n (pc' := 1) C 0 rfl rfl dX13_putFile_0 rfl ?_
  refine r_getr (pc' := 4) (k := 73) (r := 76) C fl_X13_17 (by decide) kc_73 (by decide) fr_13_3 RV_73_3 dX13_putFile_1 rfl ?_
  refine r_iload_n (pc' := 5) C 1 rfl rfl dX13_putFile_4 rfl ?_
  have o1 := h.1
  replace h := h.2
  refine r_iald (pc' := 6) (k := 76) C (by decide) kc_76 (by have := kl_76; omega) dX13_putFile_5 rfl (fun f2 => ?_)
  replace h := h f2
  refine r_aload_n (pc' := 7) C 0 rfl rfl dX13_putFile_6 rfl ?_
  refine r_geti (pc' := 10) (k := 73) C fl_X13_24 (by decide) kc_73 (by decide) fr_13_6 dX13_putFile_7 rfl (fun f3 => ?_)
  replace h := h f3
  have o4 := h.1
  replace h := h.2
  have o5 := h.1
  replace h := h.2
  refine r_idiv (pc' := 11) C ⟨o4, f2⟩ ⟨o5, f3⟩ dX13_putFile_10 rfl ?_
  refine r_istore_n (pc' := 12) (ls' := [(0, .ref (gl_b Y + 73)), (1, .int (i32 x1)), (2, .int (i32 ((av 76 x1.toNat) / (iv 73 6))))]) C (by decide) rfl rfl dX13_putFile_11 rfl ?_
  refine r_aload_n (pc' := 13) C 0 rfl rfl dX13_putFile_12 rfl ?_
  refine r_getr (pc' := 16) (k := 73) (r := 76) C fl_X13_17 (by decide) kc_73 (by decide) fr_13_3 RV_73_3 dX13_putFile_13 rfl ?_
  refine r_iload_n (pc' := 17) C 1 rfl rfl dX13_putFile_16 rfl ?_
  refine r_iald (pc' := 18) (k := 76) C (by decide) kc_76 (by have := kl_76; omega) dX13_putFile_17 rfl (fun f6 => ?_)
  refine r_aload_n (pc' := 19) C 0 rfl rfl dX13_putFile_18 rfl ?_
  refine r_geti (pc' := 22) (k := 73) C fl_X13_24 (by decide) kc_73 (by decide) fr_13_6 dX13_putFile_19 rfl (fun f7 => ?_)
  refine r_irem (pc' := 23) C ⟨o4, f2⟩ ⟨o5, f3⟩ dX13_putFile_22 rfl ?_
  refine r_istore_n (pc' := 24) (ls' := [(0, .ref (gl_b Y + 73)), (1, .int (i32 x1)), (2, .int (i32 ((av 76 x1.toNat) / (iv 73 6)))), (3, .int (i32 ((av 76 x1.toNat) % (iv 73 6))))]) C (by decide) rfl rfl dX13_putFile_23 rfl ?_
  refine r_aload_n (pc' := 25) C 0 rfl rfl dX13_putFile_24 rfl ?_
  refine r_geti (pc' := 28) (k := 73) C fl_X13_355 (by decide) kc_73 (by decide) fr_13_8 dX13_putFile_25 rfl (fun f8 => ?_)
  replace h := h f8
  refine r_if_ne (pc' := 31) (tgt := 39) C f8 dX13_putFile_28 (by decide) rfl (fun c9 => ?_) (fun c9 => ?_)
  · replace h := h.1 c9
    refine r_iconst (pc' := 40) C dX13_putFile_39 rfl ?_
    refine r_istore (pc' := 42) (ls' := [(0, .ref (gl_b Y + 73)), (1, .int (i32 x1)), (2, .int (i32 ((av 76 x1.toNat) / (iv 73 6)))), (3, .int (i32 ((av 76 x1.toNat) % (iv 73 6)))), (4, .int (i32 0))]) C (by decide) rfl dX13_putFile_40 rfl ?_
    refine r_aload_n (pc' := 43) C 0 rfl rfl dX13_putFile_42 rfl ?_
    refine r_getr (pc' := 46) (k := 73) (r := 80) C fl_X13_34 (by decide) kc_73 (by decide) fr_13_11 RV_73_11 dX13_putFile_43 rfl ?_
    refine r_iload_n (pc' := 47) C 1 rfl rfl dX13_putFile_46 rfl ?_
    refine r_aload_n (pc' := 48) C 0 rfl rfl dX13_putFile_47 rfl ?_
    refine r_geti (pc' := 51) (k := 73) C fl_X13_352 (by decide) kc_73 (by decide) fr_13_16 dX13_putFile_48 rfl (fun f10 => ?_)
    replace h := h f10
    refine r_iast (pc' := 52) (k := 80) C (by decide) kc_80 (by have := kl_80; omega) f10 dX13_putFile_51 rfl ?_
    refine r_aload_n (pc' := 53) C 0 rfl rfl dX13_putFile_52 rfl ?_
    refine r_getr (pc' := 56) (k := 73) (r := 81) C fl_X13_37 (by decide) kc_73 (by decide) fr_13_12 RV_73_12 dX13_putFile_53 rfl ?_
    refine r_iload_n (pc' := 57) C 1 rfl rfl dX13_putFile_56 rfl ?_
    refine r_iconst (pc' := 58) C dX13_putFile_57 rfl ?_
    refine r_iast (pc' := 59) (k := 81) C (by decide) kc_81 (by have := kl_81; omega) (by decide) dX13_putFile_58 rfl ?_
    refine r_aload_n (pc' := 60) C 0 rfl rfl dX13_putFile_59 rfl ?_
    refine r_getr (pc' := 63) (k := 73) (r := 84) C fl_X13_46 (by decide) kc_73 (by decide) fr_13_15 RV_73_15 dX13_putFile_60 rfl ?_
    refine r_iload_n (pc' := 64) C 1 rfl rfl dX13_putFile_63 rfl ?_
    refine r_iconst (pc' := 65) C dX13_putFile_64 rfl ?_
    refine r_iast (pc' := 66) (k := 84) C (by decide) kc_84 (by have := kl_84; omega) (by decide) dX13_putFile_65 rfl ?_
    refine r_aload_n (pc' := 67) C 0 rfl rfl dX13_putFile_66 rfl ?_
    refine r_getr (pc' := 70) (k := 73) (r := 79) C fl_X13_31 (by decide) kc_73 (by decide) fr_13_10 RV_73_10 dX13_putFile_67 rfl ?_
    refine r_iload_n (pc' := 71) C 1 rfl rfl dX13_putFile_70 rfl ?_
    refine r_iload_n (pc' := 72) C 2 rfl rfl dX13_putFile_71 rfl ?_
    have o11 := h.1
    replace h := h.2
    refine r_if_gt (pc' := 75) (tgt := 80) C o11 dX13_putFile_72 (by decide) rfl (fun c12 => ?_) (fun c12 => ?_)
    · replace h := h.1 c12
      refine r_aload_n (pc' := 81) C 0 rfl rfl dX13_putFile_80 rfl ?_
      refine r_geti (pc' := 84) (k := 73) C fl_X13_329 (by decide) kc_73 (by decide) fr_13_23 dX13_putFile_81 rfl (fun f13 => ?_)
      replace h := h f13
      refine r_goto (tgt := 88) C dX13_putFile_84 (by decide) ?_
      refine r_iast (pc' := 89) (k := 79) C (by decide) kc_79 (by have := kl_79; omega) f13 dX13_putFile_88 rfl ?_
      refine r_aload_n (pc' := 90) C 0 rfl rfl dX13_putFile_89 rfl ?_
      refine r_getr (pc' := 93) (k := 73) (r := 82) C fl_X13_40 (by decide) kc_73 (by decide) fr_13_13 RV_73_13 dX13_putFile_90 rfl ?_
      refine r_iload_n (pc' := 94) C 1 rfl rfl dX13_putFile_93 rfl ?_
      refine r_bipush (pc' := 96) C dX13_putFile_94 (by decide) rfl ?_
      refine r_iast (pc' := 97) (k := 82) C (by decide) kc_82 (by have := kl_82; omega) (by decide) dX13_putFile_96 rfl ?_
      refine r_aload_n (pc' := 98) C 0 rfl rfl dX13_putFile_97 rfl ?_
      refine r_getr (pc' := 101) (k := 73) (r := 83) C fl_X13_43 (by decide) kc_73 (by decide) fr_13_14 RV_73_14 dX13_putFile_98 rfl ?_
      refine r_iload_n (pc' := 102) C 1 rfl rfl dX13_putFile_101 rfl ?_
      refine r_iconst (pc' := 103) C dX13_putFile_102 rfl ?_
      refine r_iast (pc' := 104) (k := 83) C (by decide) kc_83 (by have := kl_83; omega) (by decide) dX13_putFile_103 rfl ?_
      refine r_iconst (pc' := 105) C dX13_putFile_104 rfl ?_
      refine r_istore (pc' := 107) (ls' := [(0, .ref (gl_b Y + 73)), (1, .int (i32 x1)), (2, .int (i32 ((av 76 x1.toNat) / (iv 73 6)))), (3, .int (i32 ((av 76 x1.toNat) % (iv 73 6)))), (4, .int (i32 0)), (5, .int (i32 0))]) C (by decide) rfl dX13_putFile_105 rfl ?_
      exact Wa.sub [0, 1, 2, 3, 4, 5] rfl h
    · replace h := h.2 c12
      refine r_iload (pc' := 77) C 4 rfl dX13_putFile_75 rfl ?_
      refine r_if_eq (pc' := 80) (tgt := 87) C (by decide) dX13_putFile_77 (by decide) rfl (fun _ => ?_) (fun z => absurd z (by decide))
      refine r_iconst (pc' := 88) C dX13_putFile_87 rfl ?_
      refine r_iast (pc' := 89) (k := 79) C (by decide) kc_79 (by have := kl_79; omega) (by decide) dX13_putFile_88 rfl ?_
      refine r_aload_n (pc' := 90) C 0 rfl rfl dX13_putFile_89 rfl ?_
      refine r_getr (pc' := 93) (k := 73) (r := 82) C fl_X13_40 (by decide) kc_73 (by decide) fr_13_13 RV_73_13 dX13_putFile_90 rfl ?_
      refine r_iload_n (pc' := 94) C 1 rfl rfl dX13_putFile_93 rfl ?_
      refine r_bipush (pc' := 96) C dX13_putFile_94 (by decide) rfl ?_
      refine r_iast (pc' := 97) (k := 82) C (by decide) kc_82 (by have := kl_82; omega) (by decide) dX13_putFile_96 rfl ?_
      refine r_aload_n (pc' := 98) C 0 rfl rfl dX13_putFile_97 rfl ?_
      refine r_getr (pc' := 101) (k := 73) (r := 83) C fl_X13_43 (by decide) kc_73 (by decide) fr_13_14 RV_73_14 dX13_putFile_98 rfl ?_
      refine r_iload_n (pc' := 102) C 1 rfl rfl dX13_putFile_101 rfl ?_
      refine r_iconst (pc' := 103) C dX13_putFile_102 rfl ?_
      refine r_iast (pc' := 104) (k := 83) C (by decide) kc_83 (by have := kl_83; omega) (by decide) dX13_putFile_103 rfl ?_
      refine r_iconst (pc' := 105) C dX13_putFile_104 rfl ?_
      refine r_istore (pc' := 107) (ls' := [(0, .ref (gl_b Y + 73)), (1, .int (i32 x1)), (2, .int (i32 ((av 76 x1.toNat) / (iv 73 6)))), (3, .int (i32 ((av 76 x1.toNat) % (iv 73 6)))), (4, .int (i32 0)), (5, .int (i32 0))]) C (by decide) rfl dX13_putFile_105 rfl ?_
      exact Wa.sub [0, 1, 2, 3, 4, 5] rfl h
  · replace h := h.2 c9
    refine r_iload_n (pc' := 32) C 3 rfl rfl dX13_putFile_31 rfl ?_
    have o14 := h.1
    replace h := h.2
    refine r_if_le (pc' := 35) (tgt := 39) C o14 dX13_putFile_32 (by decide) rfl (fun c15 => ?_) (fun c15 => ?_)
    · replace h := h.1 c15
      refine r_iconst (pc' := 40) C dX13_putFile_39 rfl ?_
      refine r_istore (pc' := 42) (ls' := [(0, .ref (gl_b Y + 73)), (1, .int (i32 x1)), (2, .int (i32 ((av 76 x1.toNat) / (iv 73 6)))), (3, .int (i32 ((av 76 x1.toNat) % (iv 73 6)))), (4, .int (i32 0))]) C (by decide) rfl dX13_putFile_40 rfl ?_
      refine r_aload_n (pc' := 43) C 0 rfl rfl dX13_putFile_42 rfl ?_
      refine r_getr (pc' := 46) (k := 73) (r := 80) C fl_X13_34 (by decide) kc_73 (by decide) fr_13_11 RV_73_11 dX13_putFile_43 rfl ?_
      refine r_iload_n (pc' := 47) C 1 rfl rfl dX13_putFile_46 rfl ?_
      refine r_aload_n (pc' := 48) C 0 rfl rfl dX13_putFile_47 rfl ?_
      refine r_geti (pc' := 51) (k := 73) C fl_X13_352 (by decide) kc_73 (by decide) fr_13_16 dX13_putFile_48 rfl (fun f16 => ?_)
      replace h := h f16
      refine r_iast (pc' := 52) (k := 80) C (by decide) kc_80 (by have := kl_80; omega) f16 dX13_putFile_51 rfl ?_
      refine r_aload_n (pc' := 53) C 0 rfl rfl dX13_putFile_52 rfl ?_
      refine r_getr (pc' := 56) (k := 73) (r := 81) C fl_X13_37 (by decide) kc_73 (by decide) fr_13_12 RV_73_12 dX13_putFile_53 rfl ?_
      refine r_iload_n (pc' := 57) C 1 rfl rfl dX13_putFile_56 rfl ?_
      refine r_iconst (pc' := 58) C dX13_putFile_57 rfl ?_
      refine r_iast (pc' := 59) (k := 81) C (by decide) kc_81 (by have := kl_81; omega) (by decide) dX13_putFile_58 rfl ?_
      refine r_aload_n (pc' := 60) C 0 rfl rfl dX13_putFile_59 rfl ?_
      refine r_getr (pc' := 63) (k := 73) (r := 84) C fl_X13_46 (by decide) kc_73 (by decide) fr_13_15 RV_73_15 dX13_putFile_60 rfl ?_
      refine r_iload_n (pc' := 64) C 1 rfl rfl dX13_putFile_63 rfl ?_
      refine r_iconst (pc' := 65) C dX13_putFile_64 rfl ?_
      refine r_iast (pc' := 66) (k := 84) C (by decide) kc_84 (by have := kl_84; omega) (by decide) dX13_putFile_65 rfl ?_
      refine r_aload_n (pc' := 67) C 0 rfl rfl dX13_putFile_66 rfl ?_
      refine r_getr (pc' := 70) (k := 73) (r := 79) C fl_X13_31 (by decide) kc_73 (by decide) fr_13_10 RV_73_10 dX13_putFile_67 rfl ?_
      refine r_iload_n (pc' := 71) C 1 rfl rfl dX13_putFile_70 rfl ?_
      refine r_iload_n (pc' := 72) C 2 rfl rfl dX13_putFile_71 rfl ?_
      have o17 := h.1
      replace h := h.2
      refine r_if_gt (pc' := 75) (tgt := 80) C o17 dX13_putFile_72 (by decide) rfl (fun c18 => ?_) (fun c18 => ?_)
      · replace h := h.1 c18
        refine r_aload_n (pc' := 81) C 0 rfl rfl dX13_putFile_80 rfl ?_
        refine r_geti (pc' := 84) (k := 73) C fl_X13_329 (by decide) kc_73 (by decide) fr_13_23 dX13_putFile_81 rfl (fun f19 => ?_)
        replace h := h f19
        refine r_goto (tgt := 88) C dX13_putFile_84 (by decide) ?_
        refine r_iast (pc' := 89) (k := 79) C (by decide) kc_79 (by have := kl_79; omega) f19 dX13_putFile_88 rfl ?_
        refine r_aload_n (pc' := 90) C 0 rfl rfl dX13_putFile_89 rfl ?_
        refine r_getr (pc' := 93) (k := 73) (r := 82) C fl_X13_40 (by decide) kc_73 (by decide) fr_13_13 RV_73_13 dX13_putFile_90 rfl ?_
        refine r_iload_n (pc' := 94) C 1 rfl rfl dX13_putFile_93 rfl ?_
        refine r_bipush (pc' := 96) C dX13_putFile_94 (by decide) rfl ?_
        refine r_iast (pc' := 97) (k := 82) C (by decide) kc_82 (by have := kl_82; omega) (by decide) dX13_putFile_96 rfl ?_
        refine r_aload_n (pc' := 98) C 0 rfl rfl dX13_putFile_97 rfl ?_
        refine r_getr (pc' := 101) (k := 73) (r := 83) C fl_X13_43 (by decide) kc_73 (by decide) fr_13_14 RV_73_14 dX13_putFile_98 rfl ?_
        refine r_iload_n (pc' := 102) C 1 rfl rfl dX13_putFile_101 rfl ?_
        refine r_iconst (pc' := 103) C dX13_putFile_102 rfl ?_
        refine r_iast (pc' := 104) (k := 83) C (by decide) kc_83 (by have := kl_83; omega) (by decide) dX13_putFile_103 rfl ?_
        refine r_iconst (pc' := 105) C dX13_putFile_104 rfl ?_
        refine r_istore (pc' := 107) (ls' := [(0, .ref (gl_b Y + 73)), (1, .int (i32 x1)), (2, .int (i32 ((av 76 x1.toNat) / (iv 73 6)))), (3, .int (i32 ((av 76 x1.toNat) % (iv 73 6)))), (4, .int (i32 0)), (5, .int (i32 0))]) C (by decide) rfl dX13_putFile_105 rfl ?_
        exact Wa.sub [0, 1, 2, 3, 4, 5] rfl h
      · replace h := h.2 c18
        refine r_iload (pc' := 77) C 4 rfl dX13_putFile_75 rfl ?_
        refine r_if_eq (pc' := 80) (tgt := 87) C (by decide) dX13_putFile_77 (by decide) rfl (fun _ => ?_) (fun z => absurd z (by decide))
        refine r_iconst (pc' := 88) C dX13_putFile_87 rfl ?_
        refine r_iast (pc' := 89) (k := 79) C (by decide) kc_79 (by have := kl_79; omega) (by decide) dX13_putFile_88 rfl ?_
        refine r_aload_n (pc' := 90) C 0 rfl rfl dX13_putFile_89 rfl ?_
        refine r_getr (pc' := 93) (k := 73) (r := 82) C fl_X13_40 (by decide) kc_73 (by decide) fr_13_13 RV_73_13 dX13_putFile_90 rfl ?_
        refine r_iload_n (pc' := 94) C 1 rfl rfl dX13_putFile_93 rfl ?_
        refine r_bipush (pc' := 96) C dX13_putFile_94 (by decide) rfl ?_
        refine r_iast (pc' := 97) (k := 82) C (by decide) kc_82 (by have := kl_82; omega) (by decide) dX13_putFile_96 rfl ?_
        refine r_aload_n (pc' := 98) C 0 rfl rfl dX13_putFile_97 rfl ?_
        refine r_getr (pc' := 101) (k := 73) (r := 83) C fl_X13_43 (by decide) kc_73 (by decide) fr_13_14 RV_73_14 dX13_putFile_98 rfl ?_
        refine r_iload_n (pc' := 102) C 1 rfl rfl dX13_putFile_101 rfl ?_
        refine r_iconst (pc' := 103) C dX13_putFile_102 rfl ?_
        refine r_iast (pc' := 104) (k := 83) C (by decide) kc_83 (by have := kl_83; omega) (by decide) dX13_putFile_103 rfl ?_
        refine r_iconst (pc' := 105) C dX13_putFile_104 rfl ?_
        refine r_istore (pc' := 107) (ls' := [(0, .ref (gl_b Y + 73)), (1, .int (i32 x1)), (2, .int (i32 ((av 76 x1.toNat) / (iv 73 6)))), (3, .int (i32 ((av 76 x1.toNat) % (iv 73 6)))), (4, .int (i32 0)), (5, .int (i32 0))]) C (by decide) rfl dX13_putFile_105 rfl ?_
        exact Wa.sub [0, 1, 2, 3, 4, 5] rfl h
    · replace h := h.2 c15
      refine r_iconst (pc' := 36) C dX13_putFile_35 rfl ?_
      refine r_goto (tgt := 40) C dX13_putFile_36 (by decide) ?_
      refine r_istore (pc' := 42) (ls' := [(0, .ref (gl_b Y + 73)), (1, .int (i32 x1)), (2, .int (i32 ((av 76 x1.toNat) / (iv 73 6)))), (3, .int (i32 ((av 76 x1.toNat) % (iv 73 6)))), (4, .int (i32 1))]) C (by decide) rfl dX13_putFile_40 rfl ?_
      refine r_aload_n (pc' := 43) C 0 rfl rfl dX13_putFile_42 rfl ?_
      refine r_getr (pc' := 46) (k := 73) (r := 80) C fl_X13_34 (by decide) kc_73 (by decide) fr_13_11 RV_73_11 dX13_putFile_43 rfl ?_
      refine r_iload_n (pc' := 47) C 1 rfl rfl dX13_putFile_46 rfl ?_
      refine r_aload_n (pc' := 48) C 0 rfl rfl dX13_putFile_47 rfl ?_
      refine r_geti (pc' := 51) (k := 73) C fl_X13_352 (by decide) kc_73 (by decide) fr_13_16 dX13_putFile_48 rfl (fun f20 => ?_)
      replace h := h f20
      refine r_iast (pc' := 52) (k := 80) C (by decide) kc_80 (by have := kl_80; omega) f20 dX13_putFile_51 rfl ?_
      refine r_aload_n (pc' := 53) C 0 rfl rfl dX13_putFile_52 rfl ?_
      refine r_getr (pc' := 56) (k := 73) (r := 81) C fl_X13_37 (by decide) kc_73 (by decide) fr_13_12 RV_73_12 dX13_putFile_53 rfl ?_
      refine r_iload_n (pc' := 57) C 1 rfl rfl dX13_putFile_56 rfl ?_
      refine r_iconst (pc' := 58) C dX13_putFile_57 rfl ?_
      refine r_iast (pc' := 59) (k := 81) C (by decide) kc_81 (by have := kl_81; omega) (by decide) dX13_putFile_58 rfl ?_
      refine r_aload_n (pc' := 60) C 0 rfl rfl dX13_putFile_59 rfl ?_
      refine r_getr (pc' := 63) (k := 73) (r := 84) C fl_X13_46 (by decide) kc_73 (by decide) fr_13_15 RV_73_15 dX13_putFile_60 rfl ?_
      refine r_iload_n (pc' := 64) C 1 rfl rfl dX13_putFile_63 rfl ?_
      refine r_iconst (pc' := 65) C dX13_putFile_64 rfl ?_
      refine r_iast (pc' := 66) (k := 84) C (by decide) kc_84 (by have := kl_84; omega) (by decide) dX13_putFile_65 rfl ?_
      refine r_aload_n (pc' := 67) C 0 rfl rfl dX13_putFile_66 rfl ?_
      refine r_getr (pc' := 70) (k := 73) (r := 79) C fl_X13_31 (by decide) kc_73 (by decide) fr_13_10 RV_73_10 dX13_putFile_67 rfl ?_
      refine r_iload_n (pc' := 71) C 1 rfl rfl dX13_putFile_70 rfl ?_
      refine r_iload_n (pc' := 72) C 2 rfl rfl dX13_putFile_71 rfl ?_
      have o21 := h.1
      replace h := h.2
      refine r_if_gt (pc' := 75) (tgt := 80) C o21 dX13_putFile_72 (by decide) rfl (fun c22 => ?_) (fun c22 => ?_)
      · replace h := h.1 c22
        refine r_aload_n (pc' := 81) C 0 rfl rfl dX13_putFile_80 rfl ?_
        refine r_geti (pc' := 84) (k := 73) C fl_X13_329 (by decide) kc_73 (by decide) fr_13_23 dX13_putFile_81 rfl (fun f23 => ?_)
        replace h := h f23
        refine r_goto (tgt := 88) C dX13_putFile_84 (by decide) ?_
        refine r_iast (pc' := 89) (k := 79) C (by decide) kc_79 (by have := kl_79; omega) f23 dX13_putFile_88 rfl ?_
        refine r_aload_n (pc' := 90) C 0 rfl rfl dX13_putFile_89 rfl ?_
        refine r_getr (pc' := 93) (k := 73) (r := 82) C fl_X13_40 (by decide) kc_73 (by decide) fr_13_13 RV_73_13 dX13_putFile_90 rfl ?_
        refine r_iload_n (pc' := 94) C 1 rfl rfl dX13_putFile_93 rfl ?_
        refine r_bipush (pc' := 96) C dX13_putFile_94 (by decide) rfl ?_
        refine r_iast (pc' := 97) (k := 82) C (by decide) kc_82 (by have := kl_82; omega) (by decide) dX13_putFile_96 rfl ?_
        refine r_aload_n (pc' := 98) C 0 rfl rfl dX13_putFile_97 rfl ?_
        refine r_getr (pc' := 101) (k := 73) (r := 83) C fl_X13_43 (by decide) kc_73 (by decide) fr_13_14 RV_73_14 dX13_putFile_98 rfl ?_
        refine r_iload_n (pc' := 102) C 1 rfl rfl dX13_putFile_101 rfl ?_
        refine r_iconst (pc' := 103) C dX13_putFile_102 rfl ?_
        refine r_iast (pc' := 104) (k := 83) C (by decide) kc_83 (by have := kl_83; omega) (by decide) dX13_putFile_103 rfl ?_
        refine r_iconst (pc' := 105) C dX13_putFile_104 rfl ?_
        refine r_istore (pc' := 107) (ls' := [(0, .ref (gl_b Y + 73)), (1, .int (i32 x1)), (2, .int (i32 ((av 76 x1.toNat) / (iv 73 6)))), (3, .int (i32 ((av 76 x1.toNat) % (iv 73 6)))), (4, .int (i32 1)), (5, .int (i32 0))]) C (by decide) rfl dX13_putFile_105 rfl ?_
        exact Wa.sub [0, 1, 2, 3, 4, 5] rfl h
      · replace h := h.2 c22
        refine r_iload (pc' := 77) C 4 rfl dX13_putFile_75 rfl ?_
        refine r_if_eq (pc' := 80) (tgt := 87) C (by decide) dX13_putFile_77 (by decide) rfl (fun z => absurd z (by decide)) (fun _ => ?_)
        refine r_aload_n (pc' := 81) C 0 rfl rfl dX13_putFile_80 rfl ?_
        refine r_geti (pc' := 84) (k := 73) C fl_X13_329 (by decide) kc_73 (by decide) fr_13_23 dX13_putFile_81 rfl (fun f24 => ?_)
        replace h := h f24
        refine r_goto (tgt := 88) C dX13_putFile_84 (by decide) ?_
        refine r_iast (pc' := 89) (k := 79) C (by decide) kc_79 (by have := kl_79; omega) f24 dX13_putFile_88 rfl ?_
        refine r_aload_n (pc' := 90) C 0 rfl rfl dX13_putFile_89 rfl ?_
        refine r_getr (pc' := 93) (k := 73) (r := 82) C fl_X13_40 (by decide) kc_73 (by decide) fr_13_13 RV_73_13 dX13_putFile_90 rfl ?_
        refine r_iload_n (pc' := 94) C 1 rfl rfl dX13_putFile_93 rfl ?_
        refine r_bipush (pc' := 96) C dX13_putFile_94 (by decide) rfl ?_
        refine r_iast (pc' := 97) (k := 82) C (by decide) kc_82 (by have := kl_82; omega) (by decide) dX13_putFile_96 rfl ?_
        refine r_aload_n (pc' := 98) C 0 rfl rfl dX13_putFile_97 rfl ?_
        refine r_getr (pc' := 101) (k := 73) (r := 83) C fl_X13_43 (by decide) kc_73 (by decide) fr_13_14 RV_73_14 dX13_putFile_98 rfl ?_
        refine r_iload_n (pc' := 102) C 1 rfl rfl dX13_putFile_101 rfl ?_
        refine r_iconst (pc' := 103) C dX13_putFile_102 rfl ?_
        refine r_iast (pc' := 104) (k := 83) C (by decide) kc_83 (by have := kl_83; omega) (by decide) dX13_putFile_103 rfl ?_
        refine r_iconst (pc' := 105) C dX13_putFile_104 rfl ?_
        refine r_istore (pc' := 107) (ls' := [(0, .ref (gl_b Y + 73)), (1, .int (i32 x1)), (2, .int (i32 ((av 76 x1.toNat) / (iv 73 6)))), (3, .int (i32 ((av 76 x1.toNat) % (iv 73 6)))), (4, .int (i32 1)), (5, .int (i32 0))]) C (by decide) rfl dX13_putFile_105 rfl ?_
        exact Wa.sub [0, 1, 2, 3, 4, 5] rfl h
def L_X13_put_54 (Y : Gl) (X : Cx) (P : PN) (x4 : Int) (iv av : IVt) : Prop := Wa Y X 6 (g_MQ Y X 1 (g_N RV 116 P) 0 0) 0 0 54 [(0, .ref (gl_b Y + 73)), (4, .int (i32 x4))] [] RV iv av 116
set_option maxHeartbeats 4000000 in
set_option maxRecDepth 100000 in
theorem w_X13_put_54 {Y : Gl} {X : Cx} {e : Nat} {P : PN} {x4 : Int} {iv av : IVt} (C : CX Y X RX13 "put" cX13_put 6 (some .int) (e + 23) 0 0) (hx4 : InR x4) (h :
    ((64 ≤ x4) →
      OkN Y (e + 22) mX13_closeFragment [.ref (gl_b Y + 73)] RV iv av 116 (fun r2 iv3 av4 =>
        ((InR (iv3 73 23)) →
          P (iv3 73 23) iv3 av4
        )
      )
    ) ∧
    ((¬ 64 ≤ x4) →
      OkN Y (e + 22) mX13_twin [.ref (gl_b Y + 73), .int (i32 x4)] RV iv av 116 (fun r7 iv8 av9 =>
        (InR r7) →
        (0 ≤ x4 ∧ x4 < 64) ∧
        ((InR (av9 76 x4.toNat)) →
          ((0 ≤ r7) →
            (0 ≤ r7 ∧ r7 < 64) ∧
            ((InR (av9 79 r7.toNat)) →
              ((InR (av9 80 r7.toNat)) →
                ((InR (av9 81 r7.toNat)) →
                  ((InR (av9 82 r7.toNat)) →
                    ((InR (av9 83 r7.toNat)) →
                      ((InR (av9 84 r7.toNat)) →
                        L_X13_put_54 Y X P (x4 + 1) iv8 (up2 (up2 (up2 (up2 (up2 (up2 (up2 av9 78 x4.toNat (av9 76 x4.toNat)) 79 x4.toNat (av9 79 r7.toNat)) 80 x4.toNat (av9 80 r7.toNat)) 81 x4.toNat (av9 81 r7.toNat)) 82 x4.toNat (av9 82 r7.toNat)) 83 x4.toNat (av9 83 r7.toNat)) 84 x4.toNat (av9 84 r7.toNat))
                      )
                    )
                  )
                )
              )
            )
          ) ∧
          ((¬ 0 ≤ r7) →
            OkN Y (e + 22) mX13_putFile [.ref (gl_b Y + 73), .int (i32 x4)] RV iv8 (up2 av9 78 x4.toNat (av9 76 x4.toNat)) 116 (fun r21 iv22 av23 =>
              L_X13_put_54 Y X P (x4 + 1) iv22 av23
            )
          )
        )
      )
    )) : L_X13_put_54 Y X P x4 iv av := by
  unfold L_X13_put_54
  refine r_iload (pc' := 56) C 1 rfl dX13_put_54 rfl ?_
  refine r_bipush (pc' := 58) C dX13_put_56 (by decide) rfl ?_
  refine r_icmp_ge (pc' := 61) (tgt := 187) C hx4 (by decide) dX13_put_58 (by decide) rfl (fun c1 => ?_) (fun c1 => ?_)
  · replace h := h.1 c1
    refine r_aload_n (pc' := 188) C 0 rfl rfl dX13_put_187 rfl ?_
    refine c_Vv (pc' := 191) (mt := mX13_closeFragment) (as := []) (st := []) (k := 73) C h rfl cl_X13_closeFragment ml_X13_361 im_X13_closeFragment sl_X13_closeFragment (by omega) (Nat.le_refl _) (Nat.le_refl _) rfl (by decide) kc_73 (by decide) rfl rfl rfl (Nat.le_of_ble_eq_true rfl) dX13_put_188 rfl (fun r2 iv3 av4 h => ?_)
    refine r_aload_n (pc' := 192) C 0 rfl rfl dX13_put_191 rfl ?_
    refine r_geti (pc' := 195) (k := 73) C fl_X13_329 (by decide) kc_73 (by decide) fr_13_23 dX13_put_192 rfl (fun f6 => ?_)
    replace h := h f6
    exact r_iret C f6 ⟨rfl, rfl, h⟩ dX13_put_195
  · replace h := h.2 c1
    refine r_aload_n (pc' := 62) C 0 rfl rfl dX13_put_61 rfl ?_
    refine r_iload (pc' := 64) C 1 rfl dX13_put_62 rfl ?_
    refine c_Vi (pc' := 67) (mt := mX13_twin) (as := [.int (i32 x4)]) (st := []) (k := 73) C h rfl cl_X13_twin ml_X13_364 im_X13_twin sl_X13_twin (by omega) (Nat.le_refl _) (Nat.le_refl _) rfl (by decide) kc_73 (by decide) rfl rfl rfl (Nat.le_of_ble_eq_true rfl) dX13_put_64 rfl (fun r7 iv8 av9 f10 h => ?_)
    replace h := h f10
    refine r_istore (pc' := 69) (ls' := [(0, .ref (gl_b Y + 73)), (4, .int (i32 x4)), (5, .int (i32 r7))]) C (by decide) rfl dX13_put_67 rfl ?_
    refine r_aload_n (pc' := 70) C 0 rfl rfl dX13_put_69 rfl ?_
    refine r_getr (pc' := 73) (k := 73) (r := 78) C fl_X13_28 (by decide) kc_73 (by decide) fr_13_9 RV_73_9 dX13_put_70 rfl ?_
    refine r_iload (pc' := 75) C 1 rfl dX13_put_73 rfl ?_
    refine r_aload_n (pc' := 76) C 0 rfl rfl dX13_put_75 rfl ?_
    refine r_getr (pc' := 79) (k := 73) (r := 76) C fl_X13_17 (by decide) kc_73 (by decide) fr_13_3 RV_73_3 dX13_put_76 rfl ?_
    refine r_iload (pc' := 81) C 1 rfl dX13_put_79 rfl ?_
    have o11 := h.1
    replace h := h.2
    refine r_iald (pc' := 82) (k := 76) C (by decide) kc_76 (by have := kl_76; omega) dX13_put_81 rfl (fun f12 => ?_)
    replace h := h f12
    refine r_iast (pc' := 83) (k := 78) C (by decide) kc_78 (by have := kl_78; omega) f12 dX13_put_82 rfl ?_
    refine r_iload (pc' := 85) C 2 rfl dX13_put_83 rfl ?_
    refine r_if_ge (pc' := 88) (tgt := 97) C f10 dX13_put_85 (by decide) rfl (fun c13 => ?_) (fun c13 => ?_)
    · replace h := h.1 c13
      refine r_aload_n (pc' := 98) C 0 rfl rfl dX13_put_97 rfl ?_
      refine r_getr (pc' := 101) (k := 73) (r := 79) C fl_X13_31 (by decide) kc_73 (by decide) fr_13_10 RV_73_10 dX13_put_98 rfl ?_
      refine r_iload (pc' := 103) C 1 rfl dX13_put_101 rfl ?_
      refine r_aload_n (pc' := 104) C 0 rfl rfl dX13_put_103 rfl ?_
      refine r_getr (pc' := 107) (k := 73) (r := 79) C fl_X13_31 (by decide) kc_73 (by decide) fr_13_10 RV_73_10 dX13_put_104 rfl ?_
      refine r_iload (pc' := 109) C 2 rfl dX13_put_107 rfl ?_
      have o14 := h.1
      replace h := h.2
      refine r_iald (pc' := 110) (k := 79) C (by decide) kc_79 (by have := kl_79; omega) dX13_put_109 rfl (fun f15 => ?_)
      have ef15 : (up2 av9 78 x4.toNat (av9 76 x4.toNat)) 79 r7.toNat = (av9 79 r7.toNat) := by simp [up2]
      rw [ef15] at f15 ⊢
      replace h := h f15
      refine r_iast (pc' := 111) (k := 79) C (by decide) kc_79 (by have := kl_79; omega) f15 dX13_put_110 rfl ?_
      refine r_aload_n (pc' := 112) C 0 rfl rfl dX13_put_111 rfl ?_
      refine r_getr (pc' := 115) (k := 73) (r := 80) C fl_X13_34 (by decide) kc_73 (by decide) fr_13_11 RV_73_11 dX13_put_112 rfl ?_
      refine r_iload (pc' := 117) C 1 rfl dX13_put_115 rfl ?_
      refine r_aload_n (pc' := 118) C 0 rfl rfl dX13_put_117 rfl ?_
      refine r_getr (pc' := 121) (k := 73) (r := 80) C fl_X13_34 (by decide) kc_73 (by decide) fr_13_11 RV_73_11 dX13_put_118 rfl ?_
      refine r_iload (pc' := 123) C 2 rfl dX13_put_121 rfl ?_
      refine r_iald (pc' := 124) (k := 80) C (by decide) kc_80 (by have := kl_80; omega) dX13_put_123 rfl (fun f16 => ?_)
      have ef16 : (up2 (up2 av9 78 x4.toNat (av9 76 x4.toNat)) 79 x4.toNat (av9 79 r7.toNat)) 80 r7.toNat = (av9 80 r7.toNat) := by simp [up2]
      rw [ef16] at f16 ⊢
      replace h := h f16
      refine r_iast (pc' := 125) (k := 80) C (by decide) kc_80 (by have := kl_80; omega) f16 dX13_put_124 rfl ?_
      refine r_aload_n (pc' := 126) C 0 rfl rfl dX13_put_125 rfl ?_
      refine r_getr (pc' := 129) (k := 73) (r := 81) C fl_X13_37 (by decide) kc_73 (by decide) fr_13_12 RV_73_12 dX13_put_126 rfl ?_
      refine r_iload (pc' := 131) C 1 rfl dX13_put_129 rfl ?_
      refine r_aload_n (pc' := 132) C 0 rfl rfl dX13_put_131 rfl ?_
      refine r_getr (pc' := 135) (k := 73) (r := 81) C fl_X13_37 (by decide) kc_73 (by decide) fr_13_12 RV_73_12 dX13_put_132 rfl ?_
      refine r_iload (pc' := 137) C 2 rfl dX13_put_135 rfl ?_
      refine r_iald (pc' := 138) (k := 81) C (by decide) kc_81 (by have := kl_81; omega) dX13_put_137 rfl (fun f17 => ?_)
      have ef17 : (up2 (up2 (up2 av9 78 x4.toNat (av9 76 x4.toNat)) 79 x4.toNat (av9 79 r7.toNat)) 80 x4.toNat (av9 80 r7.toNat)) 81 r7.toNat = (av9 81 r7.toNat) := by simp [up2]
      rw [ef17] at f17 ⊢
      replace h := h f17
      refine r_iast (pc' := 139) (k := 81) C (by decide) kc_81 (by have := kl_81; omega) f17 dX13_put_138 rfl ?_
      refine r_aload_n (pc' := 140) C 0 rfl rfl dX13_put_139 rfl ?_
      refine r_getr (pc' := 143) (k := 73) (r := 82) C fl_X13_40 (by decide) kc_73 (by decide) fr_13_13 RV_73_13 dX13_put_140 rfl ?_
      refine r_iload (pc' := 145) C 1 rfl dX13_put_143 rfl ?_
      refine r_aload_n (pc' := 146) C 0 rfl rfl dX13_put_145 rfl ?_
      refine r_getr (pc' := 149) (k := 73) (r := 82) C fl_X13_40 (by decide) kc_73 (by decide) fr_13_13 RV_73_13 dX13_put_146 rfl ?_
      refine r_iload (pc' := 151) C 2 rfl dX13_put_149 rfl ?_
      refine r_iald (pc' := 152) (k := 82) C (by decide) kc_82 (by have := kl_82; omega) dX13_put_151 rfl (fun f18 => ?_)
      have ef18 : (up2 (up2 (up2 (up2 av9 78 x4.toNat (av9 76 x4.toNat)) 79 x4.toNat (av9 79 r7.toNat)) 80 x4.toNat (av9 80 r7.toNat)) 81 x4.toNat (av9 81 r7.toNat)) 82 r7.toNat = (av9 82 r7.toNat) := by simp [up2]
      rw [ef18] at f18 ⊢
      replace h := h f18
      refine r_iast (pc' := 153) (k := 82) C (by decide) kc_82 (by have := kl_82; omega) f18 dX13_put_152 rfl ?_
      refine r_aload_n (pc' := 154) C 0 rfl rfl dX13_put_153 rfl ?_
      refine r_getr (pc' := 157) (k := 73) (r := 83) C fl_X13_43 (by decide) kc_73 (by decide) fr_13_14 RV_73_14 dX13_put_154 rfl ?_
      refine r_iload (pc' := 159) C 1 rfl dX13_put_157 rfl ?_
      refine r_aload_n (pc' := 160) C 0 rfl rfl dX13_put_159 rfl ?_
      refine r_getr (pc' := 163) (k := 73) (r := 83) C fl_X13_43 (by decide) kc_73 (by decide) fr_13_14 RV_73_14 dX13_put_160 rfl ?_
      refine r_iload (pc' := 165) C 2 rfl dX13_put_163 rfl ?_
      refine r_iald (pc' := 166) (k := 83) C (by decide) kc_83 (by have := kl_83; omega) dX13_put_165 rfl (fun f19 => ?_)
      have ef19 : (up2 (up2 (up2 (up2 (up2 av9 78 x4.toNat (av9 76 x4.toNat)) 79 x4.toNat (av9 79 r7.toNat)) 80 x4.toNat (av9 80 r7.toNat)) 81 x4.toNat (av9 81 r7.toNat)) 82 x4.toNat (av9 82 r7.toNat)) 83 r7.toNat = (av9 83 r7.toNat) := by simp [up2]
      rw [ef19] at f19 ⊢
      replace h := h f19
      refine r_iast (pc' := 167) (k := 83) C (by decide) kc_83 (by have := kl_83; omega) f19 dX13_put_166 rfl ?_
      refine r_aload_n (pc' := 168) C 0 rfl rfl dX13_put_167 rfl ?_
      refine r_getr (pc' := 171) (k := 73) (r := 84) C fl_X13_46 (by decide) kc_73 (by decide) fr_13_15 RV_73_15 dX13_put_168 rfl ?_
      refine r_iload (pc' := 173) C 1 rfl dX13_put_171 rfl ?_
      refine r_aload_n (pc' := 174) C 0 rfl rfl dX13_put_173 rfl ?_
      refine r_getr (pc' := 177) (k := 73) (r := 84) C fl_X13_46 (by decide) kc_73 (by decide) fr_13_15 RV_73_15 dX13_put_174 rfl ?_
      refine r_iload (pc' := 179) C 2 rfl dX13_put_177 rfl ?_
      refine r_iald (pc' := 180) (k := 84) C (by decide) kc_84 (by have := kl_84; omega) dX13_put_179 rfl (fun f20 => ?_)
      have ef20 : (up2 (up2 (up2 (up2 (up2 (up2 av9 78 x4.toNat (av9 76 x4.toNat)) 79 x4.toNat (av9 79 r7.toNat)) 80 x4.toNat (av9 80 r7.toNat)) 81 x4.toNat (av9 81 r7.toNat)) 82 x4.toNat (av9 82 r7.toNat)) 83 x4.toNat (av9 83 r7.toNat)) 84 r7.toNat = (av9 84 r7.toNat) := by simp [up2]
      rw [ef20] at f20 ⊢
      replace h := h f20
      refine r_iast (pc' := 181) (k := 84) C (by decide) kc_84 (by have := kl_84; omega) f20 dX13_put_180 rfl ?_
      refine r_iinc (pc' := 184) (ls' := [(0, .ref (gl_b Y + 73)), (4, .int (i32 (x4 + 1))), (5, .int (i32 r7))]) C 1 rfl (by decide) rfl dX13_put_181 rfl ?_
      refine r_goto (tgt := 54) C dX13_put_184 (by decide) ?_
      exact Wa.sub [0, 1] rfl h
    · replace h := h.2 c13
      refine r_aload_n (pc' := 89) C 0 rfl rfl dX13_put_88 rfl ?_
      refine r_iload (pc' := 91) C 1 rfl dX13_put_89 rfl ?_
      refine c_Vv (pc' := 94) (mt := mX13_putFile) (as := [.int (i32 x4)]) (st := []) (k := 73) C h rfl cl_X13_putFile ml_X13_367 im_X13_putFile sl_X13_putFile (by omega) (Nat.le_refl _) (Nat.le_refl _) rfl (by decide) kc_73 (by decide) rfl rfl rfl (Nat.le_of_ble_eq_true rfl) dX13_put_91 rfl (fun r21 iv22 av23 h => ?_)
      refine r_goto (tgt := 181) C dX13_put_94 (by decide) ?_
      refine r_iinc (pc' := 184) (ls' := [(0, .ref (gl_b Y + 73)), (4, .int (i32 (x4 + 1))), (5, .int (i32 r7))]) C 1 rfl (by decide) rfl dX13_put_181 rfl ?_
      refine r_goto (tgt := 54) C dX13_put_184 (by decide) ?_
      exact Wa.sub [0, 1] rfl h
set_option maxHeartbeats 4000000 in
set_option maxRecDepth 100000 in
theorem o_X13_put {Y : Gl} {e : Nat} {P : PN} {x1 : Int} {x2 : Int} {x3 : Int} {iv av : IVt} (hx1 : InR x1) (h : ∀ X : Cx, CX Y X RX13 "put" cX13_put 6 (some .int) (e + 23) 0 0 →
    ((x1 < 12) →
      P (-1) iv av
    ) ∧
    ((¬ x1 < 12) →
      ((x1 ≤ 16) →
        (0 ≤ x1 ∧ x1 ≤ 31) ∧
        (InR (1 * 2 ^ x1.toNat)) ∧
        (0 ≤ x2 ∧ x2 ≤ 1) ∧
        (0 ≤ x3 ∧ x3 ≤ 1) ∧
        L_X13_put_54 Y X P 0 (up2 (up2 (up2 (up2 (up2 (up2 (up2 iv 73 6 (1 * 2 ^ x1.toNat)) 73 7 x2) 73 8 x3) 73 23 0) 73 16 0) 73 18 0) 73 22 0) av
      ) ∧
      ((¬ x1 ≤ 16) →
        P (-1) iv av
      )
    )) : OkN Y (e + 23) mX13_put [.ref (gl_b Y + 73), .int (i32 x1), .int (i32 x2), .int (i32 x3)] RV iv av 116 P := by
  refine OkW.of rfl (by show _ ≤ 6; exact Nat.le_of_ble_eq_true rfl) fun X C0 hR => ?_
  have C : CX Y X RX13 "put" cX13_put 6 (some .int) (e + 23) 0 0 := C0
  replace h := h X C
  show Wa Y X 6 (g_MQ Y X 1 (g_N RV 116 P) 0 0) 0 0 0 [(0, .ref (gl_b Y + 73)), (1, .int (i32 x1)), (2, .int (i32 x2)), (3, .int (i32 x3))] [] RV iv av 116
  refine r_iload_n (pc' := 1) C 1 rfl rfl dX13_put_0 rfl ?_
  refine r_bipush (pc' := 3) C dX13_put_1 (by decide) rfl ?_
  refine r_icmp_lt (pc' := 6) (tgt := 12) C hx1 (by decide) dX13_put_3 (by decide) rfl (fun c1 => ?_) (fun c1 => ?_)
  · replace h := h.1 c1
    refine r_iconst (pc' := 13) C dX13_put_12 rfl ?_
    exact r_iret C (by decide) ⟨rfl, rfl, h⟩ dX13_put_13
  · replace h := h.2 c1
    refine r_iload_n (pc' := 7) C 1 rfl rfl dX13_put_6 rfl ?_
    refine r_bipush (pc' := 9) C dX13_put_7 (by decide) rfl ?_
    refine r_icmp_le (pc' := 12) (tgt := 14) C hx1 (by decide) dX13_put_9 (by decide) rfl (fun c2 => ?_) (fun c2 => ?_)
    · replace h := h.1 c2
      refine r_aload_n (pc' := 15) C 0 rfl rfl dX13_put_14 rfl ?_
      refine r_iconst (pc' := 16) C dX13_put_15 rfl ?_
      refine r_iload_n (pc' := 17) C 1 rfl rfl dX13_put_16 rfl ?_
      have o3 := h.1
      replace h := h.2
      refine r_ishl (pc' := 18) C o3 dX13_put_17 rfl ?_
      have o4 := h.1
      replace h := h.2
      refine r_puti (pc' := 21) (k := 73) C fl_X13_24 (by decide) kc_73 (by decide) fr_13_6 o4 dX13_put_18 rfl ?_
      refine r_aload_n (pc' := 22) C 0 rfl rfl dX13_put_21 rfl ?_
      refine r_iload_n (pc' := 23) C 2 rfl rfl dX13_put_22 rfl ?_
      have o5 := h.1
      replace h := h.2
      refine r_putz (pc' := 26) (k := 73) C fl_X13_332 (by decide) kc_73 (by decide) fr_13_7 o5 dX13_put_23 rfl ?_
      refine r_aload_n (pc' := 27) C 0 rfl rfl dX13_put_26 rfl ?_
      refine r_iload_n (pc' := 28) C 3 rfl rfl dX13_put_27 rfl ?_
      have o6 := h.1
      replace h := h.2
      refine r_putz (pc' := 31) (k := 73) C fl_X13_355 (by decide) kc_73 (by decide) fr_13_8 o6 dX13_put_28 rfl ?_
      refine r_aload_n (pc' := 32) C 0 rfl rfl dX13_put_31 rfl ?_
      refine r_iconst (pc' := 33) C dX13_put_32 rfl ?_
      refine r_puti (pc' := 36) (k := 73) C fl_X13_329 (by decide) kc_73 (by decide) fr_13_23 (by decide) dX13_put_33 rfl ?_
      refine r_aload_n (pc' := 37) C 0 rfl rfl dX13_put_36 rfl ?_
      refine r_iconst (pc' := 38) C dX13_put_37 rfl ?_
      refine r_puti (pc' := 41) (k := 73) C fl_X13_352 (by decide) kc_73 (by decide) fr_13_16 (by decide) dX13_put_38 rfl ?_
      refine r_aload_n (pc' := 42) C 0 rfl rfl dX13_put_41 rfl ?_
      refine r_iconst (pc' := 43) C dX13_put_42 rfl ?_
      refine r_puti (pc' := 46) (k := 73) C fl_X13_346 (by decide) kc_73 (by decide) fr_13_18 (by decide) dX13_put_43 rfl ?_
      refine r_aload_n (pc' := 47) C 0 rfl rfl dX13_put_46 rfl ?_
      refine r_iconst (pc' := 48) C dX13_put_47 rfl ?_
      refine r_puti (pc' := 51) (k := 73) C fl_X13_343 (by decide) kc_73 (by decide) fr_13_22 (by decide) dX13_put_48 rfl ?_
      refine r_iconst (pc' := 52) C dX13_put_51 rfl ?_
      refine r_istore (pc' := 54) (ls' := [(0, .ref (gl_b Y + 73)), (1, .int (i32 x1)), (2, .int (i32 x2)), (3, .int (i32 x3)), (4, .int (i32 0))]) C (by decide) rfl dX13_put_52 rfl ?_
      exact Wa.sub [0, 4] rfl h
    · replace h := h.2 c2
      refine r_iconst (pc' := 13) C dX13_put_12 rfl ?_
      exact r_iret C (by decide) ⟨rfl, rfl, h⟩ dX13_put_13
set_option maxHeartbeats 4000000 in
set_option maxRecDepth 100000 in
theorem o_X13_about {Y : Gl} {e : Nat} {P : PN} {x1 : Int} {x2 : Int} {iv av : IVt} (hx1 : InR x1) (hx2 : InR x2) (h : 
    OkN Y e mX13_isFile [.int (i32 x1)] RV iv av 116 (fun r1 iv2 av3 =>
      (InR r1) →
      ((r1 = 0) →
        P (-1) iv2 av3
      ) ∧
      ((¬ r1 = 0) →
        ((x2 < 0) →
          P (-1) iv2 av3
        ) ∧
        ((¬ x2 < 0) →
          ((x2 ≤ 6) →
            ((x2 < 0 ∨ 5 < x2) →
              (0 ≤ x1 ∧ x1 < 64) ∧
              ((InR (av3 84 x1.toNat)) →
                P (av3 84 x1.toNat) iv2 av3
              )
            ) ∧
            ((x2 = 0) →
              (0 ≤ x1 ∧ x1 < 64) ∧
              ((InR (av3 76 x1.toNat)) →
                P (av3 76 x1.toNat) iv2 av3
              )
            ) ∧
            ((x2 = 1) →
              (0 ≤ x1 ∧ x1 < 64) ∧
              ((InR (av3 78 x1.toNat)) →
                P (av3 78 x1.toNat) iv2 av3
              )
            ) ∧
            ((x2 = 2) →
              (0 ≤ x1 ∧ x1 < 64) ∧
              ((InR (av3 79 x1.toNat)) →
                P (av3 79 x1.toNat) iv2 av3
              )
            ) ∧
            ((x2 = 3) →
              (0 ≤ x1 ∧ x1 < 64) ∧
              ((InR (av3 81 x1.toNat)) →
                P (av3 81 x1.toNat) iv2 av3
              )
            ) ∧
            ((x2 = 4) →
              (0 ≤ x1 ∧ x1 < 64) ∧
              ((InR (av3 82 x1.toNat)) →
                P (av3 82 x1.toNat) iv2 av3
              )
            ) ∧
            ((x2 = 5) →
              (0 ≤ x1 ∧ x1 < 64) ∧
              ((InR (av3 83 x1.toNat)) →
                P (av3 83 x1.toNat) iv2 av3
              )
            )
          ) ∧
          ((¬ x2 ≤ 6) →
            P (-1) iv2 av3
          )
        )
      )
    )) : OkN Y (e + 1) mX13_about [.ref (gl_b Y + 73), .int (i32 x1), .int (i32 x2)] RV iv av 116 P := by
  refine OkW.of rfl (by show _ ≤ 3; exact Nat.le_of_ble_eq_true rfl) fun X C0 hR => ?_
  have C : CX Y X RX13 "about" cX13_about 3 (some .int) (e + 1) 0 0 := C0
  show Wa Y X 3 (g_MQ Y X 1 (g_N RV 116 P) 0 0) 0 0 0 [(0, .ref (gl_b Y + 73)), (1, .int (i32 x1)), (2, .int (i32 x2))] [] RV iv av 116
  refine r_iload_n (pc' := 1) C 1 rfl rfl dX13_about_0 rfl ?_
  refine c_Si (pc' := 4) (mt := mX13_isFile) (as := [.int (i32 x1)]) (st := []) C h rfl cl_X13_isFile ml_X13_145 sm_X13_isFile (by omega) (Nat.le_refl _) (Nat.le_refl _) rfl rfl (Nat.le_of_ble_eq_true rfl) dX13_about_1 rfl (fun r1 iv2 av3 f4 h => ?_)
  replace h := h f4
  refine r_if_eq (pc' := 7) (tgt := 17) C f4 dX13_about_4 (by decide) rfl (fun c5 => ?_) (fun c5 => ?_)
  · replace h := h.1 c5
    refine r_iconst (pc' := 18) C dX13_about_17 rfl ?_
    exact r_iret C (by decide) ⟨rfl, rfl, h⟩ dX13_about_18
  · replace h := h.2 c5
    refine r_iload_n (pc' := 8) C 2 rfl rfl dX13_about_7 rfl ?_
    refine r_if_lt (pc' := 11) (tgt := 17) C hx2 dX13_about_8 (by decide) rfl (fun c6 => ?_) (fun c6 => ?_)
    · replace h := h.1 c6
      refine r_iconst (pc' := 18) C dX13_about_17 rfl ?_
      exact r_iret C (by decide) ⟨rfl, rfl, h⟩ dX13_about_18
    · replace h := h.2 c6
      refine r_iload_n (pc' := 12) C 2 rfl rfl dX13_about_11 rfl ?_
      refine r_bipush (pc' := 14) C dX13_about_12 (by decide) rfl ?_
      refine r_icmp_le (pc' := 17) (tgt := 19) C hx2 (by decide) dX13_about_14 (by decide) rfl (fun c7 => ?_) (fun c7 => ?_)
      · replace h := h.1 c7
        refine r_iload_n (pc' := 20) C 2 rfl rfl dX13_about_19 rfl ?_
        rcases (show (x2 < 0 ∨ 5 < x2) ∨ x2 = 0 ∨ x2 = 1 ∨ x2 = 2 ∨ x2 = 3 ∨ x2 = 4 ∨ x2 = 5 by omega) with z | z | z | z | z | z | z
        · replace h := h.1 z
          refine r_tabOut (tgt := 102) C hx2 dX13_about_20 z (by decide) ?_
          refine r_aload_n (pc' := 103) C 0 rfl rfl dX13_about_102 rfl ?_
          refine r_getr (pc' := 106) (k := 73) (r := 84) C fl_X13_46 (by decide) kc_73 (by decide) fr_13_15 RV_73_15 dX13_about_103 rfl ?_
          refine r_iload_n (pc' := 107) C 1 rfl rfl dX13_about_106 rfl ?_
          have o8 := h.1
          replace h := h.2
          refine r_iald (pc' := 108) (k := 84) C (by decide) kc_84 (by have := kl_84; omega) dX13_about_107 rfl (fun f9 => ?_)
          replace h := h f9
          exact r_iret C f9 ⟨rfl, rfl, h⟩ dX13_about_108
        · replace h := h.2.1 z
          refine r_tabIn (tgt := 60) C hx2 dX13_about_20 (by omega) (by omega) (by rw [z]; rfl) (by decide) ?_
          refine r_aload_n (pc' := 61) C 0 rfl rfl dX13_about_60 rfl ?_
          refine r_getr (pc' := 64) (k := 73) (r := 76) C fl_X13_17 (by decide) kc_73 (by decide) fr_13_3 RV_73_3 dX13_about_61 rfl ?_
          refine r_iload_n (pc' := 65) C 1 rfl rfl dX13_about_64 rfl ?_
          have o10 := h.1
          replace h := h.2
          refine r_iald (pc' := 66) (k := 76) C (by decide) kc_76 (by have := kl_76; omega) dX13_about_65 rfl (fun f11 => ?_)
          replace h := h f11
          exact r_iret C f11 ⟨rfl, rfl, h⟩ dX13_about_66
        · replace h := h.2.2.1 z
          refine r_tabIn (tgt := 67) C hx2 dX13_about_20 (by omega) (by omega) (by rw [z]; rfl) (by decide) ?_
          refine r_aload_n (pc' := 68) C 0 rfl rfl dX13_about_67 rfl ?_
          refine r_getr (pc' := 71) (k := 73) (r := 78) C fl_X13_28 (by decide) kc_73 (by decide) fr_13_9 RV_73_9 dX13_about_68 rfl ?_
          refine r_iload_n (pc' := 72) C 1 rfl rfl dX13_about_71 rfl ?_
          have o12 := h.1
          replace h := h.2
          refine r_iald (pc' := 73) (k := 78) C (by decide) kc_78 (by have := kl_78; omega) dX13_about_72 rfl (fun f13 => ?_)
          replace h := h f13
          exact r_iret C f13 ⟨rfl, rfl, h⟩ dX13_about_73
        · replace h := h.2.2.2.1 z
          refine r_tabIn (tgt := 74) C hx2 dX13_about_20 (by omega) (by omega) (by rw [z]; rfl) (by decide) ?_
          refine r_aload_n (pc' := 75) C 0 rfl rfl dX13_about_74 rfl ?_
          refine r_getr (pc' := 78) (k := 73) (r := 79) C fl_X13_31 (by decide) kc_73 (by decide) fr_13_10 RV_73_10 dX13_about_75 rfl ?_
          refine r_iload_n (pc' := 79) C 1 rfl rfl dX13_about_78 rfl ?_
          have o14 := h.1
          replace h := h.2
          refine r_iald (pc' := 80) (k := 79) C (by decide) kc_79 (by have := kl_79; omega) dX13_about_79 rfl (fun f15 => ?_)
          replace h := h f15
          exact r_iret C f15 ⟨rfl, rfl, h⟩ dX13_about_80
        · replace h := h.2.2.2.2.1 z
          refine r_tabIn (tgt := 81) C hx2 dX13_about_20 (by omega) (by omega) (by rw [z]; rfl) (by decide) ?_
          refine r_aload_n (pc' := 82) C 0 rfl rfl dX13_about_81 rfl ?_
          refine r_getr (pc' := 85) (k := 73) (r := 81) C fl_X13_37 (by decide) kc_73 (by decide) fr_13_12 RV_73_12 dX13_about_82 rfl ?_
          refine r_iload_n (pc' := 86) C 1 rfl rfl dX13_about_85 rfl ?_
          have o16 := h.1
          replace h := h.2
          refine r_iald (pc' := 87) (k := 81) C (by decide) kc_81 (by have := kl_81; omega) dX13_about_86 rfl (fun f17 => ?_)
          replace h := h f17
          exact r_iret C f17 ⟨rfl, rfl, h⟩ dX13_about_87
        · replace h := h.2.2.2.2.2.1 z
          refine r_tabIn (tgt := 88) C hx2 dX13_about_20 (by omega) (by omega) (by rw [z]; rfl) (by decide) ?_
          refine r_aload_n (pc' := 89) C 0 rfl rfl dX13_about_88 rfl ?_
          refine r_getr (pc' := 92) (k := 73) (r := 82) C fl_X13_40 (by decide) kc_73 (by decide) fr_13_13 RV_73_13 dX13_about_89 rfl ?_
          refine r_iload_n (pc' := 93) C 1 rfl rfl dX13_about_92 rfl ?_
          have o18 := h.1
          replace h := h.2
          refine r_iald (pc' := 94) (k := 82) C (by decide) kc_82 (by have := kl_82; omega) dX13_about_93 rfl (fun f19 => ?_)
          replace h := h f19
          exact r_iret C f19 ⟨rfl, rfl, h⟩ dX13_about_94
        · replace h := h.2.2.2.2.2.2 z
          refine r_tabIn (tgt := 95) C hx2 dX13_about_20 (by omega) (by omega) (by rw [z]; rfl) (by decide) ?_
          refine r_aload_n (pc' := 96) C 0 rfl rfl dX13_about_95 rfl ?_
          refine r_getr (pc' := 99) (k := 73) (r := 83) C fl_X13_43 (by decide) kc_73 (by decide) fr_13_14 RV_73_14 dX13_about_96 rfl ?_
          refine r_iload_n (pc' := 100) C 1 rfl rfl dX13_about_99 rfl ?_
          have o20 := h.1
          replace h := h.2
          refine r_iald (pc' := 101) (k := 83) C (by decide) kc_83 (by have := kl_83; omega) dX13_about_100 rfl (fun f21 => ?_)
          replace h := h f21
          exact r_iret C f21 ⟨rfl, rfl, h⟩ dX13_about_101
      · replace h := h.2 c7
        refine r_iconst (pc' := 18) C dX13_about_17 rfl ?_
        exact r_iret C (by decide) ⟨rfl, rfl, h⟩ dX13_about_18
set_option maxHeartbeats 4000000 in
set_option maxRecDepth 100000 in
theorem o_X13_number {Y : Gl} {e : Nat} {P : PN} {x1 : Int} {x2 : Int} {iv av : IVt} (hx1 : InR x1) (hx2 : InR x2) (h : 
    OkN Y e mX13_isFile [.int (i32 x1)] RV iv av 116 (fun r1 iv2 av3 =>
      (InR r1) →
      ((¬ r1 = 0) →
        ((x2 < 0) →
          P (-2) iv2 av3
        ) ∧
        ((¬ x2 < 0) →
          (0 ≤ x1 ∧ x1 < 64) ∧
          ((InR (av3 81 x1.toNat)) →
            ((x2 < (av3 81 x1.toNat)) →
              ((InR (av3 80 x1.toNat)) →
                (0 ≤ ((av3 80 x1.toNat) + x2) ∧ ((av3 80 x1.toNat) + x2) < 128) ∧
                ((InR (av3 85 ((av3 80 x1.toNat) + x2).toNat)) →
                  P (av3 85 ((av3 80 x1.toNat) + x2).toNat) iv2 av3
                )
              )
            ) ∧
            ((¬ x2 < (av3 81 x1.toNat)) →
              P (-2) iv2 av3
            )
          )
        )
      ) ∧
      ((r1 = 0) →
        P (-1) iv2 av3
      )
    )) : OkN Y (e + 1) mX13_number [.ref (gl_b Y + 73), .int (i32 x1), .int (i32 x2)] RV iv av 116 P := by
  refine OkW.of rfl (by show _ ≤ 3; exact Nat.le_of_ble_eq_true rfl) fun X C0 hR => ?_
  have C : CX Y X RX13 "number" cX13_number 3 (some .int) (e + 1) 0 0 := C0
  show Wa Y X 3 (g_MQ Y X 1 (g_N RV 116 P) 0 0) 0 0 0 [(0, .ref (gl_b Y + 73)), (1, .int (i32 x1)), (2, .int (i32 x2))] [] RV iv av 116
  refine r_iload_n (pc' := 1) C 1 rfl rfl dX13_number_0 rfl ?_
  refine c_Si (pc' := 4) (mt := mX13_isFile) (as := [.int (i32 x1)]) (st := []) C h rfl cl_X13_isFile ml_X13_145 sm_X13_isFile (by omega) (Nat.le_refl _) (Nat.le_refl _) rfl rfl (Nat.le_of_ble_eq_true rfl) dX13_number_1 rfl (fun r1 iv2 av3 f4 h => ?_)
  replace h := h f4
  refine r_if_ne (pc' := 7) (tgt := 9) C f4 dX13_number_4 (by decide) rfl (fun c5 => ?_) (fun c5 => ?_)
  · replace h := h.1 c5
    refine r_iload_n (pc' := 10) C 2 rfl rfl dX13_number_9 rfl ?_
    refine r_if_lt (pc' := 13) (tgt := 23) C hx2 dX13_number_10 (by decide) rfl (fun c6 => ?_) (fun c6 => ?_)
    · replace h := h.1 c6
      refine r_bipush (pc' := 25) C dX13_number_23 (by decide) rfl ?_
      refine r_goto (tgt := 41) C dX13_number_25 (by decide) ?_
      exact r_iret C (by decide) ⟨rfl, rfl, h⟩ dX13_number_41
    · replace h := h.2 c6
      refine r_iload_n (pc' := 14) C 2 rfl rfl dX13_number_13 rfl ?_
      refine r_aload_n (pc' := 15) C 0 rfl rfl dX13_number_14 rfl ?_
      refine r_getr (pc' := 18) (k := 73) (r := 81) C fl_X13_37 (by decide) kc_73 (by decide) fr_13_12 RV_73_12 dX13_number_15 rfl ?_
      refine r_iload_n (pc' := 19) C 1 rfl rfl dX13_number_18 rfl ?_
      have o7 := h.1
      replace h := h.2
      refine r_iald (pc' := 20) (k := 81) C (by decide) kc_81 (by have := kl_81; omega) dX13_number_19 rfl (fun f8 => ?_)
      replace h := h f8
      refine r_icmp_lt (pc' := 23) (tgt := 28) C hx2 f8 dX13_number_20 (by decide) rfl (fun c9 => ?_) (fun c9 => ?_)
      · replace h := h.1 c9
        refine r_aload_n (pc' := 29) C 0 rfl rfl dX13_number_28 rfl ?_
        refine r_getr (pc' := 32) (k := 73) (r := 85) C fl_X13_49 (by decide) kc_73 (by decide) fr_13_17 RV_73_17 dX13_number_29 rfl ?_
        refine r_aload_n (pc' := 33) C 0 rfl rfl dX13_number_32 rfl ?_
        refine r_getr (pc' := 36) (k := 73) (r := 80) C fl_X13_34 (by decide) kc_73 (by decide) fr_13_11 RV_73_11 dX13_number_33 rfl ?_
        refine r_iload_n (pc' := 37) C 1 rfl rfl dX13_number_36 rfl ?_
        refine r_iald (pc' := 38) (k := 80) C (by decide) kc_80 (by have := kl_80; omega) dX13_number_37 rfl (fun f10 => ?_)
        replace h := h f10
        refine r_iload_n (pc' := 39) C 2 rfl rfl dX13_number_38 rfl ?_
        refine r_iadd (pc' := 40) C dX13_number_39 rfl ?_
        have o11 := h.1
        replace h := h.2
        refine r_iald (pc' := 41) (k := 85) C (by decide) kc_85 (by have := kl_85; omega) dX13_number_40 rfl (fun f12 => ?_)
        replace h := h f12
        exact r_iret C f12 ⟨rfl, rfl, h⟩ dX13_number_41
      · replace h := h.2 c9
        refine r_bipush (pc' := 25) C dX13_number_23 (by decide) rfl ?_
        refine r_goto (tgt := 41) C dX13_number_25 (by decide) ?_
        exact r_iret C (by decide) ⟨rfl, rfl, h⟩ dX13_number_41
  · replace h := h.2 c5
    refine r_iconst (pc' := 8) C dX13_number_7 rfl ?_
    exact r_iret C (by decide) ⟨rfl, rfl, h⟩ dX13_number_8
set_option maxHeartbeats 4000000 in
set_option maxRecDepth 100000 in
theorem o_X13_fragments {Y : Gl} {e : Nat} {P : PN} {iv av : IVt} (h : 
    ((InR (iv 73 18)) →
      P (iv 73 18) iv av
    )) : OkN Y e mX13_fragments [.ref (gl_b Y + 73)] RV iv av 116 P := by
  refine OkW.of rfl (by show _ ≤ 1; exact Nat.le_of_ble_eq_true rfl) fun X C0 hR => ?_
  have C : CX Y X RX13 "fragments" cX13_fragments 1 (some .int) e 0 0 := C0
  show Wa Y X 1 (g_MQ Y X 1 (g_N RV 116 P) 0 0) 0 0 0 [(0, .ref (gl_b Y + 73))] [] RV iv av 116
  refine r_aload_n (pc' := 1) C 0 rfl rfl dX13_fragments_0 rfl ?_
  refine r_geti (pc' := 4) (k := 73) C fl_X13_346 (by decide) kc_73 (by decide) fr_13_18 dX13_fragments_1 rfl (fun f1 => ?_)
  replace h := h f1
  exact r_iret C f1 ⟨rfl, rfl, h⟩ dX13_fragments_4
set_option maxHeartbeats 4000000 in
set_option maxRecDepth 100000 in
theorem o_X13_fragment {Y : Gl} {e : Nat} {P : PN} {x1 : Int} {x2 : Int} {iv av : IVt} (hx1 : InR x1) (hx2 : InR x2) (h : 
    ((x2 < 0) →
      P (-1) iv av
    ) ∧
    ((¬ x2 < 0) →
      ((x2 ≤ 1) →
        ((x1 < 0) →
          P (-2) iv av
        ) ∧
        ((¬ x1 < 0) →
          ((InR (iv 73 18)) →
            ((x1 < (iv 73 18)) →
              ((¬ x2 = 0) →
                (0 ≤ x1 ∧ x1 < 64) ∧
                ((InR (av 87 x1.toNat)) →
                  P (av 87 x1.toNat) iv av
                )
              ) ∧
              ((x2 = 0) →
                (0 ≤ x1 ∧ x1 < 64) ∧
                ((InR (av 86 x1.toNat)) →
                  P (av 86 x1.toNat) iv av
                )
              )
            ) ∧
            ((¬ x1 < (iv 73 18)) →
              P (-2) iv av
            )
          )
        )
      ) ∧
      ((¬ x2 ≤ 1) →
        P (-1) iv av
      )
    )) : OkN Y e mX13_fragment [.ref (gl_b Y + 73), .int (i32 x1), .int (i32 x2)] RV iv av 116 P := by
  refine OkW.of rfl (by show _ ≤ 3; exact Nat.le_of_ble_eq_true rfl) fun X C0 hR => ?_
  have C : CX Y X RX13 "fragment" cX13_fragment 3 (some .int) e 0 0 := C0
  show Wa Y X 3 (g_MQ Y X 1 (g_N RV 116 P) 0 0) 0 0 0 [(0, .ref (gl_b Y + 73)), (1, .int (i32 x1)), (2, .int (i32 x2))] [] RV iv av 116
  refine r_iload_n (pc' := 1) C 2 rfl rfl dX13_fragment_0 rfl ?_
  refine r_if_lt (pc' := 4) (tgt := 9) C hx2 dX13_fragment_1 (by decide) rfl (fun c1 => ?_) (fun c1 => ?_)
  · replace h := h.1 c1
    refine r_iconst (pc' := 10) C dX13_fragment_9 rfl ?_
    exact r_iret C (by decide) ⟨rfl, rfl, h⟩ dX13_fragment_10
  · replace h := h.2 c1
    refine r_iload_n (pc' := 5) C 2 rfl rfl dX13_fragment_4 rfl ?_
    refine r_iconst (pc' := 6) C dX13_fragment_5 rfl ?_
    refine r_icmp_le (pc' := 9) (tgt := 11) C hx2 (by decide) dX13_fragment_6 (by decide) rfl (fun c2 => ?_) (fun c2 => ?_)
    · replace h := h.1 c2
      refine r_iload_n (pc' := 12) C 1 rfl rfl dX13_fragment_11 rfl ?_
      refine r_if_lt (pc' := 15) (tgt := 23) C hx1 dX13_fragment_12 (by decide) rfl (fun c3 => ?_) (fun c3 => ?_)
      · replace h := h.1 c3
        refine r_bipush (pc' := 25) C dX13_fragment_23 (by decide) rfl ?_
        refine r_goto (tgt := 47) C dX13_fragment_25 (by decide) ?_
        exact r_iret C (by decide) ⟨rfl, rfl, h⟩ dX13_fragment_47
      · replace h := h.2 c3
        refine r_iload_n (pc' := 16) C 1 rfl rfl dX13_fragment_15 rfl ?_
        refine r_aload_n (pc' := 17) C 0 rfl rfl dX13_fragment_16 rfl ?_
        refine r_geti (pc' := 20) (k := 73) C fl_X13_346 (by decide) kc_73 (by decide) fr_13_18 dX13_fragment_17 rfl (fun f4 => ?_)
        replace h := h f4
        refine r_icmp_lt (pc' := 23) (tgt := 28) C hx1 f4 dX13_fragment_20 (by decide) rfl (fun c5 => ?_) (fun c5 => ?_)
        · replace h := h.1 c5
          refine r_iload_n (pc' := 29) C 2 rfl rfl dX13_fragment_28 rfl ?_
          refine r_if_ne (pc' := 32) (tgt := 41) C hx2 dX13_fragment_29 (by decide) rfl (fun c6 => ?_) (fun c6 => ?_)
          · replace h := h.1 c6
            refine r_aload_n (pc' := 42) C 0 rfl rfl dX13_fragment_41 rfl ?_
            refine r_getr (pc' := 45) (k := 73) (r := 87) C fl_X13_55 (by decide) kc_73 (by decide) fr_13_20 RV_73_20 dX13_fragment_42 rfl ?_
            refine r_iload_n (pc' := 46) C 1 rfl rfl dX13_fragment_45 rfl ?_
            have o7 := h.1
            replace h := h.2
            refine r_iald (pc' := 47) (k := 87) C (by decide) kc_87 (by have := kl_87; omega) dX13_fragment_46 rfl (fun f8 => ?_)
            replace h := h f8
            exact r_iret C f8 ⟨rfl, rfl, h⟩ dX13_fragment_47
          · replace h := h.2 c6
            refine r_aload_n (pc' := 33) C 0 rfl rfl dX13_fragment_32 rfl ?_
            refine r_getr (pc' := 36) (k := 73) (r := 86) C fl_X13_52 (by decide) kc_73 (by decide) fr_13_19 RV_73_19 dX13_fragment_33 rfl ?_
            refine r_iload_n (pc' := 37) C 1 rfl rfl dX13_fragment_36 rfl ?_
            have o9 := h.1
            replace h := h.2
            refine r_iald (pc' := 38) (k := 86) C (by decide) kc_86 (by have := kl_86; omega) dX13_fragment_37 rfl (fun f10 => ?_)
            replace h := h f10
            refine r_goto (tgt := 47) C dX13_fragment_38 (by decide) ?_
            exact r_iret C f10 ⟨rfl, rfl, h⟩ dX13_fragment_47
        · replace h := h.2 c5
          refine r_bipush (pc' := 25) C dX13_fragment_23 (by decide) rfl ?_
          refine r_goto (tgt := 47) C dX13_fragment_25 (by decide) ?_
          exact r_iret C (by decide) ⟨rfl, rfl, h⟩ dX13_fragment_47
    · replace h := h.2 c2
      refine r_iconst (pc' := 10) C dX13_fragment_9 rfl ?_
      exact r_iret C (by decide) ⟨rfl, rfl, h⟩ dX13_fragment_10
set_option maxHeartbeats 4000000 in
set_option maxRecDepth 100000 in
theorem o_X13_size {Y : Gl} {e : Nat} {P : PN} {iv av : IVt} (h : 
    ((InR (iv 73 23)) →
      P (iv 73 23) iv av
    )) : OkN Y e mX13_size [.ref (gl_b Y + 73)] RV iv av 116 P := by
  refine OkW.of rfl (by show _ ≤ 1; exact Nat.le_of_ble_eq_true rfl) fun X C0 hR => ?_
  have C : CX Y X RX13 "size" cX13_size 1 (some .int) e 0 0 := C0
  show Wa Y X 1 (g_MQ Y X 1 (g_N RV 116 P) 0 0) 0 0 0 [(0, .ref (gl_b Y + 73))] [] RV iv av 116
  refine r_aload_n (pc' := 1) C 0 rfl rfl dX13_size_0 rfl ?_
  refine r_geti (pc' := 4) (k := 73) C fl_X13_329 (by decide) kc_73 (by decide) fr_13_23 dX13_size_1 rfl (fun f1 => ?_)
  replace h := h f1
  exact r_iret C f1 ⟨rfl, rfl, h⟩ dX13_size_4
def L_X13_eight_14 (Y : Gl) (X : Cx) (P : PN) (a0 : Nat) (x1 : Int) (x2 : Int) (x3 : Int) (x5 : Int) (iv av : IVt) : Prop := Wa Y X 7 (g_MQ Y X 2 (g_N RV 116 P) 0 0) 0 0 14 [(0, .ref (gl_b Y + a0)), (1, .int (i32 x1)), (2, .int (i32 x2)), (3, .long (i64 x3)), (5, .long (i64 x5))] [] RV iv av 116
set_option maxHeartbeats 4000000 in
set_option maxRecDepth 100000 in
theorem w_X13_eight_14 {Y : Gl} {X : Cx} {e : Nat} {P : PN} {a0 : Nat} {x1 : Int} {x2 : Int} {x3 : Int} {x5 : Int} {iv av : IVt} (C : CX Y X RX13 "eight" cX13_eight 7 (some .long) e 0 0) (Ka0 : ArrK 101 a0) (hx1 : InR x1) (hx2 : InR x2) (hx3 : InL x3) (hx5 : InL x5) (h :
    (InL (8 * x2)) ∧
    (((g_cmp x5 (8 * x2)) < 0) →
      P x3 iv av
    ) ∧
    ((¬ (g_cmp x5 (8 * x2)) < 0) →
      ((x2 < 0) →
        P x3 iv av
      ) ∧
      ((¬ x2 < 0) →
        ((0 ≤ (g_cmp x5 x1)) →
          L_X13_eight_14 Y X P a0 x1 x2 (g_orL (x3 * 256) 0) (x5 - 1) iv av
        ) ∧
        ((¬ 0 ≤ (g_cmp x5 x1)) →
          (0 ≤ x5 ∧ x5 < (kl a0 : Int)) ∧
          ((-128 ≤ (av a0 x5.toNat) ∧ (av a0 x5.toNat) ≤ 127) →
            L_X13_eight_14 Y X P a0 x1 x2 (g_orL (x3 * 256) ((av a0 x5.toNat) % 256)) (x5 - 1) iv av
          )
        )
      )
    )) : L_X13_eight_14 Y X P a0 x1 x2 x3 x5 iv av := by
  obtain ⟨ha0c, ha0l⟩ := Ka0
  unfold L_X13_eight_14
  refine r_lload (pc' := 16) C 4 rfl dX13_eight_14 rfl ?_
  refine r_ldc2 (pc' := 19) (x := 8) C ct_X13_370 (by decide) dX13_eight_16 rfl ?_
  refine r_iload_n (pc' := 20) C 2 rfl rfl dX13_eight_19 rfl ?_
  refine r_i2l (pc' := 21) C hx2 dX13_eight_20 rfl ?_
  refine r_lmul (pc' := 22) C dX13_eight_21 rfl ?_
  have o1 := h.1
  replace h := h.2
  refine r_lcmp (pc' := 23) C hx5 o1 dX13_eight_22 rfl ?_
  refine r_if_lt (pc' := 26) (tgt := 67) C (g_cmp_in _ _) dX13_eight_23 (by decide) rfl (fun c2 => ?_) (fun c2 => ?_)
  · replace h := h.1 c2
    refine r_lload_n (pc' := 68) C 3 rfl rfl dX13_eight_67 rfl ?_
    exact r_lret C hx3 ⟨rfl, rfl, h⟩ dX13_eight_68
  · replace h := h.2 c2
    refine r_iload_n (pc' := 27) C 2 rfl rfl dX13_eight_26 rfl ?_
    refine r_if_lt (pc' := 30) (tgt := 67) C hx2 dX13_eight_27 (by decide) rfl (fun c3 => ?_) (fun c3 => ?_)
    · replace h := h.1 c3
      refine r_lload_n (pc' := 68) C 3 rfl rfl dX13_eight_67 rfl ?_
      exact r_lret C hx3 ⟨rfl, rfl, h⟩ dX13_eight_68
    · replace h := h.2 c3
      refine r_lload_n (pc' := 31) C 3 rfl rfl dX13_eight_30 rfl ?_
      refine r_bipush (pc' := 33) C dX13_eight_31 (by decide) rfl ?_
      refine r_lshlC (pc' := 34) (m := 256) C (by decide) (by decide) dX13_eight_33 rfl ?_
      refine r_lload (pc' := 36) C 4 rfl dX13_eight_34 rfl ?_
      refine r_iload_n (pc' := 37) C 1 rfl rfl dX13_eight_36 rfl ?_
      refine r_i2l (pc' := 38) C hx1 dX13_eight_37 rfl ?_
      refine r_lcmp (pc' := 39) C hx5 (by omega) dX13_eight_38 rfl ?_
      refine r_if_ge (pc' := 42) (tgt := 54) C (g_cmp_in _ _) dX13_eight_39 (by decide) rfl (fun c4 => ?_) (fun c4 => ?_)
      · replace h := h.1 c4
        refine r_iconst (pc' := 55) C dX13_eight_54 rfl ?_
        refine r_i2l (pc' := 56) C (by decide) dX13_eight_55 rfl ?_
        refine r_lor (pc' := 57) C dX13_eight_56 rfl ?_
        refine r_lstore_n (pc' := 58) (ls' := [(0, .ref (gl_b Y + a0)), (1, .int (i32 x1)), (2, .int (i32 x2)), (3, .long (i64 (g_orL (x3 * 256) 0))), (5, .long (i64 x5))]) C (by decide) rfl rfl dX13_eight_57 rfl ?_
        refine r_lload (pc' := 60) C 4 rfl dX13_eight_58 rfl ?_
        refine r_lconst (pc' := 61) (x := 1) C dX13_eight_60 rfl rfl ?_
        refine r_lsub (pc' := 62) C dX13_eight_61 rfl ?_
        refine r_lstore (pc' := 64) (ls' := [(0, .ref (gl_b Y + a0)), (1, .int (i32 x1)), (2, .int (i32 x2)), (3, .long (i64 (g_orL (x3 * 256) 0))), (5, .long (i64 (x5 - 1)))]) C (by decide) rfl dX13_eight_62 rfl ?_
        refine r_goto (tgt := 14) C dX13_eight_64 (by decide) ?_
        exact Wa.sub [0, 1, 2, 3, 4] rfl h
      · replace h := h.2 c4
        refine r_aload_n (pc' := 43) C 0 rfl rfl dX13_eight_42 rfl ?_
        refine r_lload (pc' := 45) C 4 rfl dX13_eight_43 rfl ?_
        refine r_l2i (pc' := 46) C dX13_eight_45 rfl ?_
        have o5 := h.1
        replace h := h.2
        refine r_bald (pc' := 47) (k := a0) C (by omega) ha0c o5 dX13_eight_46 rfl (fun f6 => ?_)
        replace h := h f6
        refine r_sipush (pc' := 50) C dX13_eight_47 (by decide) rfl ?_
        refine r_iandM (pc' := 51) (m := 256) C 8 (by decide) (by decide) (by decide) dX13_eight_50 rfl ?_
        refine r_goto (tgt := 55) C dX13_eight_51 (by decide) ?_
        refine r_i2l (pc' := 56) C (by omega) dX13_eight_55 rfl ?_
        refine r_lor (pc' := 57) C dX13_eight_56 rfl ?_
        refine r_lstore_n (pc' := 58) (ls' := [(0, .ref (gl_b Y + a0)), (1, .int (i32 x1)), (2, .int (i32 x2)), (3, .long (i64 (g_orL (x3 * 256) ((av a0 x5.toNat) % 256)))), (5, .long (i64 x5))]) C (by decide) rfl rfl dX13_eight_57 rfl ?_
        refine r_lload (pc' := 60) C 4 rfl dX13_eight_58 rfl ?_
        refine r_lconst (pc' := 61) (x := 1) C dX13_eight_60 rfl rfl ?_
        refine r_lsub (pc' := 62) C dX13_eight_61 rfl ?_
        refine r_lstore (pc' := 64) (ls' := [(0, .ref (gl_b Y + a0)), (1, .int (i32 x1)), (2, .int (i32 x2)), (3, .long (i64 (g_orL (x3 * 256) ((av a0 x5.toNat) % 256)))), (5, .long (i64 (x5 - 1)))]) C (by decide) rfl dX13_eight_62 rfl ?_
        refine r_goto (tgt := 14) C dX13_eight_64 (by decide) ?_
        exact Wa.sub [0, 1, 2, 3, 4] rfl h
set_option maxHeartbeats 4000000 in
set_option maxRecDepth 100000 in
theorem o_X13_eight {Y : Gl} {e : Nat} {P : PN} {a0 : Nat} {x1 : Int} {x2 : Int} {iv av : IVt} (Ka0 : ArrK 101 a0) (hx2 : InR x2) (h : ∀ X : Cx, CX Y X RX13 "eight" cX13_eight 7 (some .long) e 0 0 →
    L_X13_eight_14 Y X P a0 x1 x2 0 ((8 * x2) + 7) iv av) : OkN Y e mX13_eight [.ref (gl_b Y + a0), .int (i32 x1), .int (i32 x2)] RV iv av 116 P := by
  obtain ⟨ha0c, ha0l⟩ := Ka0
  refine OkW.of rfl (by show _ ≤ 7; exact Nat.le_of_ble_eq_true rfl) fun X C0 hR => ?_
  have C : CX Y X RX13 "eight" cX13_eight 7 (some .long) e 0 0 := C0
  replace h := h X C
  show Wa Y X 7 (g_MQ Y X 2 (g_N RV 116 P) 0 0) 0 0 0 [(0, .ref (gl_b Y + a0)), (1, .int (i32 x1)), (2, .int (i32 x2))] [] RV iv av 116
  refine r_lconst (pc' := 1) (x := 0) C dX13_eight_0 rfl rfl ?_
  refine r_lstore_n (pc' := 2) (ls' := [(0, .ref (gl_b Y + a0)), (1, .int (i32 x1)), (2, .int (i32 x2)), (3, .long (i64 0))]) C (by decide) rfl rfl dX13_eight_1 rfl ?_
  refine r_ldc2 (pc' := 5) (x := 8) C ct_X13_370 (by decide) dX13_eight_2 rfl ?_
  refine r_iload_n (pc' := 6) C 2 rfl rfl dX13_eight_5 rfl ?_
  refine r_i2l (pc' := 7) C hx2 dX13_eight_6 rfl ?_
  refine r_lmul (pc' := 8) C dX13_eight_7 rfl ?_
  refine r_ldc2 (pc' := 11) (x := 7) C ct_X13_372 (by decide) dX13_eight_8 rfl ?_
  refine r_ladd (pc' := 12) C dX13_eight_11 rfl ?_
  refine r_lstore (pc' := 14) (ls' := [(0, .ref (gl_b Y + a0)), (1, .int (i32 x1)), (2, .int (i32 x2)), (3, .long (i64 0)), (5, .long (i64 ((8 * x2) + 7)))]) C (by decide) rfl dX13_eight_12 rfl ?_
  exact Wa.sub [0, 1, 2, 3, 4] rfl h
set_option maxHeartbeats 4000000 in
set_option maxRecDepth 100000 in
theorem o_X13_word {Y : Gl} {e : Nat} {P : PN} {x1 : Int} {iv av : IVt} (hx1 : InR x1) (h : 
    ((InR (iv 73 23)) →
      OkN Y e mX13_eight [.ref (gl_b Y + 89), .int (i32 (iv 73 23)), .int (i32 x1)] RV iv av 116 (fun r2 iv3 av4 =>
        (InL r2) →
        P r2 iv3 av4
      )
    )) : OkN Y (e + 1) mX13_word [.ref (gl_b Y + 73), .int (i32 x1)] RV iv av 116 P := by
  refine OkW.of rfl (by show _ ≤ 2; exact Nat.le_of_ble_eq_true rfl) fun X C0 hR => ?_
  have C : CX Y X RX13 "word" cX13_word 2 (some .long) (e + 1) 0 0 := C0
  show Wa Y X 2 (g_MQ Y X 2 (g_N RV 116 P) 0 0) 0 0 0 [(0, .ref (gl_b Y + 73)), (1, .int (i32 x1))] [] RV iv av 116
  refine r_aload_n (pc' := 1) C 0 rfl rfl dX13_word_0 rfl ?_
  refine r_getr (pc' := 4) (k := 73) (r := 89) C fl_X13_62 (by decide) kc_73 (by decide) fr_13_24 RV_73_24 dX13_word_1 rfl ?_
  refine r_aload_n (pc' := 5) C 0 rfl rfl dX13_word_4 rfl ?_
  refine r_geti (pc' := 8) (k := 73) C fl_X13_329 (by decide) kc_73 (by decide) fr_13_23 dX13_word_5 rfl (fun f1 => ?_)
  replace h := h f1
  refine r_iload_n (pc' := 9) C 1 rfl rfl dX13_word_8 rfl ?_
  refine c_Sl (pc' := 12) (mt := mX13_eight) (as := [.ref (gl_b Y + 89), .int (i32 (iv 73 23)), .int (i32 x1)]) (st := []) C h rfl cl_X13_eight ml_X13_374 sm_X13_eight (by omega) (Nat.le_refl _) (Nat.le_refl _) rfl rfl (Nat.le_of_ble_eq_true rfl) dX13_word_9 rfl (fun r2 iv3 av4 f5 h => ?_)
  replace h := h f5
  exact r_lret C f5 ⟨rfl, rfl, h⟩ dX13_word_12
set_option maxHeartbeats 4000000 in
set_option maxRecDepth 100000 in
theorem o_X13_patch {Y : Gl} {e : Nat} {P : PN} {x1 : Int} {x2 : Int} {iv av : IVt} (hx1 : InR x1) (h : 
    ((x1 < 0) →
      P (-2) iv av
    ) ∧
    ((¬ x1 < 0) →
      ((InR (iv 73 23)) →
        ((x1 < (iv 73 23)) →
          (0 ≤ x1 ∧ x1 < 131072) ∧
          ((-128 ≤ (av 89 x1.toNat) ∧ (av 89 x1.toNat) ≤ 127) →
            P ((av 89 x1.toNat) % 256) iv (up2 av 89 x1.toNat (bm8 (bm8 x2)))
          )
        ) ∧
        ((¬ x1 < (iv 73 23)) →
          P (-2) iv av
        )
      )
    )) : OkN Y e mX13_patch [.ref (gl_b Y + 73), .int (i32 x1), .int (i32 x2)] RV iv av 116 P := by
  refine OkW.of rfl (by show _ ≤ 4; exact Nat.le_of_ble_eq_true rfl) fun X C0 hR => ?_
  have C : CX Y X RX13 "patch" cX13_patch 4 (some .int) e 0 0 := C0
  show Wa Y X 4 (g_MQ Y X 1 (g_N RV 116 P) 0 0) 0 0 0 [(0, .ref (gl_b Y + 73)), (1, .int (i32 x1)), (2, .int (i32 x2))] [] RV iv av 116
  refine r_iload_n (pc' := 1) C 1 rfl rfl dX13_patch_0 rfl ?_
  refine r_if_lt (pc' := 4) (tgt := 12) C hx1 dX13_patch_1 (by decide) rfl (fun c1 => ?_) (fun c1 => ?_)
  · replace h := h.1 c1
    refine r_bipush (pc' := 14) C dX13_patch_12 (by decide) rfl ?_
    exact r_iret C (by decide) ⟨rfl, rfl, h⟩ dX13_patch_14
  · replace h := h.2 c1
    refine r_iload_n (pc' := 5) C 1 rfl rfl dX13_patch_4 rfl ?_
    refine r_aload_n (pc' := 6) C 0 rfl rfl dX13_patch_5 rfl ?_
    refine r_geti (pc' := 9) (k := 73) C fl_X13_329 (by decide) kc_73 (by decide) fr_13_23 dX13_patch_6 rfl (fun f2 => ?_)
    replace h := h f2
    refine r_icmp_lt (pc' := 12) (tgt := 15) C hx1 f2 dX13_patch_9 (by decide) rfl (fun c3 => ?_) (fun c3 => ?_)
    · replace h := h.1 c3
      refine r_aload_n (pc' := 16) C 0 rfl rfl dX13_patch_15 rfl ?_
      refine r_getr (pc' := 19) (k := 73) (r := 89) C fl_X13_62 (by decide) kc_73 (by decide) fr_13_24 RV_73_24 dX13_patch_16 rfl ?_
      refine r_iload_n (pc' := 20) C 1 rfl rfl dX13_patch_19 rfl ?_
      have o4 := h.1
      replace h := h.2
      refine r_bald (pc' := 21) (k := 89) C (by decide) kc_89 (by have := kl_89; omega) dX13_patch_20 rfl (fun f5 => ?_)
      replace h := h f5
      refine r_sipush (pc' := 24) C dX13_patch_21 (by decide) rfl ?_
      refine r_iandM (pc' := 25) (m := 256) C 8 (by decide) (by decide) (by decide) dX13_patch_24 rfl ?_
      refine r_istore_n (pc' := 26) (ls' := [(0, .ref (gl_b Y + 73)), (1, .int (i32 x1)), (2, .int (i32 x2)), (3, .int (i32 ((av 89 x1.toNat) % 256)))]) C (by decide) rfl rfl dX13_patch_25 rfl ?_
      refine r_aload_n (pc' := 27) C 0 rfl rfl dX13_patch_26 rfl ?_
      refine r_getr (pc' := 30) (k := 73) (r := 89) C fl_X13_62 (by decide) kc_73 (by decide) fr_13_24 RV_73_24 dX13_patch_27 rfl ?_
      refine r_iload_n (pc' := 31) C 1 rfl rfl dX13_patch_30 rfl ?_
      refine r_iload_n (pc' := 32) C 2 rfl rfl dX13_patch_31 rfl ?_
      refine r_i2b (pc' := 33) C dX13_patch_32 rfl ?_
      refine r_bast (pc' := 34) (k := 89) C (by decide) kc_89 (by have := kl_89; omega) dX13_patch_33 rfl ?_
      refine r_iload_n (pc' := 35) C 3 rfl rfl dX13_patch_34 rfl ?_
      exact r_iret C (by omega) ⟨rfl, rfl, h⟩ dX13_patch_35
    · replace h := h.2 c3
      refine r_bipush (pc' := 14) C dX13_patch_12 (by decide) rfl ?_
      exact r_iret C (by decide) ⟨rfl, rfl, h⟩ dX13_patch_14
set_option maxHeartbeats 4000000 in
set_option maxRecDepth 100000 in
theorem o_X13_cut {Y : Gl} {e : Nat} {P : PN} {x1 : Int} {iv av : IVt} (hx1 : InR x1) (h : 
    ((x1 < 0) →
      P (-1) iv av
    ) ∧
    ((¬ x1 < 0) →
      ((InR (iv 73 23)) →
        ((x1 ≤ (iv 73 23)) →
          (InR ((iv 73 23) - x1)) ∧
          P ((iv 73 23) - x1) (up2 iv 73 23 x1) av
        ) ∧
        ((¬ x1 ≤ (iv 73 23)) →
          P (-1) iv av
        )
      )
    )) : OkN Y e mX13_cut [.ref (gl_b Y + 73), .int (i32 x1)] RV iv av 116 P := by
  refine OkW.of rfl (by show _ ≤ 3; exact Nat.le_of_ble_eq_true rfl) fun X C0 hR => ?_
  have C : CX Y X RX13 "cut" cX13_cut 3 (some .int) e 0 0 := C0
  show Wa Y X 3 (g_MQ Y X 1 (g_N RV 116 P) 0 0) 0 0 0 [(0, .ref (gl_b Y + 73)), (1, .int (i32 x1))] [] RV iv av 116
  refine r_iload_n (pc' := 1) C 1 rfl rfl dX13_cut_0 rfl ?_
  refine r_if_lt (pc' := 4) (tgt := 12) C hx1 dX13_cut_1 (by decide) rfl (fun c1 => ?_) (fun c1 => ?_)
  · replace h := h.1 c1
    refine r_iconst (pc' := 13) C dX13_cut_12 rfl ?_
    exact r_iret C (by decide) ⟨rfl, rfl, h⟩ dX13_cut_13
  · replace h := h.2 c1
    refine r_iload_n (pc' := 5) C 1 rfl rfl dX13_cut_4 rfl ?_
    refine r_aload_n (pc' := 6) C 0 rfl rfl dX13_cut_5 rfl ?_
    refine r_geti (pc' := 9) (k := 73) C fl_X13_329 (by decide) kc_73 (by decide) fr_13_23 dX13_cut_6 rfl (fun f2 => ?_)
    replace h := h f2
    refine r_icmp_le (pc' := 12) (tgt := 14) C hx1 f2 dX13_cut_9 (by decide) rfl (fun c3 => ?_) (fun c3 => ?_)
    · replace h := h.1 c3
      refine r_aload_n (pc' := 15) C 0 rfl rfl dX13_cut_14 rfl ?_
      refine r_geti (pc' := 18) (k := 73) C fl_X13_329 (by decide) kc_73 (by decide) fr_13_23 dX13_cut_15 rfl (fun f4 => ?_)
      refine r_iload_n (pc' := 19) C 1 rfl rfl dX13_cut_18 rfl ?_
      refine r_isub (pc' := 20) C dX13_cut_19 rfl ?_
      refine r_istore_n (pc' := 21) (ls' := [(0, .ref (gl_b Y + 73)), (1, .int (i32 x1)), (2, .int (i32 ((iv 73 23) - x1)))]) C (by decide) rfl rfl dX13_cut_20 rfl ?_
      refine r_aload_n (pc' := 22) C 0 rfl rfl dX13_cut_21 rfl ?_
      refine r_iload_n (pc' := 23) C 1 rfl rfl dX13_cut_22 rfl ?_
      refine r_puti (pc' := 26) (k := 73) C fl_X13_329 (by decide) kc_73 (by decide) fr_13_23 hx1 dX13_cut_23 rfl ?_
      refine r_iload_n (pc' := 27) C 2 rfl rfl dX13_cut_26 rfl ?_
      have o5 := h.1
      replace h := h.2
      exact r_iret C o5 ⟨rfl, rfl, h⟩ dX13_cut_27
    · replace h := h.2 c3
      refine r_iconst (pc' := 13) C dX13_cut_12 rfl ?_
      exact r_iret C (by decide) ⟨rfl, rfl, h⟩ dX13_cut_13
def L_X13_take_57 (Y : Gl) (X : Cx) (P : PN) (x1 : Int) (x3 : Int) (x4 : Int) (iv av : IVt) : Prop := Wa Y X 5 (g_MQ Y X 1 (g_N RV 116 P) 0 0) 0 0 57 [(0, .ref (gl_b Y + 73)), (1, .int (i32 x1)), (3, .int (i32 x3)), (4, .int (i32 x4))] [] RV iv av 116
set_option maxHeartbeats 4000000 in
set_option maxRecDepth 100000 in
theorem w_X13_take_57 {Y : Gl} {X : Cx} {e : Nat} {P : PN} {x1 : Int} {x3 : Int} {x4 : Int} {iv av : IVt} (C : CX Y X RX13 "take" cX13_take 5 (some .int) (e + 4) 0 0) (hx3 : InR x3) (hx4 : InR x4) (h :
    ((x3 ≤ x4) →
      P x3 iv av
    ) ∧
    ((¬ x3 ≤ x4) →
      (0 ≤ (x1 + x4) ∧ (x1 + x4) < 131072) ∧
      ((-128 ≤ (av 89 (x1 + x4).toNat) ∧ (av 89 (x1 + x4).toNat) ≤ 127) →
        (0 ≤ x4 ∧ x4 < 65536) ∧
        L_X13_take_57 Y X P x1 x3 (x4 + 1) iv (up2 av 92 x4.toNat (bm8 (av 89 (x1 + x4).toNat)))
      )
    )) : L_X13_take_57 Y X P x1 x3 x4 iv av := by
  unfold L_X13_take_57
  refine r_iload (pc' := 59) C 3 rfl dX13_take_57 rfl ?_
  refine r_iload_n (pc' := 60) C 2 rfl rfl dX13_take_59 rfl ?_
  refine r_icmp_ge (pc' := 63) (tgt := 85) C hx4 hx3 dX13_take_60 (by decide) rfl (fun c1 => ?_) (fun c1 => ?_)
  · replace h := h.1 c1
    refine r_iload_n (pc' := 86) C 2 rfl rfl dX13_take_85 rfl ?_
    exact r_iret C hx3 ⟨rfl, rfl, h⟩ dX13_take_86
  · replace h := h.2 c1
    refine r_aload_n (pc' := 64) C 0 rfl rfl dX13_take_63 rfl ?_
    refine r_getr (pc' := 67) (k := 73) (r := 92) C fl_X13_71 (by decide) kc_73 (by decide) fr_13_29 RV_73_29 dX13_take_64 rfl ?_
    refine r_iload (pc' := 69) C 3 rfl dX13_take_67 rfl ?_
    refine r_aload_n (pc' := 70) C 0 rfl rfl dX13_take_69 rfl ?_
    refine r_getr (pc' := 73) (k := 73) (r := 89) C fl_X13_62 (by decide) kc_73 (by decide) fr_13_24 RV_73_24 dX13_take_70 rfl ?_
    refine r_iload_n (pc' := 74) C 1 rfl rfl dX13_take_73 rfl ?_
    refine r_iload (pc' := 76) C 3 rfl dX13_take_74 rfl ?_
    refine r_iadd (pc' := 77) C dX13_take_76 rfl ?_
    have o2 := h.1
    replace h := h.2
    refine r_bald (pc' := 78) (k := 89) C (by decide) kc_89 (by have := kl_89; omega) dX13_take_77 rfl (fun f3 => ?_)
    replace h := h f3
    have o4 := h.1
    replace h := h.2
    refine r_bast (pc' := 79) (k := 92) C (by decide) kc_92 (by have := kl_92; omega) dX13_take_78 rfl ?_
    refine r_iinc (pc' := 82) (ls' := [(0, .ref (gl_b Y + 73)), (1, .int (i32 x1)), (3, .int (i32 x3)), (4, .int (i32 (x4 + 1)))]) C 3 rfl (by decide) rfl dX13_take_79 rfl ?_
    refine r_goto (tgt := 57) C dX13_take_82 (by decide) ?_
    exact Wa.sub [0, 1, 2, 3] rfl h
set_option maxHeartbeats 4000000 in
set_option maxRecDepth 100000 in
theorem o_X13_take {Y : Gl} {e : Nat} {P : PN} {x1 : Int} {x2 : Int} {iv av : IVt} (hx1 : InR x1) (hx2 : InR x2) (h : ∀ X : Cx, CX Y X RX13 "take" cX13_take 5 (some .int) (e + 4) 0 0 →
    ((InR (iv 73 28)) →
      (InR ((iv 73 28) + 1)) ∧
      ((InR (iv 73 23)) →
        (InR (x1 + (x2 % 16777216))) ∧
        (((x1 + (x2 % 16777216)) ≤ (iv 73 23)) →
          ((16777216 ≤ x2) →
            L_X13_take_57 Y X P x1 (x2 % 16777216) 0 (up2 iv 73 28 ((iv 73 28) + 1)) av
          ) ∧
          ((¬ 16777216 ≤ x2) →
            ((InR (iv 73 6)) →
              OkN Y (e + 3) mX13_unpack [.ref (gl_b Y + 73), .ref (gl_b Y + 89), .int (i32 x1), .int (i32 (x2 % 16777216)), .ref (gl_b Y + 92), .int (i32 (iv 73 6))] RV (up2 iv 73 28 ((iv 73 28) + 1)) av 116 (fun r8 iv9 av10 =>
                (InR r8) →
                P r8 iv9 av10
              )
            )
          )
        ) ∧
        ((¬ (x1 + (x2 % 16777216)) ≤ (iv 73 23)) →
          P (-1) (up2 iv 73 28 ((iv 73 28) + 1)) av
        )
      )
    )) : OkN Y (e + 4) mX13_take [.ref (gl_b Y + 73), .int (i32 x1), .int (i32 x2)] RV iv av 116 P := by
  refine OkW.of rfl (by show _ ≤ 5; exact Nat.le_of_ble_eq_true rfl) fun X C0 hR => ?_
  have C : CX Y X RX13 "take" cX13_take 5 (some .int) (e + 4) 0 0 := C0
  replace h := h X C
  show Wa Y X 5 (g_MQ Y X 1 (g_N RV 116 P) 0 0) 0 0 0 [(0, .ref (gl_b Y + 73)), (1, .int (i32 x1)), (2, .int (i32 x2))] [] RV iv av 116
  refine r_iload_n (pc' := 1) C 2 rfl rfl dX13_take_0 rfl ?_
  refine r_ldcw (pc' := 4) (x := 16777215) C ct_X13_377 (by decide) dX13_take_1 rfl ?_
  refine r_iandM (pc' := 5) (m := 16777216) C 24 (by decide) (by decide) (by decide) dX13_take_4 rfl ?_
  refine r_istore_n (pc' := 6) (ls' := [(0, .ref (gl_b Y + 73)), (1, .int (i32 x1)), (2, .int (i32 x2)), (3, .int (i32 (x2 % 16777216)))]) C (by decide) rfl rfl dX13_take_5 rfl ?_
  refine r_aload_n (pc' := 7) C 0 rfl rfl dX13_take_6 rfl ?_
  refine r_dup (pc' := 8) C rfl dX13_take_7 rfl ?_
  refine r_geti (pc' := 11) (k := 73) C fl_X13_378 (by decide) kc_73 (by decide) fr_13_28 dX13_take_8 rfl (fun f1 => ?_)
  replace h := h f1
  refine r_iconst (pc' := 12) C dX13_take_11 rfl ?_
  refine r_iadd (pc' := 13) C dX13_take_12 rfl ?_
  have o2 := h.1
  replace h := h.2
  refine r_puti (pc' := 16) (k := 73) C fl_X13_378 (by decide) kc_73 (by decide) fr_13_28 o2 dX13_take_13 rfl ?_
  refine r_iload_n (pc' := 17) C 1 rfl rfl dX13_take_16 rfl ?_
  refine r_iload_n (pc' := 18) C 3 rfl rfl dX13_take_17 rfl ?_
  refine r_iadd (pc' := 19) C dX13_take_18 rfl ?_
  refine r_aload_n (pc' := 20) C 0 rfl rfl dX13_take_19 rfl ?_
  refine r_geti (pc' := 23) (k := 73) C fl_X13_329 (by decide) kc_73 (by decide) fr_13_23 dX13_take_20 rfl (fun f3 => ?_)
  have ef3 : (up2 iv 73 28 ((iv 73 28) + 1)) 73 23 = (iv 73 23) := by simp [up2]
  rw [ef3] at f3 ⊢
  replace h := h f3
  have o4 := h.1
  replace h := h.2
  refine r_icmp_le (pc' := 26) (tgt := 28) C o4 f3 dX13_take_23 (by decide) rfl (fun c5 => ?_) (fun c5 => ?_)
  · replace h := h.1 c5
    refine r_iload_n (pc' := 29) C 2 rfl rfl dX13_take_28 rfl ?_
    refine r_ldcw (pc' := 32) (x := 16777216) C ct_X13_342 (by decide) dX13_take_29 rfl ?_
    refine r_icmp_ge (pc' := 35) (tgt := 54) C hx2 (by decide) dX13_take_32 (by decide) rfl (fun c6 => ?_) (fun c6 => ?_)
    · replace h := h.1 c6
      refine r_iconst (pc' := 55) C dX13_take_54 rfl ?_
      refine r_istore (pc' := 57) (ls' := [(0, .ref (gl_b Y + 73)), (1, .int (i32 x1)), (2, .int (i32 x2)), (3, .int (i32 (x2 % 16777216))), (4, .int (i32 0))]) C (by decide) rfl dX13_take_55 rfl ?_
      exact Wa.sub [0, 1, 3, 4] rfl h
    · replace h := h.2 c6
      refine r_aload_n (pc' := 36) C 0 rfl rfl dX13_take_35 rfl ?_
      refine r_aload_n (pc' := 37) C 0 rfl rfl dX13_take_36 rfl ?_
      refine r_getr (pc' := 40) (k := 73) (r := 89) C fl_X13_62 (by decide) kc_73 (by decide) fr_13_24 RV_73_24 dX13_take_37 rfl ?_
      refine r_iload_n (pc' := 41) C 1 rfl rfl dX13_take_40 rfl ?_
      refine r_iload_n (pc' := 42) C 3 rfl rfl dX13_take_41 rfl ?_
      refine r_aload_n (pc' := 43) C 0 rfl rfl dX13_take_42 rfl ?_
      refine r_getr (pc' := 46) (k := 73) (r := 92) C fl_X13_71 (by decide) kc_73 (by decide) fr_13_29 RV_73_29 dX13_take_43 rfl ?_
      refine r_aload_n (pc' := 47) C 0 rfl rfl dX13_take_46 rfl ?_
      refine r_geti (pc' := 50) (k := 73) C fl_X13_24 (by decide) kc_73 (by decide) fr_13_6 dX13_take_47 rfl (fun f7 => ?_)
      have ef7 : (up2 iv 73 28 ((iv 73 28) + 1)) 73 6 = (iv 73 6) := by simp [up2]
      rw [ef7] at f7 ⊢
      replace h := h f7
      refine c_Vi (pc' := 53) (mt := mX13_unpack) (as := [.ref (gl_b Y + 89), .int (i32 x1), .int (i32 (x2 % 16777216)), .ref (gl_b Y + 92), .int (i32 (iv 73 6))]) (st := []) (k := 73) C h rfl cl_X13_unpack ml_X13_381 im_X13_unpack sl_X13_unpack (by omega) (Nat.le_refl _) (Nat.le_refl _) rfl (by decide) kc_73 (by decide) rfl rfl rfl (Nat.le_of_ble_eq_true rfl) dX13_take_50 rfl (fun r8 iv9 av10 f11 h => ?_)
      replace h := h f11
      exact r_iret C f11 ⟨rfl, rfl, h⟩ dX13_take_53
  · replace h := h.2 c5
    refine r_iconst (pc' := 27) C dX13_take_26 rfl ?_
    exact r_iret C (by decide) ⟨rfl, rfl, h⟩ dX13_take_27
def L_X13_lay_3 (Y : Gl) (X : Cx) (P : PN) (x1 : Int) (x2 : Int) (x3 : Int) (x4 : Int) (x5 : Int) (x6 : Int) (x7 : Int) (iv av : IVt) : Prop := Wa Y X 8 (g_MQ Y X 0 (g_N RV 116 P) 0 0) 0 0 3 [(0, .ref (gl_b Y + 73)), (1, .int (i32 x1)), (2, .int (i32 x2)), (3, .int (i32 x3)), (4, .int (i32 x4)), (5, .int (i32 x5)), (6, .int (i32 x6)), (7, .int (i32 x7))] [] RV iv av 116
set_option maxHeartbeats 4000000 in
set_option maxRecDepth 100000 in
theorem w_X13_lay_3 {Y : Gl} {X : Cx} {e : Nat} {P : PN} {x1 : Int} {x2 : Int} {x3 : Int} {x4 : Int} {x5 : Int} {x6 : Int} {x7 : Int} {iv av : IVt} (C : CX Y X RX13 "lay" cX13_lay 8 none e 0 0) (hx3 : InR x3) (hx4 : InR x4) (hx5 : InR x5) (hx6 : InR x6) (hx7 : InR x7) (h :
    ((x3 ≤ x7) →
      P 0 iv av
    ) ∧
    ((¬ x3 ≤ x7) →
      (InR (x1 + x7)) ∧
      (((x1 + x7) < x5) →
        L_X13_lay_3 Y X P x1 x2 x3 x4 x5 x6 (x7 + 1) iv av
      ) ∧
      ((¬ (x1 + x7) < x5) →
        ((x6 ≤ (x1 + x7)) →
          L_X13_lay_3 Y X P x1 x2 x3 x4 x5 x6 (x7 + 1) iv av
        ) ∧
        ((¬ x6 ≤ (x1 + x7)) →
          ((x4 = 0) →
            (0 ≤ (x2 + x7) ∧ (x2 + x7) < 65536) ∧
            ((-128 ≤ (av 92 (x2 + x7).toNat) ∧ (av 92 (x2 + x7).toNat) ≤ 127) →
              (0 ≤ ((x1 + x7) - x5) ∧ ((x1 + x7) - x5) < 4096) ∧
              L_X13_lay_3 Y X P x1 x2 x3 x4 x5 x6 (x7 + 1) iv (up2 av 91 (((x1 + x7) - x5).toNat) (bm8 (av 92 (x2 + x7).toNat)))
            )
          ) ∧
          ((¬ x4 = 0) →
            (0 ≤ ((x1 + x7) - x5) ∧ ((x1 + x7) - x5) < 4096) ∧
            L_X13_lay_3 Y X P x1 x2 x3 x4 x5 x6 (x7 + 1) iv (up2 av 91 (((x1 + x7) - x5).toNat) (bm8 0))
          )
        )
      )
    )) : L_X13_lay_3 Y X P x1 x2 x3 x4 x5 x6 x7 iv av := by
  unfold L_X13_lay_3
  refine r_iload (pc' := 5) C 7 rfl dX13_lay_3 rfl ?_
  refine r_iload_n (pc' := 6) C 3 rfl rfl dX13_lay_5 rfl ?_
  refine r_icmp_ge (pc' := 9) (tgt := 63) C hx7 hx3 dX13_lay_6 (by decide) rfl (fun c1 => ?_) (fun c1 => ?_)
  · replace h := h.1 c1
    exact r_vret C ⟨rfl, rfl, h⟩ dX13_lay_63
  · replace h := h.2 c1
    refine r_iload_n (pc' := 10) C 1 rfl rfl dX13_lay_9 rfl ?_
    refine r_iload (pc' := 12) C 7 rfl dX13_lay_10 rfl ?_
    refine r_iadd (pc' := 13) C dX13_lay_12 rfl ?_
    refine r_iload (pc' := 15) C 5 rfl dX13_lay_13 rfl ?_
    have o2 := h.1
    replace h := h.2
    refine r_icmp_lt (pc' := 18) (tgt := 57) C o2 hx5 dX13_lay_15 (by decide) rfl (fun c3 => ?_) (fun c3 => ?_)
    · replace h := h.1 c3
      refine r_iinc (pc' := 60) (ls' := [(0, .ref (gl_b Y + 73)), (1, .int (i32 x1)), (2, .int (i32 x2)), (3, .int (i32 x3)), (4, .int (i32 x4)), (5, .int (i32 x5)), (6, .int (i32 x6)), (7, .int (i32 (x7 + 1)))]) C 7 rfl (by decide) rfl dX13_lay_57 rfl ?_
      refine r_goto (tgt := 3) C dX13_lay_60 (by decide) ?_
      exact Wa.sub [0, 1, 2, 3, 4, 5, 6, 7] rfl h
    · replace h := h.2 c3
      refine r_iload_n (pc' := 19) C 1 rfl rfl dX13_lay_18 rfl ?_
      refine r_iload (pc' := 21) C 7 rfl dX13_lay_19 rfl ?_
      refine r_iadd (pc' := 22) C dX13_lay_21 rfl ?_
      refine r_iload (pc' := 24) C 6 rfl dX13_lay_22 rfl ?_
      refine r_icmp_ge (pc' := 27) (tgt := 57) C o2 hx6 dX13_lay_24 (by decide) rfl (fun c4 => ?_) (fun c4 => ?_)
      · replace h := h.1 c4
        refine r_iinc (pc' := 60) (ls' := [(0, .ref (gl_b Y + 73)), (1, .int (i32 x1)), (2, .int (i32 x2)), (3, .int (i32 x3)), (4, .int (i32 x4)), (5, .int (i32 x5)), (6, .int (i32 x6)), (7, .int (i32 (x7 + 1)))]) C 7 rfl (by decide) rfl dX13_lay_57 rfl ?_
        refine r_goto (tgt := 3) C dX13_lay_60 (by decide) ?_
        exact Wa.sub [0, 1, 2, 3, 4, 5, 6, 7] rfl h
      · replace h := h.2 c4
        refine r_aload_n (pc' := 28) C 0 rfl rfl dX13_lay_27 rfl ?_
        refine r_getr (pc' := 31) (k := 73) (r := 91) C fl_X13_68 (by decide) kc_73 (by decide) fr_13_27 RV_73_27 dX13_lay_28 rfl ?_
        refine r_iload_n (pc' := 32) C 1 rfl rfl dX13_lay_31 rfl ?_
        refine r_iload (pc' := 34) C 7 rfl dX13_lay_32 rfl ?_
        refine r_iadd (pc' := 35) C dX13_lay_34 rfl ?_
        refine r_iload (pc' := 37) C 5 rfl dX13_lay_35 rfl ?_
        refine r_isub (pc' := 38) C dX13_lay_37 rfl ?_
        refine r_iload (pc' := 40) C 4 rfl dX13_lay_38 rfl ?_
        refine r_if_eq (pc' := 43) (tgt := 47) C hx4 dX13_lay_40 (by decide) rfl (fun c5 => ?_) (fun c5 => ?_)
        · replace h := h.1 c5
          refine r_aload_n (pc' := 48) C 0 rfl rfl dX13_lay_47 rfl ?_
          refine r_getr (pc' := 51) (k := 73) (r := 92) C fl_X13_71 (by decide) kc_73 (by decide) fr_13_29 RV_73_29 dX13_lay_48 rfl ?_
          refine r_iload_n (pc' := 52) C 2 rfl rfl dX13_lay_51 rfl ?_
          refine r_iload (pc' := 54) C 7 rfl dX13_lay_52 rfl ?_
          refine r_iadd (pc' := 55) C dX13_lay_54 rfl ?_
          have o6 := h.1
          replace h := h.2
          refine r_bald (pc' := 56) (k := 92) C (by decide) kc_92 (by have := kl_92; omega) dX13_lay_55 rfl (fun f7 => ?_)
          replace h := h f7
          have o8 := h.1
          replace h := h.2
          refine r_bast (pc' := 57) (k := 91) C (by decide) kc_91 (by have := kl_91; omega) dX13_lay_56 rfl ?_
          refine r_iinc (pc' := 60) (ls' := [(0, .ref (gl_b Y + 73)), (1, .int (i32 x1)), (2, .int (i32 x2)), (3, .int (i32 x3)), (4, .int (i32 x4)), (5, .int (i32 x5)), (6, .int (i32 x6)), (7, .int (i32 (x7 + 1)))]) C 7 rfl (by decide) rfl dX13_lay_57 rfl ?_
          refine r_goto (tgt := 3) C dX13_lay_60 (by decide) ?_
          exact Wa.sub [0, 1, 2, 3, 4, 5, 6, 7] rfl h
        · replace h := h.2 c5
          refine r_iconst (pc' := 44) C dX13_lay_43 rfl ?_
          refine r_goto (tgt := 56) C dX13_lay_44 (by decide) ?_
          have o9 := h.1
          replace h := h.2
          refine r_bast (pc' := 57) (k := 91) C (by decide) kc_91 (by have := kl_91; omega) dX13_lay_56 rfl ?_
          refine r_iinc (pc' := 60) (ls' := [(0, .ref (gl_b Y + 73)), (1, .int (i32 x1)), (2, .int (i32 x2)), (3, .int (i32 x3)), (4, .int (i32 x4)), (5, .int (i32 x5)), (6, .int (i32 x6)), (7, .int (i32 (x7 + 1)))]) C 7 rfl (by decide) rfl dX13_lay_57 rfl ?_
          refine r_goto (tgt := 3) C dX13_lay_60 (by decide) ?_
          exact Wa.sub [0, 1, 2, 3, 4, 5, 6, 7] rfl h
set_option maxHeartbeats 4000000 in
set_option maxRecDepth 100000 in
theorem o_X13_lay {Y : Gl} {e : Nat} {P : PN} {x1 : Int} {x2 : Int} {x3 : Int} {x4 : Int} {x5 : Int} {x6 : Int} {iv av : IVt} (h : ∀ X : Cx, CX Y X RX13 "lay" cX13_lay 8 none e 0 0 →
    L_X13_lay_3 Y X P x1 x2 x3 x4 x5 x6 0 iv av) : OkN Y e mX13_lay [.ref (gl_b Y + 73), .int (i32 x1), .int (i32 x2), .int (i32 x3), .int (i32 x4), .int (i32 x5), .int (i32 x6)] RV iv av 116 P := by
  refine OkW.of rfl (by show _ ≤ 8; exact Nat.le_of_ble_eq_true rfl) fun X C0 hR => ?_
  have C : CX Y X RX13 "lay" cX13_lay 8 none e 0 0 := C0
  replace h := h X C
  show Wa Y X 8 (g_MQ Y X 0 (g_N RV 116 P) 0 0) 0 0 0 [(0, .ref (gl_b Y + 73)), (1, .int (i32 x1)), (2, .int (i32 x2)), (3, .int (i32 x3)), (4, .int (i32 x4)), (5, .int (i32 x5)), (6, .int (i32 x6))] [] RV iv av 116
  refine r_iconst (pc' := 1) C dX13_lay_0 rfl ?_
  refine r_istore (pc' := 3) (ls' := [(0, .ref (gl_b Y + 73)), (1, .int (i32 x1)), (2, .int (i32 x2)), (3, .int (i32 x3)), (4, .int (i32 x4)), (5, .int (i32 x5)), (6, .int (i32 x6)), (7, .int (i32 0))]) C (by decide) rfl dX13_lay_1 rfl ?_
  exact Wa.sub [0, 1, 2, 3, 4, 5, 6, 7] rfl h
def L_X13_layAll_11 (Y : Gl) (X : Cx) (P : PN) (x1 : Int) (x2 : Int) (x3 : Int) (x4 : Int) (x5 : Int) (iv av : IVt) : Prop := Wa Y X 9 (g_MQ Y X 1 (g_N RV 116 P) 0 0) 0 0 11 [(0, .ref (gl_b Y + 73)), (1, .int (i32 x1)), (2, .int (i32 x2)), (3, .int (i32 x3)), (4, .int (i32 x4)), (5, .int (i32 x5))] [] RV iv av 116
def L_X13_layAll_81 (Y : Gl) (X : Cx) (P : PN) (x1 : Int) (x2 : Int) (x3 : Int) (x4 : Int) (x5 : Int) (x6 : Int) (x7 : Int) (x8 : Int) (iv av : IVt) : Prop := Wa Y X 9 (g_MQ Y X 1 (g_N RV 116 P) 0 0) 0 0 81 [(0, .ref (gl_b Y + 73)), (1, .int (i32 x1)), (2, .int (i32 x2)), (3, .int (i32 x3)), (4, .int (i32 x4)), (5, .int (i32 x5)), (6, .int (i32 x6)), (7, .int (i32 x7)), (8, .int (i32 x8))] [] RV iv av 116
def L_X13_layAll_116 (Y : Gl) (X : Cx) (P : PN) (x1 : Int) (x2 : Int) (x3 : Int) (x4 : Int) (x5 : Int) (x6 : Int) (x7 : Int) (x8 : Int) (iv av : IVt) : Prop := Wa Y X 9 (g_MQ Y X 1 (g_N RV 116 P) 0 0) 0 0 116 [(0, .ref (gl_b Y + 73)), (1, .int (i32 x1)), (2, .int (i32 x2)), (3, .int (i32 x3)), (4, .int (i32 x4)), (5, .int (i32 x5)), (6, .int (i32 x6)), (7, .int (i32 x7)), (8, .int (i32 x8))] [] RV iv av 116
def L_X13_layAll_137 (Y : Gl) (X : Cx) (P : PN) (x1 : Int) (x2 : Int) (x3 : Int) (x4 : Int) (x5 : Int) (x7 : Int) (iv av : IVt) : Prop := Wa Y X 9 (g_MQ Y X 1 (g_N RV 116 P) 0 0) 0 0 137 [(0, .ref (gl_b Y + 73)), (1, .int (i32 x1)), (2, .int (i32 x2)), (3, .int (i32 x3)), (4, .int (i32 x4)), (5, .int (i32 x5)), (7, .int (i32 x7))] [] RV iv av 116
def L_X13_layAll_256 (Y : Gl) (X : Cx) (P : PN) (iv av : IVt) : Prop := Wa Y X 9 (g_MQ Y X 1 (g_N RV 116 P) 0 0) 0 0 256 [] [] RV iv av 116
set_option maxHeartbeats 4000000 in
set_option maxRecDepth 100000 in
theorem w_X13_layAll_256 {Y : Gl} {X : Cx} {e : Nat} {P : PN} {iv av : IVt} (C : CX Y X RX13 "layAll" cX13_layAll 9 (some .boolean) (e + 5) 0 0) (h :
    P 1 iv av) : L_X13_layAll_256 Y X P iv av := by
  unfold L_X13_layAll_256
  refine r_iconst (pc' := 257) C dX13_layAll_256 rfl ?_
  exact r_zret C (by decide) ⟨rfl, rfl, h⟩ dX13_layAll_257
set_option maxHeartbeats 4000000 in
set_option maxRecDepth 100000 in
theorem w_X13_layAll_137 {Y : Gl} {X : Cx} {e : Nat} {P : PN} {x1 : Int} {x2 : Int} {x3 : Int} {x4 : Int} {x5 : Int} {x7 : Int} {iv av : IVt} (C : CX Y X RX13 "layAll" cX13_layAll 9 (some .boolean) (e + 5) 0 0) (h :
    L_X13_layAll_11 Y X P x1 x2 x3 (x4 + (x7 % 16777216)) (x5 + 1) iv av) : L_X13_layAll_137 Y X P x1 x2 x3 x4 x5 x7 iv av := by
  unfold L_X13_layAll_137
  refine r_iload (pc' := 139) C 4 rfl dX13_layAll_137 rfl ?_
  refine r_iload (pc' := 141) C 6 rfl dX13_layAll_139 rfl ?_
  refine r_ldcw (pc' := 144) (x := 16777215) C ct_X13_377 (by decide) dX13_layAll_141 rfl ?_
  refine r_iandM (pc' := 145) (m := 16777216) C 24 (by decide) (by decide) (by decide) dX13_layAll_144 rfl ?_
  refine r_iadd (pc' := 146) C dX13_layAll_145 rfl ?_
  refine r_istore (pc' := 148) (ls' := [(0, .ref (gl_b Y + 73)), (1, .int (i32 x1)), (2, .int (i32 x2)), (3, .int (i32 x3)), (4, .int (i32 (x4 + (x7 % 16777216)))), (5, .int (i32 x5)), (7, .int (i32 x7))]) C (by decide) rfl dX13_layAll_146 rfl ?_
  refine r_iinc (pc' := 151) (ls' := [(0, .ref (gl_b Y + 73)), (1, .int (i32 x1)), (2, .int (i32 x2)), (3, .int (i32 x3)), (4, .int (i32 (x4 + (x7 % 16777216)))), (5, .int (i32 (x5 + 1))), (7, .int (i32 x7))]) C 5 rfl (by decide) rfl dX13_layAll_148 rfl ?_
  refine r_goto (tgt := 11) C dX13_layAll_151 (by decide) ?_
  exact Wa.sub [0, 1, 2, 3, 4, 5] rfl h
set_option maxHeartbeats 4000000 in
set_option maxRecDepth 100000 in
theorem w_X13_layAll_116 {Y : Gl} {X : Cx} {e : Nat} {P : PN} {x1 : Int} {x2 : Int} {x3 : Int} {x4 : Int} {x5 : Int} {x6 : Int} {x7 : Int} {x8 : Int} {iv av : IVt} (C : CX Y X RX13 "layAll" cX13_layAll 9 (some .boolean) (e + 5) 0 0) (hx2 : InR x2) (hx3 : InR x3) (hx6 : InR x6) (hx7 : InR x7) (hx8 : InR x8) (h :
    ((¬ x7 = 0) →
      OkN Y (e + 4) mX13_lay [.ref (gl_b Y + 73), .int (i32 x6), .int (i32 0), .int (i32 x8), .int (i32 0), .int (i32 x2), .int (i32 x3)] RV iv av 116 (fun r2 iv3 av4 =>
        L_X13_layAll_137 Y X P x1 x2 x3 x4 x5 x7 iv3 av4
      )
    ) ∧
    ((x7 = 0) →
      OkN Y (e + 4) mX13_lay [.ref (gl_b Y + 73), .int (i32 x6), .int (i32 0), .int (i32 x8), .int (i32 1), .int (i32 x2), .int (i32 x3)] RV iv av 116 (fun r6 iv7 av8 =>
        L_X13_layAll_137 Y X P x1 x2 x3 x4 x5 x7 iv7 av8
      )
    )) : L_X13_layAll_116 Y X P x1 x2 x3 x4 x5 x6 x7 x8 iv av := by
  unfold L_X13_layAll_116
  refine r_aload_n (pc' := 117) C 0 rfl rfl dX13_layAll_116 rfl ?_
  refine r_iload (pc' := 119) C 6 rfl dX13_layAll_117 rfl ?_
  refine r_iconst (pc' := 120) C dX13_layAll_119 rfl ?_
  refine r_iload (pc' := 122) C 8 rfl dX13_layAll_120 rfl ?_
  refine r_iload (pc' := 124) C 7 rfl dX13_layAll_122 rfl ?_
  refine r_if_ne (pc' := 127) (tgt := 131) C hx7 dX13_layAll_124 (by decide) rfl (fun c1 => ?_) (fun c1 => ?_)
  · replace h := h.1 c1
    refine r_iconst (pc' := 132) C dX13_layAll_131 rfl ?_
    refine r_iload_n (pc' := 133) C 2 rfl rfl dX13_layAll_132 rfl ?_
    refine r_iload_n (pc' := 134) C 3 rfl rfl dX13_layAll_133 rfl ?_
    refine c_Vv (pc' := 137) (mt := mX13_lay) (as := [.int (i32 x6), .int (i32 0), .int (i32 x8), .int (i32 0), .int (i32 x2), .int (i32 x3)]) (st := []) (k := 73) C h rfl cl_X13_lay ml_X13_388 im_X13_lay sl_X13_lay (by omega) (Nat.le_refl _) (Nat.le_refl _) rfl (by decide) kc_73 (by decide) rfl rfl rfl (Nat.le_of_ble_eq_true rfl) dX13_layAll_134 rfl (fun r2 iv3 av4 h => ?_)
    exact Wa.sub [0, 1, 2, 3, 4, 5, 7] rfl h
  · replace h := h.2 c1
    refine r_iconst (pc' := 128) C dX13_layAll_127 rfl ?_
    refine r_goto (tgt := 132) C dX13_layAll_128 (by decide) ?_
    refine r_iload_n (pc' := 133) C 2 rfl rfl dX13_layAll_132 rfl ?_
    refine r_iload_n (pc' := 134) C 3 rfl rfl dX13_layAll_133 rfl ?_
    refine c_Vv (pc' := 137) (mt := mX13_lay) (as := [.int (i32 x6), .int (i32 0), .int (i32 x8), .int (i32 1), .int (i32 x2), .int (i32 x3)]) (st := []) (k := 73) C h rfl cl_X13_lay ml_X13_388 im_X13_lay sl_X13_lay (by omega) (Nat.le_refl _) (Nat.le_refl _) rfl (by decide) kc_73 (by decide) rfl rfl rfl (Nat.le_of_ble_eq_true rfl) dX13_layAll_134 rfl (fun r6 iv7 av8 h => ?_)
    exact Wa.sub [0, 1, 2, 3, 4, 5, 7] rfl h
set_option maxHeartbeats 4000000 in
set_option maxRecDepth 100000 in
theorem w_X13_layAll_81 {Y : Gl} {X : Cx} {e : Nat} {P : PN} {x1 : Int} {x2 : Int} {x3 : Int} {x4 : Int} {x5 : Int} {x6 : Int} {x7 : Int} {x8 : Int} {iv av : IVt} (C : CX Y X RX13 "layAll" cX13_layAll 9 (some .boolean) (e + 5) 0 0) (hx2 : InR x2) (hx3 : InR x3) (hx4 : InR x4) (hx6 : InR x6) (hx7 : InR x7) (hx8 : InR x8) (h :
    ((x3 ≤ x6) →
      L_X13_layAll_137 Y X P x1 x2 x3 x4 x5 x7 iv av
    ) ∧
    ((¬ x3 ≤ x6) →
      (InR (x6 + x8)) ∧
      (((x6 + x8) ≤ x2) →
        L_X13_layAll_137 Y X P x1 x2 x3 x4 x5 x7 iv av
      ) ∧
      ((¬ (x6 + x8) ≤ x2) →
        ((x7 = 0) →
          L_X13_layAll_116 Y X P x1 x2 x3 x4 x5 x6 x7 x8 iv av
        ) ∧
        ((¬ x7 = 0) →
          OkN Y (e + 4) mX13_take [.ref (gl_b Y + 73), .int (i32 x4), .int (i32 x7)] RV iv av 116 (fun r5 iv6 av7 =>
            (InR r5) →
            ((r5 = x8) →
              L_X13_layAll_116 Y X P x1 x2 x3 x4 x5 x6 x7 x8 iv6 av7
            ) ∧
            ((¬ r5 = x8) →
              P 0 iv6 av7
            )
          )
        )
      )
    )) : L_X13_layAll_81 Y X P x1 x2 x3 x4 x5 x6 x7 x8 iv av := by
  unfold L_X13_layAll_81
  refine r_iload (pc' := 83) C 6 rfl dX13_layAll_81 rfl ?_
  refine r_iload_n (pc' := 84) C 3 rfl rfl dX13_layAll_83 rfl ?_
  refine r_icmp_ge (pc' := 87) (tgt := 137) C hx6 hx3 dX13_layAll_84 (by decide) rfl (fun c1 => ?_) (fun c1 => ?_)
  · replace h := h.1 c1
    exact Wa.sub [0, 1, 2, 3, 4, 5, 7] rfl h
  · replace h := h.2 c1
    refine r_iload (pc' := 89) C 6 rfl dX13_layAll_87 rfl ?_
    refine r_iload (pc' := 91) C 8 rfl dX13_layAll_89 rfl ?_
    refine r_iadd (pc' := 92) C dX13_layAll_91 rfl ?_
    refine r_iload_n (pc' := 93) C 2 rfl rfl dX13_layAll_92 rfl ?_
    have o2 := h.1
    replace h := h.2
    refine r_icmp_le (pc' := 96) (tgt := 137) C o2 hx2 dX13_layAll_93 (by decide) rfl (fun c3 => ?_) (fun c3 => ?_)
    · replace h := h.1 c3
      exact Wa.sub [0, 1, 2, 3, 4, 5, 7] rfl h
    · replace h := h.2 c3
      refine r_iload (pc' := 98) C 7 rfl dX13_layAll_96 rfl ?_
      refine r_if_eq (pc' := 101) (tgt := 116) C hx7 dX13_layAll_98 (by decide) rfl (fun c4 => ?_) (fun c4 => ?_)
      · replace h := h.1 c4
        exact Wa.sub [0, 1, 2, 3, 4, 5, 6, 7, 8] rfl h
      · replace h := h.2 c4
        refine r_aload_n (pc' := 102) C 0 rfl rfl dX13_layAll_101 rfl ?_
        refine r_iload (pc' := 104) C 4 rfl dX13_layAll_102 rfl ?_
        refine r_iload (pc' := 106) C 7 rfl dX13_layAll_104 rfl ?_
        refine c_Vi (pc' := 109) (mt := mX13_take) (as := [.int (i32 x4), .int (i32 x7)]) (st := []) (k := 73) C h rfl cl_X13_take ml_X13_385 im_X13_take sl_X13_take (by omega) (Nat.le_refl _) (Nat.le_refl _) rfl (by decide) kc_73 (by decide) rfl rfl rfl (Nat.le_of_ble_eq_true rfl) dX13_layAll_106 rfl (fun r5 iv6 av7 f8 h => ?_)
        replace h := h f8
        refine r_iload (pc' := 111) C 8 rfl dX13_layAll_109 rfl ?_
        refine r_icmp_eq (pc' := 114) (tgt := 116) C f8 hx8 dX13_layAll_111 (by decide) rfl (fun c9 => ?_) (fun c9 => ?_)
        · replace h := h.1 c9
          exact Wa.sub [0, 1, 2, 3, 4, 5, 6, 7, 8] rfl h
        · replace h := h.2 c9
          refine r_iconst (pc' := 115) C dX13_layAll_114 rfl ?_
          exact r_zret C (by decide) ⟨rfl, rfl, h⟩ dX13_layAll_115
set_option maxHeartbeats 4000000 in
set_option maxRecDepth 100000 in
theorem w_X13_layAll_11 {Y : Gl} {X : Cx} {e : Nat} {P : PN} {x1 : Int} {x2 : Int} {x3 : Int} {x4 : Int} {x5 : Int} {iv av : IVt} (C : CX Y X RX13 "layAll" cX13_layAll 9 (some .boolean) (e + 5) 0 0) (hx2 : InR x2) (hx3 : InR x3) (hx5 : InR x5) (h :
    (0 ≤ x1 ∧ x1 < 64) ∧
    ((InR (av 81 x1.toNat)) →
      (((av 81 x1.toNat) ≤ x5) →
        ((InR (av 78 x1.toNat)) →
          ((InR (iv 73 6)) →
            (0 ≤ (av 78 x1.toNat)) ∧
            (0 < (iv 73 6)) ∧
            ((InR (av 82 x1.toNat)) →
              (((av 82 x1.toNat) < 0) →
                L_X13_layAll_256 Y X P iv av
              ) ∧
              ((¬ (av 82 x1.toNat) < 0) →
                (InR ((av 78 x1.toNat) - ((av 78 x1.toNat) % (iv 73 6)))) ∧
                ((x3 ≤ ((av 78 x1.toNat) - ((av 78 x1.toNat) % (iv 73 6)))) →
                  L_X13_layAll_256 Y X P iv av
                ) ∧
                ((¬ x3 ≤ ((av 78 x1.toNat) - ((av 78 x1.toNat) % (iv 73 6)))) →
                  (((av 78 x1.toNat) ≤ x2) →
                    L_X13_layAll_256 Y X P iv av
                  ) ∧
                  ((¬ (av 78 x1.toNat) ≤ x2) →
                    (0 ≤ (av 82 x1.toNat) ∧ (av 82 x1.toNat) < 64) ∧
                    ((InR (av 86 (av 82 x1.toNat).toNat)) →
                      ((InR (av 87 (av 82 x1.toNat).toNat)) →
                        OkN Y (e + 4) mX13_take [.ref (gl_b Y + 73), .int (i32 (av 86 (av 82 x1.toNat).toNat)), .int (i32 (av 87 (av 82 x1.toNat).toNat))] RV iv av 116 (fun r18 iv19 av20 =>
                          (InR r18) →
                          ((InR (av20 83 x1.toNat)) →
                            (InR ((av20 83 x1.toNat) + ((av 78 x1.toNat) % (iv 73 6)))) ∧
                            ((((av20 83 x1.toNat) + ((av 78 x1.toNat) % (iv 73 6))) ≤ r18) →
                              (InR ((av 78 x1.toNat) % (iv 73 6))) ∧
                              OkN Y (e + 4) mX13_lay [.ref (gl_b Y + 73), .int (i32 ((av 78 x1.toNat) - ((av 78 x1.toNat) % (iv 73 6)))), .int (i32 (av20 83 x1.toNat)), .int (i32 ((av 78 x1.toNat) % (iv 73 6))), .int (i32 0), .int (i32 x2), .int (i32 x3)] RV iv19 av20 116 (fun r27 iv28 av29 =>
                                L_X13_layAll_256 Y X P iv28 av29
                              )
                            ) ∧
                            ((¬ ((av20 83 x1.toNat) + ((av 78 x1.toNat) % (iv 73 6))) ≤ r18) →
                              P 0 iv19 av20
                            )
                          )
                        )
                      )
                    )
                  )
                )
              )
            )
          )
        )
      ) ∧
      ((¬ (av 81 x1.toNat) ≤ x5) →
        ((InR (iv 73 6)) →
          ((InR (av 80 x1.toNat)) →
            (0 ≤ ((av 80 x1.toNat) + x5) ∧ ((av 80 x1.toNat) + x5) < 128) ∧
            ((InR (av 85 ((av 80 x1.toNat) + x5).toNat)) →
              ((InR (av 78 x1.toNat)) →
                (InR ((av 78 x1.toNat) - (x5 * (iv 73 6)))) ∧
                (((iv 73 6) ≤ ((av 78 x1.toNat) - (x5 * (iv 73 6)))) →
                  L_X13_layAll_81 Y X P x1 x2 x3 x4 x5 (x5 * (iv 73 6)) (av 85 ((av 80 x1.toNat) + x5).toNat) (iv 73 6) iv av
                ) ∧
                ((¬ (iv 73 6) ≤ ((av 78 x1.toNat) - (x5 * (iv 73 6)))) →
                  L_X13_layAll_81 Y X P x1 x2 x3 x4 x5 (x5 * (iv 73 6)) (av 85 ((av 80 x1.toNat) + x5).toNat) ((av 78 x1.toNat) - (x5 * (iv 73 6))) iv av
                )
              )
            )
          )
        )
      )
    )) : L_X13_layAll_11 Y X P x1 x2 x3 x4 x5 iv av := by
  unfold L_X13_layAll_11
  refine r_iload (pc' := 13) C 5 rfl dX13_layAll_11 rfl ?_
  refine r_aload_n (pc' := 14) C 0 rfl rfl dX13_layAll_13 rfl ?_
  refine r_getr (pc' := 17) (k := 73) (r := 81) C fl_X13_37 (by decide) kc_73 (by decide) fr_13_12 RV_73_12 dX13_layAll_14 rfl ?_
  refine r_iload_n (pc' := 18) C 1 rfl rfl dX13_layAll_17 rfl ?_
  have o1 := h.1
  replace h := h.2
  refine r_iald (pc' := 19) (k := 81) C (by decide) kc_81 (by have := kl_81; omega) dX13_layAll_18 rfl (fun f2 => ?_)
  replace h := h f2
  refine r_icmp_ge (pc' := 22) (tgt := 154) C hx5 f2 dX13_layAll_19 (by decide) rfl (fun c3 => ?_) (fun c3 => ?_)
  · replace h := h.1 c3
    refine r_aload_n (pc' := 155) C 0 rfl rfl dX13_layAll_154 rfl ?_
    refine r_getr (pc' := 158) (k := 73) (r := 78) C fl_X13_28 (by decide) kc_73 (by decide) fr_13_9 RV_73_9 dX13_layAll_155 rfl ?_
    refine r_iload_n (pc' := 159) C 1 rfl rfl dX13_layAll_158 rfl ?_
    refine r_iald (pc' := 160) (k := 78) C (by decide) kc_78 (by have := kl_78; omega) dX13_layAll_159 rfl (fun f4 => ?_)
    replace h := h f4
    refine r_aload_n (pc' := 161) C 0 rfl rfl dX13_layAll_160 rfl ?_
    refine r_geti (pc' := 164) (k := 73) C fl_X13_24 (by decide) kc_73 (by decide) fr_13_6 dX13_layAll_161 rfl (fun f5 => ?_)
    replace h := h f5
    have o6 := h.1
    replace h := h.2
    have o7 := h.1
    replace h := h.2
    refine r_irem (pc' := 165) C ⟨o6, f4⟩ ⟨o7, f5⟩ dX13_layAll_164 rfl ?_
    refine r_istore (pc' := 167) (ls' := [(0, .ref (gl_b Y + 73)), (1, .int (i32 x1)), (2, .int (i32 x2)), (3, .int (i32 x3)), (4, .int (i32 x4)), (5, .int (i32 ((av 78 x1.toNat) % (iv 73 6))))]) C (by decide) rfl dX13_layAll_165 rfl ?_
    refine r_aload_n (pc' := 168) C 0 rfl rfl dX13_layAll_167 rfl ?_
    refine r_getr (pc' := 171) (k := 73) (r := 78) C fl_X13_28 (by decide) kc_73 (by decide) fr_13_9 RV_73_9 dX13_layAll_168 rfl ?_
    refine r_iload_n (pc' := 172) C 1 rfl rfl dX13_layAll_171 rfl ?_
    refine r_iald (pc' := 173) (k := 78) C (by decide) kc_78 (by have := kl_78; omega) dX13_layAll_172 rfl (fun f8 => ?_)
    refine r_iload (pc' := 175) C 5 rfl dX13_layAll_173 rfl ?_
    refine r_isub (pc' := 176) C dX13_layAll_175 rfl ?_
    refine r_istore (pc' := 178) (ls' := [(0, .ref (gl_b Y + 73)), (1, .int (i32 x1)), (2, .int (i32 x2)), (3, .int (i32 x3)), (4, .int (i32 x4)), (5, .int (i32 ((av 78 x1.toNat) % (iv 73 6)))), (6, .int (i32 ((av 78 x1.toNat) - ((av 78 x1.toNat) % (iv 73 6)))))]) C (by decide) rfl dX13_layAll_176 rfl ?_
    refine r_aload_n (pc' := 179) C 0 rfl rfl dX13_layAll_178 rfl ?_
    refine r_getr (pc' := 182) (k := 73) (r := 82) C fl_X13_40 (by decide) kc_73 (by decide) fr_13_13 RV_73_13 dX13_layAll_179 rfl ?_
    refine r_iload_n (pc' := 183) C 1 rfl rfl dX13_layAll_182 rfl ?_
    refine r_iald (pc' := 184) (k := 82) C (by decide) kc_82 (by have := kl_82; omega) dX13_layAll_183 rfl (fun f9 => ?_)
    replace h := h f9
    refine r_istore (pc' := 186) (ls' := [(0, .ref (gl_b Y + 73)), (1, .int (i32 x1)), (2, .int (i32 x2)), (3, .int (i32 x3)), (4, .int (i32 x4)), (5, .int (i32 ((av 78 x1.toNat) % (iv 73 6)))), (6, .int (i32 ((av 78 x1.toNat) - ((av 78 x1.toNat) % (iv 73 6))))), (7, .int (i32 (av 82 x1.toNat)))]) C (by decide) rfl dX13_layAll_184 rfl ?_
    refine r_iload (pc' := 188) C 7 rfl dX13_layAll_186 rfl ?_
    refine r_if_lt (pc' := 191) (tgt := 256) C f9 dX13_layAll_188 (by decide) rfl (fun c10 => ?_) (fun c10 => ?_)
    · replace h := h.1 c10
      exact Wa.sub [] rfl h
    · replace h := h.2 c10
      refine r_iload (pc' := 193) C 6 rfl dX13_layAll_191 rfl ?_
      refine r_iload_n (pc' := 194) C 3 rfl rfl dX13_layAll_193 rfl ?_
      have o11 := h.1
      replace h := h.2
      refine r_icmp_ge (pc' := 197) (tgt := 256) C o11 hx3 dX13_layAll_194 (by decide) rfl (fun c12 => ?_) (fun c12 => ?_)
      · replace h := h.1 c12
        exact Wa.sub [] rfl h
      · replace h := h.2 c12
        refine r_aload_n (pc' := 198) C 0 rfl rfl dX13_layAll_197 rfl ?_
        refine r_getr (pc' := 201) (k := 73) (r := 78) C fl_X13_28 (by decide) kc_73 (by decide) fr_13_9 RV_73_9 dX13_layAll_198 rfl ?_
        refine r_iload_n (pc' := 202) C 1 rfl rfl dX13_layAll_201 rfl ?_
        refine r_iald (pc' := 203) (k := 78) C (by decide) kc_78 (by have := kl_78; omega) dX13_layAll_202 rfl (fun f13 => ?_)
        refine r_iload_n (pc' := 204) C 2 rfl rfl dX13_layAll_203 rfl ?_
        refine r_icmp_le (pc' := 207) (tgt := 256) C f4 hx2 dX13_layAll_204 (by decide) rfl (fun c14 => ?_) (fun c14 => ?_)
        · replace h := h.1 c14
          exact Wa.sub [] rfl h
        · replace h := h.2 c14
          refine r_aload_n (pc' := 208) C 0 rfl rfl dX13_layAll_207 rfl ?_
          refine r_aload_n (pc' := 209) C 0 rfl rfl dX13_layAll_208 rfl ?_
          refine r_getr (pc' := 212) (k := 73) (r := 86) C fl_X13_52 (by decide) kc_73 (by decide) fr_13_19 RV_73_19 dX13_layAll_209 rfl ?_
          refine r_iload (pc' := 214) C 7 rfl dX13_layAll_212 rfl ?_
          have o15 := h.1
          replace h := h.2
          refine r_iald (pc' := 215) (k := 86) C (by decide) kc_86 (by have := kl_86; omega) dX13_layAll_214 rfl (fun f16 => ?_)
          replace h := h f16
          refine r_aload_n (pc' := 216) C 0 rfl rfl dX13_layAll_215 rfl ?_
          refine r_getr (pc' := 219) (k := 73) (r := 87) C fl_X13_55 (by decide) kc_73 (by decide) fr_13_20 RV_73_20 dX13_layAll_216 rfl ?_
          refine r_iload (pc' := 221) C 7 rfl dX13_layAll_219 rfl ?_
          refine r_iald (pc' := 222) (k := 87) C (by decide) kc_87 (by have := kl_87; omega) dX13_layAll_221 rfl (fun f17 => ?_)
          replace h := h f17
          refine c_Vi (pc' := 225) (mt := mX13_take) (as := [.int (i32 (av 86 (av 82 x1.toNat).toNat)), .int (i32 (av 87 (av 82 x1.toNat).toNat))]) (st := []) (k := 73) C h rfl cl_X13_take ml_X13_385 im_X13_take sl_X13_take (by omega) (Nat.le_refl _) (Nat.le_refl _) rfl (by decide) kc_73 (by decide) rfl rfl rfl (Nat.le_of_ble_eq_true rfl) dX13_layAll_222 rfl (fun r18 iv19 av20 f21 h => ?_)
          replace h := h f21
          refine r_aload_n (pc' := 226) C 0 rfl rfl dX13_layAll_225 rfl ?_
          refine r_getr (pc' := 229) (k := 73) (r := 83) C fl_X13_43 (by decide) kc_73 (by decide) fr_13_14 RV_73_14 dX13_layAll_226 rfl ?_
          refine r_iload_n (pc' := 230) C 1 rfl rfl dX13_layAll_229 rfl ?_
          refine r_iald (pc' := 231) (k := 83) C (by decide) kc_83 (by have := kl_83; omega) dX13_layAll_230 rfl (fun f22 => ?_)
          replace h := h f22
          refine r_iload (pc' := 233) C 5 rfl dX13_layAll_231 rfl ?_
          refine r_iadd (pc' := 234) C dX13_layAll_233 rfl ?_
          have o23 := h.1
          replace h := h.2
          refine r_icmp_ge (pc' := 237) (tgt := 239) C f21 o23 dX13_layAll_234 (by decide) rfl (fun c24 => ?_) (fun c24 => ?_)
          · replace h := h.1 c24
            refine r_aload_n (pc' := 240) C 0 rfl rfl dX13_layAll_239 rfl ?_
            refine r_iload (pc' := 242) C 6 rfl dX13_layAll_240 rfl ?_
            refine r_aload_n (pc' := 243) C 0 rfl rfl dX13_layAll_242 rfl ?_
            refine r_getr (pc' := 246) (k := 73) (r := 83) C fl_X13_43 (by decide) kc_73 (by decide) fr_13_14 RV_73_14 dX13_layAll_243 rfl ?_
            refine r_iload_n (pc' := 247) C 1 rfl rfl dX13_layAll_246 rfl ?_
            refine r_iald (pc' := 248) (k := 83) C (by decide) kc_83 (by have := kl_83; omega) dX13_layAll_247 rfl (fun f25 => ?_)
            refine r_iload (pc' := 250) C 5 rfl dX13_layAll_248 rfl ?_
            refine r_iconst (pc' := 251) C dX13_layAll_250 rfl ?_
            refine r_iload_n (pc' := 252) C 2 rfl rfl dX13_layAll_251 rfl ?_
            refine r_iload_n (pc' := 253) C 3 rfl rfl dX13_layAll_252 rfl ?_
            have o26 := h.1
            replace h := h.2
            refine c_Vv (pc' := 256) (mt := mX13_lay) (as := [.int (i32 ((av 78 x1.toNat) - ((av 78 x1.toNat) % (iv 73 6)))), .int (i32 (av20 83 x1.toNat)), .int (i32 ((av 78 x1.toNat) % (iv 73 6))), .int (i32 0), .int (i32 x2), .int (i32 x3)]) (st := []) (k := 73) C h rfl cl_X13_lay ml_X13_388 im_X13_lay sl_X13_lay (by omega) (Nat.le_refl _) (Nat.le_refl _) rfl (by decide) kc_73 (by decide) rfl rfl rfl (Nat.le_of_ble_eq_true rfl) dX13_layAll_253 rfl (fun r27 iv28 av29 h => ?_)
            exact Wa.sub [] rfl h
          · replace h := h.2 c24
            refine r_iconst (pc' := 238) C dX13_layAll_237 rfl ?_
            exact r_zret C (by decide) ⟨rfl, rfl, h⟩ dX13_layAll_238
  · replace h := h.2 c3
    refine r_iload (pc' := 24) C 5 rfl dX13_layAll_22 rfl ?_
    refine r_aload_n (pc' := 25) C 0 rfl rfl dX13_layAll_24 rfl ?_
    refine r_geti (pc' := 28) (k := 73) C fl_X13_24 (by decide) kc_73 (by decide) fr_13_6 dX13_layAll_25 rfl (fun f31 => ?_)
    replace h := h f31
    refine r_imul (pc' := 29) C dX13_layAll_28 rfl ?_
    refine r_istore (pc' := 31) (ls' := [(0, .ref (gl_b Y + 73)), (1, .int (i32 x1)), (2, .int (i32 x2)), (3, .int (i32 x3)), (4, .int (i32 x4)), (5, .int (i32 x5)), (6, .int (i32 (x5 * (iv 73 6))))]) C (by decide) rfl dX13_layAll_29 rfl ?_
    refine r_aload_n (pc' := 32) C 0 rfl rfl dX13_layAll_31 rfl ?_
    refine r_getr (pc' := 35) (k := 73) (r := 85) C fl_X13_49 (by decide) kc_73 (by decide) fr_13_17 RV_73_17 dX13_layAll_32 rfl ?_
    refine r_aload_n (pc' := 36) C 0 rfl rfl dX13_layAll_35 rfl ?_
    refine r_getr (pc' := 39) (k := 73) (r := 80) C fl_X13_34 (by decide) kc_73 (by decide) fr_13_11 RV_73_11 dX13_layAll_36 rfl ?_
    refine r_iload_n (pc' := 40) C 1 rfl rfl dX13_layAll_39 rfl ?_
    refine r_iald (pc' := 41) (k := 80) C (by decide) kc_80 (by have := kl_80; omega) dX13_layAll_40 rfl (fun f32 => ?_)
    replace h := h f32
    refine r_iload (pc' := 43) C 5 rfl dX13_layAll_41 rfl ?_
    refine r_iadd (pc' := 44) C dX13_layAll_43 rfl ?_
    have o33 := h.1
    replace h := h.2
    refine r_iald (pc' := 45) (k := 85) C (by decide) kc_85 (by have := kl_85; omega) dX13_layAll_44 rfl (fun f34 => ?_)
    replace h := h f34
    refine r_istore (pc' := 47) (ls' := [(0, .ref (gl_b Y + 73)), (1, .int (i32 x1)), (2, .int (i32 x2)), (3, .int (i32 x3)), (4, .int (i32 x4)), (5, .int (i32 x5)), (6, .int (i32 (x5 * (iv 73 6)))), (7, .int (i32 (av 85 ((av 80 x1.toNat) + x5).toNat)))]) C (by decide) rfl dX13_layAll_45 rfl ?_
    refine r_aload_n (pc' := 48) C 0 rfl rfl dX13_layAll_47 rfl ?_
    refine r_getr (pc' := 51) (k := 73) (r := 78) C fl_X13_28 (by decide) kc_73 (by decide) fr_13_9 RV_73_9 dX13_layAll_48 rfl ?_
    refine r_iload_n (pc' := 52) C 1 rfl rfl dX13_layAll_51 rfl ?_
    refine r_iald (pc' := 53) (k := 78) C (by decide) kc_78 (by have := kl_78; omega) dX13_layAll_52 rfl (fun f35 => ?_)
    replace h := h f35
    refine r_iload (pc' := 55) C 6 rfl dX13_layAll_53 rfl ?_
    refine r_isub (pc' := 56) C dX13_layAll_55 rfl ?_
    refine r_aload_n (pc' := 57) C 0 rfl rfl dX13_layAll_56 rfl ?_
    refine r_geti (pc' := 60) (k := 73) C fl_X13_24 (by decide) kc_73 (by decide) fr_13_6 dX13_layAll_57 rfl (fun f36 => ?_)
    have o37 := h.1
    replace h := h.2
    refine r_icmp_ge (pc' := 63) (tgt := 75) C o37 f31 dX13_layAll_60 (by decide) rfl (fun c38 => ?_) (fun c38 => ?_)
    · replace h := h.1 c38
      refine r_aload_n (pc' := 76) C 0 rfl rfl dX13_layAll_75 rfl ?_
      refine r_geti (pc' := 79) (k := 73) C fl_X13_24 (by decide) kc_73 (by decide) fr_13_6 dX13_layAll_76 rfl (fun f39 => ?_)
      refine r_istore (pc' := 81) (ls' := [(0, .ref (gl_b Y + 73)), (1, .int (i32 x1)), (2, .int (i32 x2)), (3, .int (i32 x3)), (4, .int (i32 x4)), (5, .int (i32 x5)), (6, .int (i32 (x5 * (iv 73 6)))), (7, .int (i32 (av 85 ((av 80 x1.toNat) + x5).toNat))), (8, .int (i32 (iv 73 6)))]) C (by decide) rfl dX13_layAll_79 rfl ?_
      exact Wa.sub [0, 1, 2, 3, 4, 5, 6, 7, 8] rfl h
    · replace h := h.2 c38
      refine r_aload_n (pc' := 64) C 0 rfl rfl dX13_layAll_63 rfl ?_
      refine r_getr (pc' := 67) (k := 73) (r := 78) C fl_X13_28 (by decide) kc_73 (by decide) fr_13_9 RV_73_9 dX13_layAll_64 rfl ?_
      refine r_iload_n (pc' := 68) C 1 rfl rfl dX13_layAll_67 rfl ?_
      refine r_iald (pc' := 69) (k := 78) C (by decide) kc_78 (by have := kl_78; omega) dX13_layAll_68 rfl (fun f40 => ?_)
      refine r_iload (pc' := 71) C 6 rfl dX13_layAll_69 rfl ?_
      refine r_isub (pc' := 72) C dX13_layAll_71 rfl ?_
      refine r_goto (tgt := 79) C dX13_layAll_72 (by decide) ?_
      refine r_istore (pc' := 81) (ls' := [(0, .ref (gl_b Y + 73)), (1, .int (i32 x1)), (2, .int (i32 x2)), (3, .int (i32 x3)), (4, .int (i32 x4)), (5, .int (i32 x5)), (6, .int (i32 (x5 * (iv 73 6)))), (7, .int (i32 (av 85 ((av 80 x1.toNat) + x5).toNat))), (8, .int (i32 ((av 78 x1.toNat) - (x5 * (iv 73 6)))))]) C (by decide) rfl dX13_layAll_79 rfl ?_
      exact Wa.sub [0, 1, 2, 3, 4, 5, 6, 7, 8] rfl h
set_option maxHeartbeats 4000000 in
set_option maxRecDepth 100000 in
theorem o_X13_layAll {Y : Gl} {e : Nat} {P : PN} {x1 : Int} {x2 : Int} {x3 : Int} {iv av : IVt} (h : ∀ X : Cx, CX Y X RX13 "layAll" cX13_layAll 9 (some .boolean) (e + 5) 0 0 →
    (0 ≤ x1 ∧ x1 < 64) ∧
    ((InR (av 79 x1.toNat)) →
      L_X13_layAll_11 Y X P x1 x2 x3 (av 79 x1.toNat) 0 iv av
    )) : OkN Y (e + 5) mX13_layAll [.ref (gl_b Y + 73), .int (i32 x1), .int (i32 x2), .int (i32 x3)] RV iv av 116 P := by
  refine OkW.of rfl (by show _ ≤ 9; exact Nat.le_of_ble_eq_true rfl) fun X C0 hR => ?_
  have C : CX Y X RX13 "layAll" cX13_layAll 9 (some .boolean) (e + 5) 0 0 := C0
  replace h := h X C
  show Wa Y X 9 (g_MQ Y X 1 (g_N RV 116 P) 0 0) 0 0 0 [(0, .ref (gl_b Y + 73)), (1, .int (i32 x1)), (2, .int (i32 x2)), (3, .int (i32 x3))] [] RV iv av 116
  refine r_aload_n (pc' := 1) C 0 rfl rfl dX13_layAll_0 rfl ?_
  refine r_getr (pc' := 4) (k := 73) (r := 79) C fl_X13_31 (by decide) kc_73 (by decide) fr_13_10 RV_73_10 dX13_layAll_1 rfl ?_
  refine r_iload_n (pc' := 5) C 1 rfl rfl dX13_layAll_4 rfl ?_
  have o1 := h.1
  replace h := h.2
  refine r_iald (pc' := 6) (k := 79) C (by decide) kc_79 (by have := kl_79; omega) dX13_layAll_5 rfl (fun f2 => ?_)
  replace h := h f2
  refine r_istore (pc' := 8) (ls' := [(0, .ref (gl_b Y + 73)), (1, .int (i32 x1)), (2, .int (i32 x2)), (3, .int (i32 x3)), (4, .int (i32 (av 79 x1.toNat)))]) C (by decide) rfl dX13_layAll_6 rfl ?_
  refine r_iconst (pc' := 9) C dX13_layAll_8 rfl ?_
  refine r_istore (pc' := 11) (ls' := [(0, .ref (gl_b Y + 73)), (1, .int (i32 x1)), (2, .int (i32 x2)), (3, .int (i32 x3)), (4, .int (i32 (av 79 x1.toNat))), (5, .int (i32 0))]) C (by decide) rfl dX13_layAll_9 rfl ?_
  exact Wa.sub [0, 1, 2, 3, 4, 5] rfl h
def L_X13_read_27 (Y : Gl) (X : Cx) (P : PN) (iv av : IVt) : Prop := Wa Y X 7 (g_MQ Y X 1 (g_N RV 116 P) 0 0) 0 0 27 [] [] RV iv av 116
def L_X13_read_62 (Y : Gl) (X : Cx) (P : PN) (x1 : Int) (x2 : Int) (x5 : Int) (iv av : IVt) : Prop := Wa Y X 7 (g_MQ Y X 1 (g_N RV 116 P) 0 0) 0 0 62 [(0, .ref (gl_b Y + 73)), (1, .int (i32 x1)), (2, .int (i32 x2)), (5, .int (i32 x5))] [] RV iv av 116
def L_X13_read_88 (Y : Gl) (X : Cx) (P : PN) (x5 : Int) (iv av : IVt) : Prop := Wa Y X 7 (g_MQ Y X 1 (g_N RV 116 P) 0 0) 0 0 88 [(0, .ref (gl_b Y + 73)), (5, .int (i32 x5))] [] RV iv av 116
def L_X13_read_97 (Y : Gl) (X : Cx) (P : PN) (x5 : Int) (x6 : Int) (iv av : IVt) : Prop := Wa Y X 7 (g_MQ Y X 1 (g_N RV 116 P) 0 0) 0 0 97 [(0, .ref (gl_b Y + 73)), (5, .int (i32 x5)), (6, .int (i32 x6))] [] RV iv av 116
set_option maxHeartbeats 4000000 in
set_option maxRecDepth 100000 in
theorem w_X13_read_97 {Y : Gl} {X : Cx} {e : Nat} {P : PN} {x5 : Int} {x6 : Int} {iv av : IVt} (C : CX Y X RX13 "read" cX13_read 7 (some .int) (e + 6) 0 0) (hx5 : InR x5) (hx6 : InR x6) (h :
    ((x5 ≤ x6) →
      P x5 iv av
    ) ∧
    ((¬ x5 ≤ x6) →
      (0 ≤ x6 ∧ x6 < 4096) ∧
      ((-128 ≤ (av 91 x6.toNat) ∧ (av 91 x6.toNat) ≤ 127) →
        L_X13_read_97 Y X P x5 (x6 + 1) iv (up2 av 90 x6.toNat (bm8 (av 91 x6.toNat)))
      )
    )) : L_X13_read_97 Y X P x5 x6 iv av := by
  unfold L_X13_read_97
  refine r_iload (pc' := 99) C 2 rfl dX13_read_97 rfl ?_
  refine r_iload (pc' := 101) C 1 rfl dX13_read_99 rfl ?_
  refine r_icmp_ge (pc' := 104) (tgt := 124) C hx6 hx5 dX13_read_101 (by decide) rfl (fun c1 => ?_) (fun c1 => ?_)
  · replace h := h.1 c1
    refine r_iload (pc' := 126) C 1 rfl dX13_read_124 rfl ?_
    exact r_iret C hx5 ⟨rfl, rfl, h⟩ dX13_read_126
  · replace h := h.2 c1
    refine r_aload_n (pc' := 105) C 0 rfl rfl dX13_read_104 rfl ?_
    refine r_getr (pc' := 108) (k := 73) (r := 90) C fl_X13_65 (by decide) kc_73 (by decide) fr_13_26 RV_73_26 dX13_read_105 rfl ?_
    refine r_iload (pc' := 110) C 2 rfl dX13_read_108 rfl ?_
    refine r_aload_n (pc' := 111) C 0 rfl rfl dX13_read_110 rfl ?_
    refine r_getr (pc' := 114) (k := 73) (r := 91) C fl_X13_68 (by decide) kc_73 (by decide) fr_13_27 RV_73_27 dX13_read_111 rfl ?_
    refine r_iload (pc' := 116) C 2 rfl dX13_read_114 rfl ?_
    have o2 := h.1
    replace h := h.2
    refine r_bald (pc' := 117) (k := 91) C (by decide) kc_91 (by have := kl_91; omega) dX13_read_116 rfl (fun f3 => ?_)
    replace h := h f3
    refine r_bast (pc' := 118) (k := 90) C (by decide) kc_90 (by have := kl_90; omega) dX13_read_117 rfl ?_
    refine r_iinc (pc' := 121) (ls' := [(0, .ref (gl_b Y + 73)), (5, .int (i32 x5)), (6, .int (i32 (x6 + 1)))]) C 2 rfl (by decide) rfl dX13_read_118 rfl ?_
    refine r_goto (tgt := 97) C dX13_read_121 (by decide) ?_
    exact Wa.sub [0, 1, 2] rfl h
set_option maxHeartbeats 4000000 in
set_option maxRecDepth 100000 in
theorem w_X13_read_88 {Y : Gl} {X : Cx} {e : Nat} {P : PN} {x5 : Int} {iv av : IVt} (C : CX Y X RX13 "read" cX13_read 7 (some .int) (e + 6) 0 0) (hx5 : InR x5) (h :
    L_X13_read_97 Y X P x5 0 (up2 iv 73 25 x5) av) : L_X13_read_88 Y X P x5 iv av := by
  unfold L_X13_read_88
  refine r_aload_n (pc' := 89) C 0 rfl rfl dX13_read_88 rfl ?_
  refine r_iload (pc' := 91) C 1 rfl dX13_read_89 rfl ?_
  refine r_puti (pc' := 94) (k := 73) C fl_X13_396 (by decide) kc_73 (by decide) fr_13_25 hx5 dX13_read_91 rfl ?_
  refine r_iconst (pc' := 95) C dX13_read_94 rfl ?_
  refine r_istore (pc' := 97) (ls' := [(0, .ref (gl_b Y + 73)), (5, .int (i32 x5)), (6, .int (i32 0))]) C (by decide) rfl dX13_read_95 rfl ?_
  exact Wa.sub [0, 1, 2] rfl h
set_option maxHeartbeats 4000000 in
set_option maxRecDepth 100000 in
theorem w_X13_read_62 {Y : Gl} {X : Cx} {e : Nat} {P : PN} {x1 : Int} {x2 : Int} {x5 : Int} {iv av : IVt} (C : CX Y X RX13 "read" cX13_read 7 (some .int) (e + 6) 0 0) (hx1 : InR x1) (hx2 : InR x2) (hx5 : InR x5) (h :
    ((x5 ≤ 0) →
      L_X13_read_88 Y X P x5 iv av
    ) ∧
    ((¬ x5 ≤ 0) →
      (InR (x2 + x5)) ∧
      OkN Y (e + 5) mX13_layAll [.ref (gl_b Y + 73), .int (i32 x1), .int (i32 x2), .int (i32 (x2 + x5))] RV iv av 116 (fun r3 iv4 av5 =>
        (InR r3) →
        ((¬ r3 = 0) →
          L_X13_read_88 Y X P x5 iv4 av5
        ) ∧
        ((r3 = 0) →
          P (-4) (up2 iv4 73 28 0) av5
        )
      )
    )) : L_X13_read_62 Y X P x1 x2 x5 iv av := by
  unfold L_X13_read_62
  refine r_iload (pc' := 64) C 3 rfl dX13_read_62 rfl ?_
  refine r_if_le (pc' := 67) (tgt := 88) C hx5 dX13_read_64 (by decide) rfl (fun c1 => ?_) (fun c1 => ?_)
  · replace h := h.1 c1
    exact Wa.sub [0, 3] rfl h
  · replace h := h.2 c1
    refine r_aload_n (pc' := 68) C 0 rfl rfl dX13_read_67 rfl ?_
    refine r_iload_n (pc' := 69) C 1 rfl rfl dX13_read_68 rfl ?_
    refine r_iload_n (pc' := 70) C 2 rfl rfl dX13_read_69 rfl ?_
    refine r_iload_n (pc' := 71) C 2 rfl rfl dX13_read_70 rfl ?_
    refine r_iload (pc' := 73) C 3 rfl dX13_read_71 rfl ?_
    refine r_iadd (pc' := 74) C dX13_read_73 rfl ?_
    have o2 := h.1
    replace h := h.2
    refine c_Vi (pc' := 77) (mt := mX13_layAll) (as := [.int (i32 x1), .int (i32 x2), .int (i32 (x2 + x5))]) (st := []) (k := 73) C h rfl cl_X13_layAll ml_X13_392 im_X13_layAll sl_X13_layAll (by omega) (Nat.le_refl _) (Nat.le_refl _) rfl (by decide) kc_73 (by decide) rfl rfl rfl (Nat.le_of_ble_eq_true rfl) dX13_read_74 rfl (fun r3 iv4 av5 f6 h => ?_)
    replace h := h f6
    refine r_if_ne (pc' := 80) (tgt := 88) C f6 dX13_read_77 (by decide) rfl (fun c7 => ?_) (fun c7 => ?_)
    · replace h := h.1 c7
      exact Wa.sub [0, 3] rfl h
    · replace h := h.2 c7
      refine r_aload_n (pc' := 81) C 0 rfl rfl dX13_read_80 rfl ?_
      refine r_iconst (pc' := 82) C dX13_read_81 rfl ?_
      refine r_puti (pc' := 85) (k := 73) C fl_X13_378 (by decide) kc_73 (by decide) fr_13_28 (by decide) dX13_read_82 rfl ?_
      refine r_bipush (pc' := 87) C dX13_read_85 (by decide) rfl ?_
      exact r_iret C (by decide) ⟨rfl, rfl, h⟩ dX13_read_87
set_option maxHeartbeats 4000000 in
set_option maxRecDepth 100000 in
theorem w_X13_read_27 {Y : Gl} {X : Cx} {e : Nat} {P : PN} {iv av : IVt} (C : CX Y X RX13 "read" cX13_read 7 (some .int) (e + 6) 0 0) (h :
    P (-1) iv av) : L_X13_read_27 Y X P iv av := by
  unfold L_X13_read_27
  refine r_iconst (pc' := 28) C dX13_read_27 rfl ?_
  exact r_iret C (by decide) ⟨rfl, rfl, h⟩ dX13_read_28
set_option maxHeartbeats 4000000 in
set_option maxRecDepth 100000 in
theorem o_X13_read {Y : Gl} {e : Nat} {P : PN} {x1 : Int} {x2 : Int} {x3 : Int} {iv av : IVt} (hx1 : InR x1) (hx2 : InR x2) (hx3 : InR x3) (h : ∀ X : Cx, CX Y X RX13 "read" cX13_read 7 (some .int) (e + 6) 0 0 →
    OkN Y (e + 5) mX13_isFile [.int (i32 x1)] RV (up2 iv 73 28 0) av 116 (fun r1 iv2 av3 =>
      (InR r1) →
      ((r1 = 0) →
        L_X13_read_27 Y X P iv2 av3
      ) ∧
      ((¬ r1 = 0) →
        ((x2 < 0) →
          L_X13_read_27 Y X P iv2 av3
        ) ∧
        ((¬ x2 < 0) →
          ((x3 < 0) →
            L_X13_read_27 Y X P iv2 av3
          ) ∧
          ((¬ x3 < 0) →
            ((x3 ≤ 4096) →
              (0 ≤ x1 ∧ x1 < 64) ∧
              ((InR (av3 78 x1.toNat)) →
                (InR ((av3 78 x1.toNat) - x2)) ∧
                ((0 ≤ ((av3 78 x1.toNat) - x2)) →
                  ((x3 ≤ ((av3 78 x1.toNat) - x2)) →
                    L_X13_read_62 Y X P x1 x2 x3 iv2 av3
                  ) ∧
                  ((¬ x3 ≤ ((av3 78 x1.toNat) - x2)) →
                    L_X13_read_62 Y X P x1 x2 ((av3 78 x1.toNat) - x2) iv2 av3
                  )
                ) ∧
                ((¬ 0 ≤ ((av3 78 x1.toNat) - x2)) →
                  L_X13_read_62 Y X P x1 x2 0 iv2 av3
                )
              )
            ) ∧
            ((¬ x3 ≤ 4096) →
              L_X13_read_27 Y X P iv2 av3
            )
          )
        )
      )
    )) : OkN Y (e + 6) mX13_read [.ref (gl_b Y + 73), .int (i32 x1), .int (i32 x2), .int (i32 x3)] RV iv av 116 P := by
  refine OkW.of rfl (by show _ ≤ 7; exact Nat.le_of_ble_eq_true rfl) fun X C0 hR => ?_
  have C : CX Y X RX13 "read" cX13_read 7 (some .int) (e + 6) 0 0 := C0
  replace h := h X C
  show Wa Y X 7 (g_MQ Y X 1 (g_N RV 116 P) 0 0) 0 0 0 [(0, .ref (gl_b Y + 73)), (1, .int (i32 x1)), (2, .int (i32 x2)), (3, .int (i32 x3))] [] RV iv av 116
  refine r_aload_n (pc' := 1) C 0 rfl rfl dX13_read_0 rfl ?_
  refine r_iconst (pc' := 2) C dX13_read_1 rfl ?_
  refine r_puti (pc' := 5) (k := 73) C fl_X13_378 (by decide) kc_73 (by decide) fr_13_28 (by decide) dX13_read_2 rfl ?_
  refine r_iload_n (pc' := 6) C 1 rfl rfl dX13_read_5 rfl ?_
  refine c_Si (pc' := 9) (mt := mX13_isFile) (as := [.int (i32 x1)]) (st := []) C h rfl cl_X13_isFile ml_X13_145 sm_X13_isFile (by omega) (Nat.le_refl _) (Nat.le_refl _) rfl rfl (Nat.le_of_ble_eq_true rfl) dX13_read_6 rfl (fun r1 iv2 av3 f4 h => ?_)
  replace h := h f4
  refine r_if_eq (pc' := 12) (tgt := 27) C f4 dX13_read_9 (by decide) rfl (fun c5 => ?_) (fun c5 => ?_)
  · replace h := h.1 c5
    exact Wa.sub [] rfl h
  · replace h := h.2 c5
    refine r_iload_n (pc' := 13) C 2 rfl rfl dX13_read_12 rfl ?_
    refine r_if_lt (pc' := 16) (tgt := 27) C hx2 dX13_read_13 (by decide) rfl (fun c6 => ?_) (fun c6 => ?_)
    · replace h := h.1 c6
      exact Wa.sub [] rfl h
    · replace h := h.2 c6
      refine r_iload_n (pc' := 17) C 3 rfl rfl dX13_read_16 rfl ?_
      refine r_if_lt (pc' := 20) (tgt := 27) C hx3 dX13_read_17 (by decide) rfl (fun c7 => ?_) (fun c7 => ?_)
      · replace h := h.1 c7
        exact Wa.sub [] rfl h
      · replace h := h.2 c7
        refine r_iload_n (pc' := 21) C 3 rfl rfl dX13_read_20 rfl ?_
        refine r_sipush (pc' := 24) C dX13_read_21 (by decide) rfl ?_
        refine r_icmp_le (pc' := 27) (tgt := 29) C hx3 (by decide) dX13_read_24 (by decide) rfl (fun c8 => ?_) (fun c8 => ?_)
        · replace h := h.1 c8
          refine r_aload_n (pc' := 30) C 0 rfl rfl dX13_read_29 rfl ?_
          refine r_getr (pc' := 33) (k := 73) (r := 78) C fl_X13_28 (by decide) kc_73 (by decide) fr_13_9 RV_73_9 dX13_read_30 rfl ?_
          refine r_iload_n (pc' := 34) C 1 rfl rfl dX13_read_33 rfl ?_
          have o9 := h.1
          replace h := h.2
          refine r_iald (pc' := 35) (k := 78) C (by decide) kc_78 (by have := kl_78; omega) dX13_read_34 rfl (fun f10 => ?_)
          replace h := h f10
          refine r_iload_n (pc' := 36) C 2 rfl rfl dX13_read_35 rfl ?_
          refine r_isub (pc' := 37) C dX13_read_36 rfl ?_
          refine r_istore (pc' := 39) (ls' := [(0, .ref (gl_b Y + 73)), (1, .int (i32 x1)), (2, .int (i32 x2)), (3, .int (i32 x3)), (4, .int (i32 ((av3 78 x1.toNat) - x2)))]) C (by decide) rfl dX13_read_37 rfl ?_
          refine r_iload (pc' := 41) C 4 rfl dX13_read_39 rfl ?_
          have o11 := h.1
          replace h := h.2
          refine r_if_ge (pc' := 44) (tgt := 48) C o11 dX13_read_41 (by decide) rfl (fun c12 => ?_) (fun c12 => ?_)
          · replace h := h.1 c12
            refine r_iload (pc' := 50) C 4 rfl dX13_read_48 rfl ?_
            refine r_iload_n (pc' := 51) C 3 rfl rfl dX13_read_50 rfl ?_
            refine r_icmp_ge (pc' := 54) (tgt := 59) C o11 hx3 dX13_read_51 (by decide) rfl (fun c13 => ?_) (fun c13 => ?_)
            · replace h := h.1 c13
              refine r_iload_n (pc' := 60) C 3 rfl rfl dX13_read_59 rfl ?_
              refine r_istore (pc' := 62) (ls' := [(0, .ref (gl_b Y + 73)), (1, .int (i32 x1)), (2, .int (i32 x2)), (3, .int (i32 x3)), (4, .int (i32 ((av3 78 x1.toNat) - x2))), (5, .int (i32 x3))]) C (by decide) rfl dX13_read_60 rfl ?_
              exact Wa.sub [0, 1, 2, 5] rfl h
            · replace h := h.2 c13
              refine r_iload (pc' := 56) C 4 rfl dX13_read_54 rfl ?_
              refine r_goto (tgt := 60) C dX13_read_56 (by decide) ?_
              refine r_istore (pc' := 62) (ls' := [(0, .ref (gl_b Y + 73)), (1, .int (i32 x1)), (2, .int (i32 x2)), (3, .int (i32 x3)), (4, .int (i32 ((av3 78 x1.toNat) - x2))), (5, .int (i32 ((av3 78 x1.toNat) - x2)))]) C (by decide) rfl dX13_read_60 rfl ?_
              exact Wa.sub [0, 1, 2, 5] rfl h
          · replace h := h.2 c12
            refine r_iconst (pc' := 45) C dX13_read_44 rfl ?_
            refine r_goto (tgt := 60) C dX13_read_45 (by decide) ?_
            refine r_istore (pc' := 62) (ls' := [(0, .ref (gl_b Y + 73)), (1, .int (i32 x1)), (2, .int (i32 x2)), (3, .int (i32 x3)), (4, .int (i32 ((av3 78 x1.toNat) - x2))), (5, .int (i32 0))]) C (by decide) rfl dX13_read_60 rfl ?_
            exact Wa.sub [0, 1, 2, 5] rfl h
        · replace h := h.2 c8
          exact Wa.sub [] rfl h
set_option maxHeartbeats 4000000 in
set_option maxRecDepth 100000 in
theorem o_X13_out {Y : Gl} {e : Nat} {P : PN} {x1 : Int} {iv av : IVt} (hx1 : InR x1) (h : 
    ((InR (iv 73 25)) →
      OkN Y e mX13_eight [.ref (gl_b Y + 90), .int (i32 (iv 73 25)), .int (i32 x1)] RV iv av 116 (fun r2 iv3 av4 =>
        (InL r2) →
        P r2 iv3 av4
      )
    )) : OkN Y (e + 1) mX13_out [.ref (gl_b Y + 73), .int (i32 x1)] RV iv av 116 P := by
  refine OkW.of rfl (by show _ ≤ 2; exact Nat.le_of_ble_eq_true rfl) fun X C0 hR => ?_
  have C : CX Y X RX13 "out" cX13_out 2 (some .long) (e + 1) 0 0 := C0
  show Wa Y X 2 (g_MQ Y X 2 (g_N RV 116 P) 0 0) 0 0 0 [(0, .ref (gl_b Y + 73)), (1, .int (i32 x1))] [] RV iv av 116
  refine r_aload_n (pc' := 1) C 0 rfl rfl dX13_out_0 rfl ?_
  refine r_getr (pc' := 4) (k := 73) (r := 90) C fl_X13_65 (by decide) kc_73 (by decide) fr_13_26 RV_73_26 dX13_out_1 rfl ?_
  refine r_aload_n (pc' := 5) C 0 rfl rfl dX13_out_4 rfl ?_
  refine r_geti (pc' := 8) (k := 73) C fl_X13_396 (by decide) kc_73 (by decide) fr_13_25 dX13_out_5 rfl (fun f1 => ?_)
  replace h := h f1
  refine r_iload_n (pc' := 9) C 1 rfl rfl dX13_out_8 rfl ?_
  refine c_Sl (pc' := 12) (mt := mX13_eight) (as := [.ref (gl_b Y + 90), .int (i32 (iv 73 25)), .int (i32 x1)]) (st := []) C h rfl cl_X13_eight ml_X13_374 sm_X13_eight (by omega) (Nat.le_refl _) (Nat.le_refl _) rfl rfl (Nat.le_of_ble_eq_true rfl) dX13_out_9 rfl (fun r2 iv3 av4 f5 h => ?_)
  replace h := h f5
  exact r_lret C f5 ⟨rfl, rfl, h⟩ dX13_out_12
set_option maxHeartbeats 4000000 in
set_option maxRecDepth 100000 in
theorem o_X13_taken {Y : Gl} {e : Nat} {P : PN} {iv av : IVt} (h : 
    ((InR (iv 73 28)) →
      P (iv 73 28) iv av
    )) : OkN Y e mX13_taken [.ref (gl_b Y + 73)] RV iv av 116 P := by
  refine OkW.of rfl (by show _ ≤ 1; exact Nat.le_of_ble_eq_true rfl) fun X C0 hR => ?_
  have C : CX Y X RX13 "taken" cX13_taken 1 (some .int) e 0 0 := C0
  show Wa Y X 1 (g_MQ Y X 1 (g_N RV 116 P) 0 0) 0 0 0 [(0, .ref (gl_b Y + 73))] [] RV iv av 116
  refine r_aload_n (pc' := 1) C 0 rfl rfl dX13_taken_0 rfl ?_
  refine r_geti (pc' := 4) (k := 73) C fl_X13_378 (by decide) kc_73 (by decide) fr_13_28 dX13_taken_1 rfl (fun f1 => ?_)
  replace h := h f1
  exact r_iret C f1 ⟨rfl, rfl, h⟩ dX13_taken_4
