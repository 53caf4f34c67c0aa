/-! Walks, laid by wip/whole/tool/walk.py: each says what is left of a method when its bytecode is run over symbols. -/
def L_X6_make_5 (Y : Gl) (X : Cx) (P : PN) (k1 : Nat) (x2 : Int) (x3 : Int) (x4 : Int) (iv av : IVt) : Prop := Wa Y X 7 (g_MQ Y X 0 (g_N RV 116 P) 0 0) 0 0 5 [(0, .ref (gl_b Y + 26)), (1, .ref (gl_b Y + k1)), (2, .int (i32 x2)), (3, .int (i32 x3)), (4, .int (i32 x4))] [] RV iv av 116
def L_X6_make_72 (Y : Gl) (X : Cx) (P : PN) (k1 : Nat) (x2 : Int) (x3 : Int) (x4 : Int) (x5 : Int) (iv av : IVt) : Prop := Wa Y X 7 (g_MQ Y X 0 (g_N RV 116 P) 0 0) 0 0 72 [(0, .ref (gl_b Y + 26)), (1, .ref (gl_b Y + k1)), (2, .int (i32 x2)), (3, .int (i32 x3)), (4, .int (i32 x4)), (5, .int (i32 x5))] [] RV iv av 116
def L_X6_make_107 (Y : Gl) (X : Cx) (P : PN) (k1 : Nat) (x3 : Int) (x5 : Int) (x6 : Int) (iv av : IVt) : Prop := Wa Y X 7 (g_MQ Y X 0 (g_N RV 116 P) 0 0) 0 0 107 [(0, .ref (gl_b Y + 26)), (1, .ref (gl_b Y + k1)), (3, .int (i32 x3)), (5, .int (i32 x5)), (6, .int (i32 x6))] [] RV iv av 116
def L_X6_make_131 (Y : Gl) (X : Cx) (P : PN) (k1 : Nat) (x3 : Int) (x6 : Int) (iv av : IVt) : Prop := Wa Y X 7 (g_MQ Y X 0 (g_N RV 116 P) 0 0) 0 0 131 [(0, .ref (gl_b Y + 26)), (1, .ref (gl_b Y + k1)), (3, .int (i32 x3)), (6, .int (i32 x6))] [] RV iv av 116
set_option maxHeartbeats 4000000 in
set_option maxRecDepth 100000 in
theorem w_X6_make_131 {Y : Gl} {X : Cx} {e : Nat} {P : PN} {k1 : Nat} {x3 : Int} {x6 : Int} {iv av : IVt} (C : CX Y X RX6 "make" cX6_make 7 none (e + 2) 0 0) (Kk1 : CodeK RV 116 k1) (hx3 : InR x3) (hx6 : InR x6) (h :
    ((x3 ≤ x6) →
      P 0 iv av
    ) ∧
    ((¬ x3 ≤ x6) →
      ((288 ≤ x6) →
        P 0 iv av
      ) ∧
      ((¬ 288 ≤ x6) →
        ((288 ≤ x6) →
          P 0 iv av
        ) ∧
        ((¬ 288 ≤ x6) →
          (0 ≤ x6 ∧ x6 < 288) ∧
          ((InR (av 27 x6.toNat)) →
            ((¬ x3 = 1) →
              ((InR (av 29 x6.toNat)) →
                OkN Y (e + 1) mX3_setLength [.ref (gl_b Y + k1), .int (i32 (av 27 x6.toNat)), .int (i32 (av 29 x6.toNat))] RV iv av 116 (fun r8 iv9 av10 =>
                  L_X6_make_131 Y X P k1 x3 (x6 + 1) iv9 av10
                )
              )
            ) ∧
            ((x3 = 1) →
              OkN Y (e + 1) mX3_setLength [.ref (gl_b Y + k1), .int (i32 (av 27 x6.toNat)), .int (i32 1)] RV iv av 116 (fun r12 iv13 av14 =>
                L_X6_make_131 Y X P k1 x3 (x6 + 1) iv13 av14
              )
            )
          )
        )
      )
    )) : L_X6_make_131 Y X P k1 x3 x6 iv av := by
  obtain ⟨hk1c, hk1a, hk1b, hk1d, hk1l, hk1r0, hk1r1, hk1r2⟩ := Kk1
  unfold L_X6_make_131
  refine r_iload (pc' := 133) C 3 rfl dX6_make_131 rfl ?_
  refine r_iload_n (pc' := 134) C 2 rfl rfl dX6_make_133 rfl ?_
  refine r_icmp_ge (pc' := 137) (tgt := 190) C hx6 hx3 dX6_make_134 (by decide) rfl (fun c1 => ?_) (fun c1 => ?_)
  · replace h := h.1 c1
    exact r_vret C ⟨rfl, rfl, h⟩ dX6_make_190
  · replace h := h.2 c1
    refine r_iload (pc' := 139) C 3 rfl dX6_make_137 rfl ?_
    refine r_aload_n (pc' := 140) C 0 rfl rfl dX6_make_139 rfl ?_
    refine r_getr (pc' := 143) (k := 26) (r := 27) C fl_X6_9 (by decide) kc_26 (by decide) fr_6_0 RV_26_0 dX6_make_140 rfl ?_
    refine r_alen (pc' := 144) (k := 27) (v := 288) C (by decide) kc_27 (by decide) (by rw [kl_27]; rfl) dX6_make_143 rfl ?_
    refine r_icmp_ge (pc' := 147) (tgt := 190) C hx6 (by decide) dX6_make_144 (by decide) rfl (fun c2 => ?_) (fun c2 => ?_)
    · replace h := h.1 c2
      exact r_vret C ⟨rfl, rfl, h⟩ dX6_make_190
    · replace h := h.2 c2
      refine r_iload (pc' := 149) C 3 rfl dX6_make_147 rfl ?_
      refine r_aload_n (pc' := 150) C 0 rfl rfl dX6_make_149 rfl ?_
      refine r_getr (pc' := 153) (k := 26) (r := 29) C fl_X6_18 (by decide) kc_26 (by decide) fr_6_2 RV_26_2 dX6_make_150 rfl ?_
      refine r_alen (pc' := 154) (k := 29) (v := 288) C (by decide) kc_29 (by decide) (by rw [kl_29]; rfl) dX6_make_153 rfl ?_
      refine r_icmp_ge (pc' := 157) (tgt := 190) C hx6 (by decide) dX6_make_154 (by decide) rfl (fun c3 => ?_) (fun c3 => ?_)
      · replace h := h.1 c3
        exact r_vret C ⟨rfl, rfl, h⟩ dX6_make_190
      · replace h := h.2 c3
        refine r_aload_n (pc' := 158) C 1 rfl rfl dX6_make_157 rfl ?_
        refine r_aload_n (pc' := 159) C 0 rfl rfl dX6_make_158 rfl ?_
        refine r_getr (pc' := 162) (k := 26) (r := 27) C fl_X6_9 (by decide) kc_26 (by decide) fr_6_0 RV_26_0 dX6_make_159 rfl ?_
        refine r_iload (pc' := 164) C 3 rfl dX6_make_162 rfl ?_
        have o4 := h.1
        replace h := h.2
        refine r_iald (pc' := 165) (k := 27) C (by decide) kc_27 (by have := kl_27; omega) dX6_make_164 rfl (fun f5 => ?_)
        replace h := h f5
        refine r_iload_n (pc' := 166) C 2 rfl rfl dX6_make_165 rfl ?_
        refine r_iconst (pc' := 167) C dX6_make_166 rfl ?_
        refine r_icmp_ne (pc' := 170) (tgt := 174) C hx3 (by decide) dX6_make_167 (by decide) rfl (fun c6 => ?_) (fun c6 => ?_)
        · replace h := h.1 c6
          refine r_aload_n (pc' := 175) C 0 rfl rfl dX6_make_174 rfl ?_
          refine r_getr (pc' := 178) (k := 26) (r := 29) C fl_X6_18 (by decide) kc_26 (by decide) fr_6_2 RV_26_2 dX6_make_175 rfl ?_
          refine r_iload (pc' := 180) C 3 rfl dX6_make_178 rfl ?_
          refine r_iald (pc' := 181) (k := 29) C (by decide) kc_29 (by have := kl_29; omega) dX6_make_180 rfl (fun f7 => ?_)
          replace h := h f7
          refine c_Vv (pc' := 184) (mt := mX3_setLength) (as := [.int (i32 (av 27 x6.toNat)), .int (i32 (av 29 x6.toNat))]) (st := []) (k := k1) C h rfl cl_X3_setLength ml_X6_37 im_X3_setLength sl_X3_setLength (by omega) (Nat.le_refl _) (Nat.le_refl _) rfl (by omega) hk1c (by decide) rfl rfl rfl (Nat.le_of_ble_eq_true rfl) dX6_make_181 rfl (fun r8 iv9 av10 h => ?_)
          refine r_iinc (pc' := 187) (ls' := [(0, .ref (gl_b Y + 26)), (1, .ref (gl_b Y + k1)), (3, .int (i32 x3)), (6, .int (i32 (x6 + 1)))]) C 3 rfl (by decide) rfl dX6_make_184 rfl ?_
          refine r_goto (tgt := 131) C dX6_make_187 (by decide) ?_
          exact Wa.sub [0, 1, 2, 3] rfl h
        · replace h := h.2 c6
          refine r_iconst (pc' := 171) C dX6_make_170 rfl ?_
          refine r_goto (tgt := 181) C dX6_make_171 (by decide) ?_
          refine c_Vv (pc' := 184) (mt := mX3_setLength) (as := [.int (i32 (av 27 x6.toNat)), .int (i32 1)]) (st := []) (k := k1) C h rfl cl_X3_setLength ml_X6_37 im_X3_setLength sl_X3_setLength (by omega) (Nat.le_refl _) (Nat.le_refl _) rfl (by omega) hk1c (by decide) rfl rfl rfl (Nat.le_of_ble_eq_true rfl) dX6_make_181 rfl (fun r12 iv13 av14 h => ?_)
          refine r_iinc (pc' := 187) (ls' := [(0, .ref (gl_b Y + 26)), (1, .ref (gl_b Y + k1)), (3, .int (i32 x3)), (6, .int (i32 (x6 + 1)))]) C 3 rfl (by decide) rfl dX6_make_184 rfl ?_
          refine r_goto (tgt := 131) C dX6_make_187 (by decide) ?_
          exact Wa.sub [0, 1, 2, 3] rfl h
set_option maxHeartbeats 4000000 in
set_option maxRecDepth 100000 in
theorem w_X6_make_107 {Y : Gl} {X : Cx} {e : Nat} {P : PN} {k1 : Nat} {x3 : Int} {x5 : Int} {x6 : Int} {iv av : IVt} (C : CX Y X RX6 "make" cX6_make 7 none (e + 2) 0 0) (Kk1 : CodeK RV 116 k1) (hx5 : InR x5) (hx6 : InR x6) (h :
    ((x6 < 0) →
      L_X6_make_131 Y X P k1 x3 0 iv av
    ) ∧
    ((¬ x6 < 0) →
      OkN Y (e + 1) mX6_takeItems [.ref (gl_b Y + 26), .int (i32 x6), .int (i32 x5)] RV iv av 116 (fun r2 iv3 av4 =>
        (InR r2) →
        L_X6_make_107 Y X P k1 x3 r2 (x6 + (-1)) iv3 av4
      )
    )) : L_X6_make_107 Y X P k1 x3 x5 x6 iv av := by
  obtain ⟨hk1c, hk1a, hk1b, hk1d, hk1l, hk1r0, hk1r1, hk1r2⟩ := Kk1
  unfold L_X6_make_107
  refine r_iload (pc' := 109) C 4 rfl dX6_make_107 rfl ?_
  refine r_if_lt (pc' := 112) (tgt := 128) C hx6 dX6_make_109 (by decide) rfl (fun c1 => ?_) (fun c1 => ?_)
  · replace h := h.1 c1
    refine r_iconst (pc' := 129) C dX6_make_128 rfl ?_
    refine r_istore (pc' := 131) (ls' := [(0, .ref (gl_b Y + 26)), (1, .ref (gl_b Y + k1)), (3, .int (i32 x3)), (5, .int (i32 x5)), (6, .int (i32 0))]) C (by decide) rfl dX6_make_129 rfl ?_
    exact Wa.sub [0, 1, 2, 4] rfl h
  · replace h := h.2 c1
    refine r_aload_n (pc' := 113) C 0 rfl rfl dX6_make_112 rfl ?_
    refine r_iload (pc' := 115) C 4 rfl dX6_make_113 rfl ?_
    refine r_iload (pc' := 117) C 3 rfl dX6_make_115 rfl ?_
    refine c_Vi (pc' := 120) (mt := mX6_takeItems) (as := [.int (i32 x6), .int (i32 x5)]) (st := []) (k := 26) C h rfl cl_X6_takeItems ml_X6_57 im_X6_takeItems sl_X6_takeItems (by omega) (Nat.le_refl _) (Nat.le_refl _) rfl (by decide) kc_26 (by decide) rfl rfl rfl (Nat.le_of_ble_eq_true rfl) dX6_make_117 rfl (fun r2 iv3 av4 f5 h => ?_)
    replace h := h f5
    refine r_istore (pc' := 122) (ls' := [(0, .ref (gl_b Y + 26)), (1, .ref (gl_b Y + k1)), (3, .int (i32 x3)), (5, .int (i32 r2)), (6, .int (i32 x6))]) C (by decide) rfl dX6_make_120 rfl ?_
    refine r_iinc (pc' := 125) (ls' := [(0, .ref (gl_b Y + 26)), (1, .ref (gl_b Y + k1)), (3, .int (i32 x3)), (5, .int (i32 r2)), (6, .int (i32 (x6 + (-1))))]) C 4 rfl (by decide) rfl dX6_make_122 rfl ?_
    refine r_goto (tgt := 107) C dX6_make_125 (by decide) ?_
    exact Wa.sub [0, 1, 2, 3, 4] rfl h
set_option maxHeartbeats 4000000 in
set_option maxRecDepth 100000 in
theorem w_X6_make_72 {Y : Gl} {X : Cx} {e : Nat} {P : PN} {k1 : Nat} {x2 : Int} {x3 : Int} {x4 : Int} {x5 : Int} {iv av : IVt} (C : CX Y X RX6 "make" cX6_make 7 none (e + 2) 0 0) (Kk1 : CodeK RV 116 k1) (hx2 : InR x2) (hx3 : InR x3) (hx4 : InR x4) (hx5 : InR x5) (h :
    ((x2 ≤ x5) →
      L_X6_make_107 Y X P k1 x3 ((2 * x3) - 2) (x2 - 1) iv av
    ) ∧
    ((¬ x2 ≤ x5) →
      OkN Y (e + 1) mX6_makeList [.ref (gl_b Y + 26), .int (i32 x5), .int (i32 x3), .int (i32 x4)] RV iv av 116 (fun r2 iv3 av4 =>
        (InR r2) →
        L_X6_make_72 Y X P k1 x2 x3 r2 (x5 + 1) iv3 av4
      )
    )) : L_X6_make_72 Y X P k1 x2 x3 x4 x5 iv av := by
  obtain ⟨hk1c, hk1a, hk1b, hk1d, hk1l, hk1r0, hk1r1, hk1r2⟩ := Kk1
  unfold L_X6_make_72
  refine r_iload (pc' := 74) C 5 rfl dX6_make_72 rfl ?_
  refine r_iload_n (pc' := 75) C 2 rfl rfl dX6_make_74 rfl ?_
  refine r_icmp_ge (pc' := 78) (tgt := 95) C hx5 hx2 dX6_make_75 (by decide) rfl (fun c1 => ?_) (fun c1 => ?_)
  · replace h := h.1 c1
    refine r_iconst (pc' := 96) C dX6_make_95 rfl ?_
    refine r_iload_n (pc' := 97) C 3 rfl rfl dX6_make_96 rfl ?_
    refine r_imul (pc' := 98) C dX6_make_97 rfl ?_
    refine r_iconst (pc' := 99) C dX6_make_98 rfl ?_
    refine r_isub (pc' := 100) C dX6_make_99 rfl ?_
    refine r_istore (pc' := 102) (ls' := [(0, .ref (gl_b Y + 26)), (1, .ref (gl_b Y + k1)), (2, .int (i32 x2)), (3, .int (i32 x3)), (4, .int (i32 x4)), (5, .int (i32 ((2 * x3) - 2)))]) C (by decide) rfl dX6_make_100 rfl ?_
    refine r_iload_n (pc' := 103) C 2 rfl rfl dX6_make_102 rfl ?_
    refine r_iconst (pc' := 104) C dX6_make_103 rfl ?_
    refine r_isub (pc' := 105) C dX6_make_104 rfl ?_
    refine r_istore (pc' := 107) (ls' := [(0, .ref (gl_b Y + 26)), (1, .ref (gl_b Y + k1)), (2, .int (i32 x2)), (3, .int (i32 x3)), (4, .int (i32 x4)), (5, .int (i32 ((2 * x3) - 2))), (6, .int (i32 (x2 - 1)))]) C (by decide) rfl dX6_make_105 rfl ?_
    exact Wa.sub [0, 1, 3, 5, 6] rfl h
  · replace h := h.2 c1
    refine r_aload_n (pc' := 79) C 0 rfl rfl dX6_make_78 rfl ?_
    refine r_iload (pc' := 81) C 5 rfl dX6_make_79 rfl ?_
    refine r_iload_n (pc' := 82) C 3 rfl rfl dX6_make_81 rfl ?_
    refine r_iload (pc' := 84) C 4 rfl dX6_make_82 rfl ?_
    refine c_Vi (pc' := 87) (mt := mX6_makeList) (as := [.int (i32 x5), .int (i32 x3), .int (i32 x4)]) (st := []) (k := 26) C h rfl cl_X6_makeList ml_X6_53 im_X6_makeList sl_X6_makeList (by omega) (Nat.le_refl _) (Nat.le_refl _) rfl (by decide) kc_26 (by decide) rfl rfl rfl (Nat.le_of_ble_eq_true rfl) dX6_make_84 rfl (fun r2 iv3 av4 f5 h => ?_)
    replace h := h f5
    refine r_istore (pc' := 89) (ls' := [(0, .ref (gl_b Y + 26)), (1, .ref (gl_b Y + k1)), (2, .int (i32 x2)), (3, .int (i32 x3)), (4, .int (i32 r2)), (5, .int (i32 x5))]) C (by decide) rfl dX6_make_87 rfl ?_
    refine r_iinc (pc' := 92) (ls' := [(0, .ref (gl_b Y + 26)), (1, .ref (gl_b Y + k1)), (2, .int (i32 x2)), (3, .int (i32 x3)), (4, .int (i32 r2)), (5, .int (i32 (x5 + 1)))]) C 5 rfl (by decide) rfl dX6_make_89 rfl ?_
    refine r_goto (tgt := 72) C dX6_make_92 (by decide) ?_
    exact Wa.sub [0, 1, 2, 3, 4, 5] rfl h
set_option maxHeartbeats 4000000 in
set_option maxRecDepth 100000 in
theorem w_X6_make_5 {Y : Gl} {X : Cx} {e : Nat} {P : PN} {k1 : Nat} {x2 : Int} {x3 : Int} {x4 : Int} {iv av : IVt} (C : CX Y X RX6 "make" cX6_make 7 none (e + 2) 0 0) (Kk1 : CodeK RV 116 k1) (hx3 : InR x3) (hx4 : InR x4) (h :
    OkN Y (e + 1) mX3_symbols [.ref (gl_b Y + k1)] RV iv av 116 (fun r1 iv2 av3 =>
      (InR r1) →
      ((r1 ≤ x4) →
        OkN Y (e + 1) mX6_begin [.ref (gl_b Y + 26), .int (i32 x3)] RV iv2 av3 116 (fun r6 iv7 av8 =>
          L_X6_make_72 Y X P k1 x2 x3 x3 1 iv7 av8
        )
      ) ∧
      ((¬ r1 ≤ x4) →
        OkN Y (e + 1) mX3_setLength [.ref (gl_b Y + k1), .int (i32 x4), .int (i32 0)] RV iv2 av3 116 (fun r10 iv11 av12 =>
          OkN Y (e + 1) mX3_countOf [.ref (gl_b Y + k1), .int (i32 x4)] RV iv11 av12 116 (fun r14 iv15 av16 =>
            (InR r14) →
            ((r14 ≤ 0) →
              L_X6_make_5 Y X P k1 x2 x3 (x4 + 1) iv15 av16
            ) ∧
            ((¬ r14 ≤ 0) →
              ((288 ≤ x3) →
                L_X6_make_5 Y X P k1 x2 x3 (x4 + 1) iv15 av16
              ) ∧
              ((¬ 288 ≤ x3) →
                OkN Y (e + 1) mX6_insert [.ref (gl_b Y + 26), .int (i32 x4), .int (i32 r14), .int (i32 x3)] RV iv15 av16 116 (fun r20 iv21 av22 =>
                  L_X6_make_5 Y X P k1 x2 (x3 + 1) (x4 + 1) iv21 av22
                )
              )
            )
          )
        )
      )
    )) : L_X6_make_5 Y X P k1 x2 x3 x4 iv av := by
  obtain ⟨hk1c, hk1a, hk1b, hk1d, hk1l, hk1r0, hk1r1, hk1r2⟩ := Kk1
  unfold L_X6_make_5
  refine r_iload (pc' := 7) C 4 rfl dX6_make_5 rfl ?_
  refine r_aload_n (pc' := 8) C 1 rfl rfl dX6_make_7 rfl ?_
  refine c_Vi (pc' := 11) (mt := mX3_symbols) (as := []) (st := [.int (i32 x4)]) (k := k1) C h rfl cl_X3_symbols ml_X6_31 im_X3_symbols sl_X3_symbols (by omega) (Nat.le_refl _) (Nat.le_refl _) rfl (by omega) hk1c (by decide) rfl rfl rfl (Nat.le_of_ble_eq_true rfl) dX6_make_8 rfl (fun r1 iv2 av3 f4 h => ?_)
  replace h := h f4
  refine r_icmp_ge (pc' := 14) (tgt := 61) C hx4 f4 dX6_make_11 (by decide) rfl (fun c5 => ?_) (fun c5 => ?_)
  · replace h := h.1 c5
    refine r_aload_n (pc' := 62) C 0 rfl rfl dX6_make_61 rfl ?_
    refine r_iload_n (pc' := 63) C 3 rfl rfl dX6_make_62 rfl ?_
    refine c_Vv (pc' := 66) (mt := mX6_begin) (as := [.int (i32 x3)]) (st := []) (k := 26) C h rfl cl_X6_begin ml_X6_49 im_X6_begin sl_X6_begin (by omega) (Nat.le_refl _) (Nat.le_refl _) rfl (by decide) kc_26 (by decide) rfl rfl rfl (Nat.le_of_ble_eq_true rfl) dX6_make_63 rfl (fun r6 iv7 av8 h => ?_)
    refine r_iload_n (pc' := 67) C 3 rfl rfl dX6_make_66 rfl ?_
    refine r_istore (pc' := 69) (ls' := [(0, .ref (gl_b Y + 26)), (1, .ref (gl_b Y + k1)), (2, .int (i32 x2)), (3, .int (i32 x3)), (4, .int (i32 x3))]) C (by decide) rfl dX6_make_67 rfl ?_
    refine r_iconst (pc' := 70) C dX6_make_69 rfl ?_
    refine r_istore (pc' := 72) (ls' := [(0, .ref (gl_b Y + 26)), (1, .ref (gl_b Y + k1)), (2, .int (i32 x2)), (3, .int (i32 x3)), (4, .int (i32 x3)), (5, .int (i32 1))]) C (by decide) rfl dX6_make_70 rfl ?_
    exact Wa.sub [0, 1, 2, 3, 4, 5] rfl h
  · replace h := h.2 c5
    refine r_aload_n (pc' := 15) C 1 rfl rfl dX6_make_14 rfl ?_
    refine r_iload (pc' := 17) C 4 rfl dX6_make_15 rfl ?_
    refine r_iconst (pc' := 18) C dX6_make_17 rfl ?_
    refine c_Vv (pc' := 21) (mt := mX3_setLength) (as := [.int (i32 x4), .int (i32 0)]) (st := []) (k := k1) C h rfl cl_X3_setLength ml_X6_37 im_X3_setLength sl_X3_setLength (by omega) (Nat.le_refl _) (Nat.le_refl _) rfl (by omega) hk1c (by decide) rfl rfl rfl (Nat.le_of_ble_eq_true rfl) dX6_make_18 rfl (fun r10 iv11 av12 h => ?_)
    refine r_aload_n (pc' := 22) C 1 rfl rfl dX6_make_21 rfl ?_
    refine r_iload (pc' := 24) C 4 rfl dX6_make_22 rfl ?_
    refine c_Vi (pc' := 27) (mt := mX3_countOf) (as := [.int (i32 x4)]) (st := []) (k := k1) C h rfl cl_X3_countOf ml_X6_41 im_X3_countOf sl_X3_countOf (by omega) (Nat.le_refl _) (Nat.le_refl _) rfl (by omega) hk1c (by decide) rfl rfl rfl (Nat.le_of_ble_eq_true rfl) dX6_make_24 rfl (fun r14 iv15 av16 f17 h => ?_)
    replace h := h f17
    refine r_istore (pc' := 29) (ls' := [(0, .ref (gl_b Y + 26)), (1, .ref (gl_b Y + k1)), (2, .int (i32 x2)), (3, .int (i32 x3)), (4, .int (i32 x4)), (5, .int (i32 r14))]) C (by decide) rfl dX6_make_27 rfl ?_
    refine r_iload (pc' := 31) C 5 rfl dX6_make_29 rfl ?_
    refine r_if_le (pc' := 34) (tgt := 55) C f17 dX6_make_31 (by decide) rfl (fun c18 => ?_) (fun c18 => ?_)
    · replace h := h.1 c18
      refine r_iinc (pc' := 58) (ls' := [(0, .ref (gl_b Y + 26)), (1, .ref (gl_b Y + k1)), (2, .int (i32 x2)), (3, .int (i32 x3)), (4, .int (i32 (x4 + 1))), (5, .int (i32 r14))]) C 4 rfl (by decide) rfl dX6_make_55 rfl ?_
      refine r_goto (tgt := 5) C dX6_make_58 (by decide) ?_
      exact Wa.sub [0, 1, 2, 3, 4] rfl h
    · replace h := h.2 c18
      refine r_iload_n (pc' := 35) C 3 rfl rfl dX6_make_34 rfl ?_
      refine r_aload_n (pc' := 36) C 0 rfl rfl dX6_make_35 rfl ?_
      refine r_getr (pc' := 39) (k := 26) (r := 27) C fl_X6_9 (by decide) kc_26 (by decide) fr_6_0 RV_26_0 dX6_make_36 rfl ?_
      refine r_alen (pc' := 40) (k := 27) (v := 288) C (by decide) kc_27 (by decide) (by rw [kl_27]; rfl) dX6_make_39 rfl ?_
      refine r_icmp_ge (pc' := 43) (tgt := 55) C hx3 (by decide) dX6_make_40 (by decide) rfl (fun c19 => ?_) (fun c19 => ?_)
      · replace h := h.1 c19
        refine r_iinc (pc' := 58) (ls' := [(0, .ref (gl_b Y + 26)), (1, .ref (gl_b Y + k1)), (2, .int (i32 x2)), (3, .int (i32 x3)), (4, .int (i32 (x4 + 1))), (5, .int (i32 r14))]) C 4 rfl (by decide) rfl dX6_make_55 rfl ?_
        refine r_goto (tgt := 5) C dX6_make_58 (by decide) ?_
        exact Wa.sub [0, 1, 2, 3, 4] rfl h
      · replace h := h.2 c19
        refine r_aload_n (pc' := 44) C 0 rfl rfl dX6_make_43 rfl ?_
        refine r_iload (pc' := 46) C 4 rfl dX6_make_44 rfl ?_
        refine r_iload (pc' := 48) C 5 rfl dX6_make_46 rfl ?_
        refine r_iload_n (pc' := 49) C 3 rfl rfl dX6_make_48 rfl ?_
        refine c_Vv (pc' := 52) (mt := mX6_insert) (as := [.int (i32 x4), .int (i32 r14), .int (i32 x3)]) (st := []) (k := 26) C h rfl cl_X6_insert ml_X6_45 im_X6_insert sl_X6_insert (by omega) (Nat.le_refl _) (Nat.le_refl _) rfl (by decide) kc_26 (by decide) rfl rfl rfl (Nat.le_of_ble_eq_true rfl) dX6_make_49 rfl (fun r20 iv21 av22 h => ?_)
        refine r_iinc (pc' := 55) (ls' := [(0, .ref (gl_b Y + 26)), (1, .ref (gl_b Y + k1)), (2, .int (i32 x2)), (3, .int (i32 (x3 + 1))), (4, .int (i32 x4)), (5, .int (i32 r14))]) C 3 rfl (by decide) rfl dX6_make_52 rfl ?_
        refine r_iinc (pc' := 58) (ls' := [(0, .ref (gl_b Y + 26)), (1, .ref (gl_b Y + k1)), (2, .int (i32 x2)), (3, .int (i32 (x3 + 1))), (4, .int (i32 (x4 + 1))), (5, .int (i32 r14))]) C 4 rfl (by decide) rfl dX6_make_55 rfl ?_
        refine r_goto (tgt := 5) C dX6_make_58 (by decide) ?_
        exact Wa.sub [0, 1, 2, 3, 4] rfl h
set_option maxHeartbeats 4000000 in
set_option maxRecDepth 100000 in
theorem o_X6_make {Y : Gl} {e : Nat} {P : PN} {k1 : Nat} {x2 : Int} {iv av : IVt} (Kk1 : CodeK RV 116 k1) (h : ∀ X : Cx, CX Y X RX6 "make" cX6_make 7 none (e + 2) 0 0 →
    L_X6_make_5 Y X P k1 x2 0 0 iv av) : OkN Y (e + 2) mX6_make [.ref (gl_b Y + 26), .ref (gl_b Y + k1), .int (i32 x2)] RV iv av 116 P := by
  obtain ⟨hk1c, hk1a, hk1b, hk1d, hk1l, hk1r0, hk1r1, hk1r2⟩ := Kk1
  refine OkW.of rfl (by show _ ≤ 7; exact Nat.le_of_ble_eq_true rfl) fun X C0 hR => ?_
  have C : CX Y X RX6 "make" cX6_make 7 none (e + 2) 0 0 := C0
  replace h := h X C
  show Wa Y X 7 (g_MQ Y X 0 (g_N RV 116 P) 0 0) 0 0 0 [(0, .ref (gl_b Y + 26)), (1, .ref (gl_b Y + k1)), (2, .int (i32 x2))] [] RV iv av 116
  refine r_iconst (pc' := 1) C dX6_make_0 rfl ?_
  refine r_istore_n (pc' := 2) (ls' := [(0, .ref (gl_b Y + 26)), (1, .ref (gl_b Y + k1)), (2, .int (i32 x2)), (3, .int (i32 0))]) C (by decide) rfl rfl dX6_make_1 rfl ?_
  refine r_iconst (pc' := 3) C dX6_make_2 rfl ?_
  refine r_istore (pc' := 5) (ls' := [(0, .ref (gl_b Y + 26)), (1, .ref (gl_b Y + k1)), (2, .int (i32 x2)), (3, .int (i32 0)), (4, .int (i32 0))]) C (by decide) rfl dX6_make_3 rfl ?_
  exact Wa.sub [0, 1, 2, 3, 4] rfl h
def L_X6_insert_21 (Y : Gl) (X : Cx) (P : PN) (x1 : Int) (x2 : Int) (x4 : Int) (iv av : IVt) : Prop := Wa Y X 5 (g_MQ Y X 0 (g_N RV 116 P) 0 0) 0 0 21 [(0, .ref (gl_b Y + 26)), (1, .int (i32 x1)), (2, .int (i32 x2)), (4, .int (i32 x4))] [] RV iv av 116
set_option maxHeartbeats 4000000 in
set_option maxRecDepth 100000 in
theorem w_X6_insert_21 {Y : Gl} {X : Cx} {e : Nat} {P : PN} {x1 : Int} {x2 : Int} {x4 : Int} {iv av : IVt} (C : CX Y X RX6 "insert" cX6_insert 5 none (e + 1) 0 0) (hx1 : InR x1) (hx2 : InR x2) (hx4 : InR x4) (h :
    ((x4 ≤ 0) →
      ((x4 < 0) →
        P 0 iv av
      ) ∧
      ((¬ x4 < 0) →
        (0 ≤ x4 ∧ x4 < 288) ∧
        P 0 iv (up2 (up2 av 27 x4.toNat x1) 28 x4.toNat x2)
      )
    ) ∧
    ((¬ x4 ≤ 0) →
      (0 ≤ (x4 - 1) ∧ (x4 - 1) < 288) ∧
      ((InR (av 28 (x4 - 1).toNat)) →
        (((av 28 (x4 - 1).toNat) ≤ x2) →
          ((x4 < 0) →
            P 0 iv av
          ) ∧
          ((¬ x4 < 0) →
            (0 ≤ x4 ∧ x4 < 288) ∧
            P 0 iv (up2 (up2 av 27 x4.toNat x1) 28 x4.toNat x2)
          )
        ) ∧
        ((¬ (av 28 (x4 - 1).toNat) ≤ x2) →
          ((InR (av 27 (x4 - 1).toNat)) →
            (0 ≤ x4 ∧ x4 < 288) ∧
            L_X6_insert_21 Y X P x1 x2 (x4 + (-1)) iv (up2 (up2 av 27 x4.toNat (av 27 (x4 - 1).toNat)) 28 x4.toNat (av 28 (x4 - 1).toNat))
          )
        )
      )
    )) : L_X6_insert_21 Y X P x1 x2 x4 iv av := by
  unfold L_X6_insert_21
  refine r_iload (pc' := 23) C 3 rfl dX6_insert_21 rfl ?_
  refine r_if_le (pc' := 26) (tgt := 77) C hx4 dX6_insert_23 (by decide) rfl (fun c1 => ?_) (fun c1 => ?_)
  · replace h := h.1 c1
    refine r_iload (pc' := 79) C 3 rfl dX6_insert_77 rfl ?_
    refine r_if_lt (pc' := 82) (tgt := 98) C hx4 dX6_insert_79 (by decide) rfl (fun c2 => ?_) (fun c2 => ?_)
    · replace h := h.1 c2
      exact r_vret C ⟨rfl, rfl, h⟩ dX6_insert_98
    · replace h := h.2 c2
      refine r_aload_n (pc' := 83) C 0 rfl rfl dX6_insert_82 rfl ?_
      refine r_getr (pc' := 86) (k := 26) (r := 27) C fl_X6_9 (by decide) kc_26 (by decide) fr_6_0 RV_26_0 dX6_insert_83 rfl ?_
      refine r_iload (pc' := 88) C 3 rfl dX6_insert_86 rfl ?_
      refine r_iload_n (pc' := 89) C 1 rfl rfl dX6_insert_88 rfl ?_
      have o3 := h.1
      replace h := h.2
      refine r_iast (pc' := 90) (k := 27) C (by decide) kc_27 (by have := kl_27; omega) hx1 dX6_insert_89 rfl ?_
      refine r_aload_n (pc' := 91) C 0 rfl rfl dX6_insert_90 rfl ?_
      refine r_getr (pc' := 94) (k := 26) (r := 28) C fl_X6_15 (by decide) kc_26 (by decide) fr_6_1 RV_26_1 dX6_insert_91 rfl ?_
      refine r_iload (pc' := 96) C 3 rfl dX6_insert_94 rfl ?_
      refine r_iload_n (pc' := 97) C 2 rfl rfl dX6_insert_96 rfl ?_
      refine r_iast (pc' := 98) (k := 28) C (by decide) kc_28 (by have := kl_28; omega) hx2 dX6_insert_97 rfl ?_
      exact r_vret C ⟨rfl, rfl, h⟩ dX6_insert_98
  · replace h := h.2 c1
    refine r_aload_n (pc' := 27) C 0 rfl rfl dX6_insert_26 rfl ?_
    refine r_getr (pc' := 30) (k := 26) (r := 28) C fl_X6_15 (by decide) kc_26 (by decide) fr_6_1 RV_26_1 dX6_insert_27 rfl ?_
    refine r_iload (pc' := 32) C 3 rfl dX6_insert_30 rfl ?_
    refine r_iconst (pc' := 33) C dX6_insert_32 rfl ?_
    refine r_isub (pc' := 34) C dX6_insert_33 rfl ?_
    have o4 := h.1
    replace h := h.2
    refine r_iald (pc' := 35) (k := 28) C (by decide) kc_28 (by have := kl_28; omega) dX6_insert_34 rfl (fun f5 => ?_)
    replace h := h f5
    refine r_iload_n (pc' := 36) C 2 rfl rfl dX6_insert_35 rfl ?_
    refine r_icmp_le (pc' := 39) (tgt := 77) C f5 hx2 dX6_insert_36 (by decide) rfl (fun c6 => ?_) (fun c6 => ?_)
    · replace h := h.1 c6
      refine r_iload (pc' := 79) C 3 rfl dX6_insert_77 rfl ?_
      refine r_if_lt (pc' := 82) (tgt := 98) C hx4 dX6_insert_79 (by decide) rfl (fun c7 => ?_) (fun c7 => ?_)
      · replace h := h.1 c7
        exact r_vret C ⟨rfl, rfl, h⟩ dX6_insert_98
      · replace h := h.2 c7
        refine r_aload_n (pc' := 83) C 0 rfl rfl dX6_insert_82 rfl ?_
        refine r_getr (pc' := 86) (k := 26) (r := 27) C fl_X6_9 (by decide) kc_26 (by decide) fr_6_0 RV_26_0 dX6_insert_83 rfl ?_
        refine r_iload (pc' := 88) C 3 rfl dX6_insert_86 rfl ?_
        refine r_iload_n (pc' := 89) C 1 rfl rfl dX6_insert_88 rfl ?_
        have o8 := h.1
        replace h := h.2
        refine r_iast (pc' := 90) (k := 27) C (by decide) kc_27 (by have := kl_27; omega) hx1 dX6_insert_89 rfl ?_
        refine r_aload_n (pc' := 91) C 0 rfl rfl dX6_insert_90 rfl ?_
        refine r_getr (pc' := 94) (k := 26) (r := 28) C fl_X6_15 (by decide) kc_26 (by decide) fr_6_1 RV_26_1 dX6_insert_91 rfl ?_
        refine r_iload (pc' := 96) C 3 rfl dX6_insert_94 rfl ?_
        refine r_iload_n (pc' := 97) C 2 rfl rfl dX6_insert_96 rfl ?_
        refine r_iast (pc' := 98) (k := 28) C (by decide) kc_28 (by have := kl_28; omega) hx2 dX6_insert_97 rfl ?_
        exact r_vret C ⟨rfl, rfl, h⟩ dX6_insert_98
    · replace h := h.2 c6
      refine r_aload_n (pc' := 40) C 0 rfl rfl dX6_insert_39 rfl ?_
      refine r_getr (pc' := 43) (k := 26) (r := 27) C fl_X6_9 (by decide) kc_26 (by decide) fr_6_0 RV_26_0 dX6_insert_40 rfl ?_
      refine r_iload (pc' := 45) C 3 rfl dX6_insert_43 rfl ?_
      refine r_aload_n (pc' := 46) C 0 rfl rfl dX6_insert_45 rfl ?_
      refine r_getr (pc' := 49) (k := 26) (r := 27) C fl_X6_9 (by decide) kc_26 (by decide) fr_6_0 RV_26_0 dX6_insert_46 rfl ?_
      refine r_iload (pc' := 51) C 3 rfl dX6_insert_49 rfl ?_
      refine r_iconst (pc' := 52) C dX6_insert_51 rfl ?_
      refine r_isub (pc' := 53) C dX6_insert_52 rfl ?_
      refine r_iald (pc' := 54) (k := 27) C (by decide) kc_27 (by have := kl_27; omega) dX6_insert_53 rfl (fun f9 => ?_)
      replace h := h f9
      have o10 := h.1
      replace h := h.2
      refine r_iast (pc' := 55) (k := 27) C (by decide) kc_27 (by have := kl_27; omega) f9 dX6_insert_54 rfl ?_
      refine r_aload_n (pc' := 56) C 0 rfl rfl dX6_insert_55 rfl ?_
      refine r_getr (pc' := 59) (k := 26) (r := 28) C fl_X6_15 (by decide) kc_26 (by decide) fr_6_1 RV_26_1 dX6_insert_56 rfl ?_
      refine r_iload (pc' := 61) C 3 rfl dX6_insert_59 rfl ?_
      refine r_aload_n (pc' := 62) C 0 rfl rfl dX6_insert_61 rfl ?_
      refine r_getr (pc' := 65) (k := 26) (r := 28) C fl_X6_15 (by decide) kc_26 (by decide) fr_6_1 RV_26_1 dX6_insert_62 rfl ?_
      refine r_iload (pc' := 67) C 3 rfl dX6_insert_65 rfl ?_
      refine r_iconst (pc' := 68) C dX6_insert_67 rfl ?_
      refine r_isub (pc' := 69) C dX6_insert_68 rfl ?_
      refine r_iald (pc' := 70) (k := 28) C (by decide) kc_28 (by have := kl_28; omega) dX6_insert_69 rfl (fun f11 => ?_)
      have ef11 : (up2 av 27 x4.toNat (av 27 (x4 - 1).toNat)) 28 (x4 - 1).toNat = (av 28 (x4 - 1).toNat) := by simp [up2]
      rw [ef11] at f11 ⊢
      refine r_iast (pc' := 71) (k := 28) C (by decide) kc_28 (by have := kl_28; omega) f5 dX6_insert_70 rfl ?_
      refine r_iinc (pc' := 74) (ls' := [(0, .ref (gl_b Y + 26)), (1, .int (i32 x1)), (2, .int (i32 x2)), (4, .int (i32 (x4 + (-1))))]) C 3 rfl (by decide) rfl dX6_insert_71 rfl ?_
      refine r_goto (tgt := 21) C dX6_insert_74 (by decide) ?_
      exact Wa.sub [0, 1, 2, 3] rfl h
set_option maxHeartbeats 4000000 in
set_option maxRecDepth 100000 in
theorem o_X6_insert {Y : Gl} {e : Nat} {P : PN} {x1 : Int} {x2 : Int} {x3 : Int} {iv av : IVt} (hx3 : InR x3) (h : ∀ X : Cx, CX Y X RX6 "insert" cX6_insert 5 none (e + 1) 0 0 →
    (InR ((min 288 288) - 1)) ∧
    L_X6_insert_21 Y X P x1 x2 (min x3 ((min 288 288) - 1)) iv av) : OkN Y (e + 1) mX6_insert [.ref (gl_b Y + 26), .int (i32 x1), .int (i32 x2), .int (i32 x3)] RV iv av 116 P := by
  refine OkW.of rfl (by show _ ≤ 5; exact Nat.le_of_ble_eq_true rfl) fun X C0 hR => ?_
  have C : CX Y X RX6 "insert" cX6_insert 5 none (e + 1) 0 0 := C0
  replace h := h X C
  show Wa Y X 5 (g_MQ Y X 0 (g_N RV 116 P) 0 0) 0 0 0 [(0, .ref (gl_b Y + 26)), (1, .int (i32 x1)), (2, .int (i32 x2)), (3, .int (i32 x3))] [] RV iv av 116
  refine r_iload_n (pc' := 1) C 3 rfl rfl dX6_insert_0 rfl ?_
  refine r_aload_n (pc' := 2) C 0 rfl rfl dX6_insert_1 rfl ?_
  refine r_getr (pc' := 5) (k := 26) (r := 27) C fl_X6_9 (by decide) kc_26 (by decide) fr_6_0 RV_26_0 dX6_insert_2 rfl ?_
  refine r_alen (pc' := 6) (k := 27) (v := 288) C (by decide) kc_27 (by decide) (by rw [kl_27]; rfl) dX6_insert_5 rfl ?_
  refine r_aload_n (pc' := 7) C 0 rfl rfl dX6_insert_6 rfl ?_
  refine r_getr (pc' := 10) (k := 26) (r := 28) C fl_X6_15 (by decide) kc_26 (by decide) fr_6_1 RV_26_1 dX6_insert_7 rfl ?_
  refine r_alen (pc' := 11) (k := 28) (v := 288) C (by decide) kc_28 (by decide) (by rw [kl_28]; rfl) dX6_insert_10 rfl ?_
  refine r_min (pc' := 14) C ml_X6_61 wd_min_s wd_math wd_min_c (by omega) (Nat.le_of_ble_eq_true rfl) (Nat.le_refl _) (Nat.le_refl _) (by decide) (by decide) dX6_insert_11 rfl ?_
  refine r_iconst (pc' := 15) C dX6_insert_14 rfl ?_
  refine r_isub (pc' := 16) C dX6_insert_15 rfl ?_
  have o1 := h.1
  replace h := h.2
  refine r_min (pc' := 19) C ml_X6_61 wd_min_s wd_math wd_min_c (by omega) (Nat.le_of_ble_eq_true rfl) (Nat.le_refl _) (Nat.le_refl _) hx3 o1 dX6_insert_16 rfl ?_
  refine r_istore (pc' := 21) (ls' := [(0, .ref (gl_b Y + 26)), (1, .int (i32 x1)), (2, .int (i32 x2)), (3, .int (i32 x3)), (4, .int (i32 (min x3 ((min 288 288) - 1))))]) C (by decide) rfl dX6_insert_19 rfl ?_
  exact Wa.sub [0, 1, 2, 4] rfl h
def L_X6_begin_2 (Y : Gl) (X : Cx) (P : PN) (x1 : Int) (x2 : Int) (iv av : IVt) : Prop := Wa Y X 3 (g_MQ Y X 0 (g_N RV 116 P) 0 0) 0 0 2 [(0, .ref (gl_b Y + 26)), (1, .int (i32 x1)), (2, .int (i32 x2))] [] RV iv av 116
def L_X6_begin_26 (Y : Gl) (X : Cx) (P : PN) (x1 : Int) (x2 : Int) (iv av : IVt) : Prop := Wa Y X 3 (g_MQ Y X 0 (g_N RV 116 P) 0 0) 0 0 26 [(0, .ref (gl_b Y + 26)), (1, .int (i32 x1)), (2, .int (i32 x2))] [] RV iv av 116
set_option maxHeartbeats 4000000 in
set_option maxRecDepth 100000 in
theorem w_X6_begin_26 {Y : Gl} {X : Cx} {e : Nat} {P : PN} {x1 : Int} {x2 : Int} {iv av : IVt} (C : CX Y X RX6 "begin" cX6_begin 3 none e 0 0) (hx1 : InR x1) (hx2 : InR x2) (h :
    ((x1 ≤ x2) →
      P 0 iv av
    ) ∧
    ((¬ x1 ≤ x2) →
      ((576 ≤ x2) →
        P 0 iv av
      ) ∧
      ((¬ 576 ≤ x2) →
        ((288 ≤ x2) →
          P 0 iv av
        ) ∧
        ((¬ 288 ≤ x2) →
          (0 ≤ x2 ∧ x2 < 288) ∧
          ((InR (av 28 x2.toNat)) →
            (0 ≤ x2 ∧ x2 < 576) ∧
            L_X6_begin_26 Y X P x1 (x2 + 1) iv (up2 av 30 x2.toNat (av 28 x2.toNat))
          )
        )
      )
    )) : L_X6_begin_26 Y X P x1 x2 iv av := by
  unfold L_X6_begin_26
  refine r_iload_n (pc' := 27) C 2 rfl rfl dX6_begin_26 rfl ?_
  refine r_iload_n (pc' := 28) C 1 rfl rfl dX6_begin_27 rfl ?_
  refine r_icmp_ge (pc' := 31) (tgt := 67) C hx2 hx1 dX6_begin_28 (by decide) rfl (fun c1 => ?_) (fun c1 => ?_)
  · replace h := h.1 c1
    exact r_vret C ⟨rfl, rfl, h⟩ dX6_begin_67
  · replace h := h.2 c1
    refine r_iload_n (pc' := 32) C 2 rfl rfl dX6_begin_31 rfl ?_
    refine r_aload_n (pc' := 33) C 0 rfl rfl dX6_begin_32 rfl ?_
    refine r_getr (pc' := 36) (k := 26) (r := 30) C fl_X6_21 (by decide) kc_26 (by decide) fr_6_3 RV_26_3 dX6_begin_33 rfl ?_
    refine r_alen (pc' := 37) (k := 30) (v := 576) C (by decide) kc_30 (by decide) (by rw [kl_30]; rfl) dX6_begin_36 rfl ?_
    refine r_icmp_ge (pc' := 40) (tgt := 67) C hx2 (by decide) dX6_begin_37 (by decide) rfl (fun c2 => ?_) (fun c2 => ?_)
    · replace h := h.1 c2
      exact r_vret C ⟨rfl, rfl, h⟩ dX6_begin_67
    · replace h := h.2 c2
      refine r_iload_n (pc' := 41) C 2 rfl rfl dX6_begin_40 rfl ?_
      refine r_aload_n (pc' := 42) C 0 rfl rfl dX6_begin_41 rfl ?_
      refine r_getr (pc' := 45) (k := 26) (r := 28) C fl_X6_15 (by decide) kc_26 (by decide) fr_6_1 RV_26_1 dX6_begin_42 rfl ?_
      refine r_alen (pc' := 46) (k := 28) (v := 288) C (by decide) kc_28 (by decide) (by rw [kl_28]; rfl) dX6_begin_45 rfl ?_
      refine r_icmp_ge (pc' := 49) (tgt := 67) C hx2 (by decide) dX6_begin_46 (by decide) rfl (fun c3 => ?_) (fun c3 => ?_)
      · replace h := h.1 c3
        exact r_vret C ⟨rfl, rfl, h⟩ dX6_begin_67
      · replace h := h.2 c3
        refine r_aload_n (pc' := 50) C 0 rfl rfl dX6_begin_49 rfl ?_
        refine r_getr (pc' := 53) (k := 26) (r := 30) C fl_X6_21 (by decide) kc_26 (by decide) fr_6_3 RV_26_3 dX6_begin_50 rfl ?_
        refine r_iload_n (pc' := 54) C 2 rfl rfl dX6_begin_53 rfl ?_
        refine r_aload_n (pc' := 55) C 0 rfl rfl dX6_begin_54 rfl ?_
        refine r_getr (pc' := 58) (k := 26) (r := 28) C fl_X6_15 (by decide) kc_26 (by decide) fr_6_1 RV_26_1 dX6_begin_55 rfl ?_
        refine r_iload_n (pc' := 59) C 2 rfl rfl dX6_begin_58 rfl ?_
        have o4 := h.1
        replace h := h.2
        refine r_iald (pc' := 60) (k := 28) C (by decide) kc_28 (by have := kl_28; omega) dX6_begin_59 rfl (fun f5 => ?_)
        replace h := h f5
        have o6 := h.1
        replace h := h.2
        refine r_iast (pc' := 61) (k := 30) C (by decide) kc_30 (by have := kl_30; omega) f5 dX6_begin_60 rfl ?_
        refine r_iinc (pc' := 64) (ls' := [(0, .ref (gl_b Y + 26)), (1, .int (i32 x1)), (2, .int (i32 (x2 + 1)))]) C 2 rfl (by decide) rfl dX6_begin_61 rfl ?_
        refine r_goto (tgt := 26) C dX6_begin_64 (by decide) ?_
        exact Wa.sub [0, 1, 2] rfl h
set_option maxHeartbeats 4000000 in
set_option maxRecDepth 100000 in
theorem w_X6_begin_2 {Y : Gl} {X : Cx} {e : Nat} {P : PN} {x1 : Int} {x2 : Int} {iv av : IVt} (C : CX Y X RX6 "begin" cX6_begin 3 none e 0 0) (hx2 : InR x2) (h :
    ((288 ≤ x2) →
      L_X6_begin_26 Y X P x1 0 iv av
    ) ∧
    ((¬ 288 ≤ x2) →
      (0 ≤ x2 ∧ x2 < 288) ∧
      L_X6_begin_2 Y X P x1 (x2 + 1) iv (up2 av 29 x2.toNat 0)
    )) : L_X6_begin_2 Y X P x1 x2 iv av := by
  unfold L_X6_begin_2
  refine r_iload_n (pc' := 3) C 2 rfl rfl dX6_begin_2 rfl ?_
  refine r_aload_n (pc' := 4) C 0 rfl rfl dX6_begin_3 rfl ?_
  refine r_getr (pc' := 7) (k := 26) (r := 29) C fl_X6_18 (by decide) kc_26 (by decide) fr_6_2 RV_26_2 dX6_begin_4 rfl ?_
  refine r_alen (pc' := 8) (k := 29) (v := 288) C (by decide) kc_29 (by decide) (by rw [kl_29]; rfl) dX6_begin_7 rfl ?_
  refine r_icmp_ge (pc' := 11) (tgt := 24) C hx2 (by decide) dX6_begin_8 (by decide) rfl (fun c1 => ?_) (fun c1 => ?_)
  · replace h := h.1 c1
    refine r_iconst (pc' := 25) C dX6_begin_24 rfl ?_
    refine r_istore_n (pc' := 26) (ls' := [(0, .ref (gl_b Y + 26)), (1, .int (i32 x1)), (2, .int (i32 0))]) C (by decide) rfl rfl dX6_begin_25 rfl ?_
    exact Wa.sub [0, 1, 2] rfl h
  · replace h := h.2 c1
    refine r_aload_n (pc' := 12) C 0 rfl rfl dX6_begin_11 rfl ?_
    refine r_getr (pc' := 15) (k := 26) (r := 29) C fl_X6_18 (by decide) kc_26 (by decide) fr_6_2 RV_26_2 dX6_begin_12 rfl ?_
    refine r_iload_n (pc' := 16) C 2 rfl rfl dX6_begin_15 rfl ?_
    refine r_iconst (pc' := 17) C dX6_begin_16 rfl ?_
    have o2 := h.1
    replace h := h.2
    refine r_iast (pc' := 18) (k := 29) C (by decide) kc_29 (by have := kl_29; omega) (by decide) dX6_begin_17 rfl ?_
    refine r_iinc (pc' := 21) (ls' := [(0, .ref (gl_b Y + 26)), (1, .int (i32 x1)), (2, .int (i32 (x2 + 1)))]) C 2 rfl (by decide) rfl dX6_begin_18 rfl ?_
    refine r_goto (tgt := 2) C dX6_begin_21 (by decide) ?_
    exact Wa.sub [0, 1, 2] rfl h
set_option maxHeartbeats 4000000 in
set_option maxRecDepth 100000 in
theorem o_X6_begin {Y : Gl} {e : Nat} {P : PN} {x1 : Int} {iv av : IVt} (h : ∀ X : Cx, CX Y X RX6 "begin" cX6_begin 3 none e 0 0 →
    L_X6_begin_2 Y X P x1 0 iv av) : OkN Y e mX6_begin [.ref (gl_b Y + 26), .int (i32 x1)] RV iv av 116 P := by
  refine OkW.of rfl (by show _ ≤ 3; exact Nat.le_of_ble_eq_true rfl) fun X C0 hR => ?_
  have C : CX Y X RX6 "begin" cX6_begin 3 none e 0 0 := C0
  replace h := h X C
  show Wa Y X 3 (g_MQ Y X 0 (g_N RV 116 P) 0 0) 0 0 0 [(0, .ref (gl_b Y + 26)), (1, .int (i32 x1))] [] RV iv av 116
  refine r_iconst (pc' := 1) C dX6_begin_0 rfl ?_
  refine r_istore_n (pc' := 2) (ls' := [(0, .ref (gl_b Y + 26)), (1, .int (i32 x1)), (2, .int (i32 0))]) C (by decide) rfl rfl dX6_begin_1 rfl ?_
  exact Wa.sub [0, 1, 2] rfl h
def L_X6_makeList_44 (Y : Gl) (X : Cx) (P : PN) (x4 : Int) (x5 : Int) (x6 : Int) (x7 : Int) (x8 : Int) (x9 : Int) (iv av : IVt) : Prop := Wa Y X 12 (g_MQ Y X 1 (g_N RV 116 P) 0 0) 0 0 44 [(0, .ref (gl_b Y + 26)), (4, .int (i32 x4)), (5, .int (i32 x5)), (6, .int (i32 x6)), (7, .int (i32 x7)), (8, .int (i32 x8)), (9, .int (i32 x9))] [] RV iv av 116
def L_X6_makeList_102 (Y : Gl) (X : Cx) (P : PN) (x4 : Int) (x5 : Int) (x6 : Int) (x7 : Int) (x8 : Int) (x9 : Int) (x10 : Int) (iv av : IVt) : Prop := Wa Y X 12 (g_MQ Y X 1 (g_N RV 116 P) 0 0) 0 0 102 [(0, .ref (gl_b Y + 26)), (4, .int (i32 x4)), (5, .int (i32 x5)), (6, .int (i32 x6)), (7, .int (i32 x7)), (8, .int (i32 x8)), (9, .int (i32 x9)), (10, .int (i32 x10))] [] RV iv av 116
def L_X6_makeList_128 (Y : Gl) (X : Cx) (P : PN) (x4 : Int) (x5 : Int) (x6 : Int) (x7 : Int) (x8 : Int) (x9 : Int) (x10 : Int) (iv av : IVt) : Prop := Wa Y X 12 (g_MQ Y X 1 (g_N RV 116 P) 0 0) 0 0 128 [(0, .ref (gl_b Y + 26)), (4, .int (i32 x4)), (5, .int (i32 x5)), (6, .int (i32 x6)), (7, .int (i32 x7)), (8, .int (i32 x8)), (9, .int (i32 x9)), (10, .int (i32 x10))] [] RV iv av 116
def L_X6_makeList_132 (Y : Gl) (X : Cx) (P : PN) (x4 : Int) (x5 : Int) (x6 : Int) (x7 : Int) (x8 : Int) (x9 : Int) (x10 : Int) (iv av : IVt) : Prop := Wa Y X 12 (g_MQ Y X 1 (g_N RV 116 P) 0 0) 0 0 132 [(0, .ref (gl_b Y + 26)), (4, .int (i32 x4)), (5, .int (i32 x5)), (6, .int (i32 x6)), (7, .int (i32 x7)), (8, .int (i32 x8)), (9, .int (i32 x9)), (10, .int (i32 x10))] [] RV iv av 116
def L_X6_makeList_135 (Y : Gl) (X : Cx) (P : PN) (x4 : Int) (x5 : Int) (x6 : Int) (x7 : Int) (x8 : Int) (x9 : Int) (x10 : Int) (x11 : Int) (iv av : IVt) : Prop := Wa Y X 12 (g_MQ Y X 1 (g_N RV 116 P) 0 0) 0 0 135 [(0, .ref (gl_b Y + 26)), (4, .int (i32 x4)), (5, .int (i32 x5)), (6, .int (i32 x6)), (7, .int (i32 x7)), (8, .int (i32 x8)), (9, .int (i32 x9)), (10, .int (i32 x10)), (11, .int (i32 x11))] [] RV iv av 116
def L_X6_makeList_192 (Y : Gl) (X : Cx) (P : PN) (x4 : Int) (x5 : Int) (x6 : Int) (x7 : Int) (x8 : Int) (x9 : Int) (x11 : Int) (iv av : IVt) : Prop := Wa Y X 12 (g_MQ Y X 1 (g_N RV 116 P) 0 0) 0 0 192 [(0, .ref (gl_b Y + 26)), (4, .int (i32 x4)), (5, .int (i32 x5)), (6, .int (i32 x6)), (7, .int (i32 x7)), (8, .int (i32 x8)), (9, .int (i32 x9)), (11, .int (i32 x11))] [] RV iv av 116
def L_X6_makeList_231 (Y : Gl) (X : Cx) (P : PN) (x9 : Int) (x10 : Int) (iv av : IVt) : Prop := Wa Y X 12 (g_MQ Y X 1 (g_N RV 116 P) 0 0) 0 0 231 [(0, .ref (gl_b Y + 26)), (9, .int (i32 x9)), (10, .int (i32 x10))] [] RV iv av 116
set_option maxHeartbeats 4000000 in
set_option maxRecDepth 100000 in
theorem w_X6_makeList_231 {Y : Gl} {X : Cx} {e : Nat} {P : PN} {x9 : Int} {x10 : Int} {iv av : IVt} (C : CX Y X RX6 "makeList" cX6_makeList 12 (some .int) (e + 1) 0 0) (hx9 : InR x9) (hx10 : InR x10) (h :
    ((x9 ≤ x10) →
      P x9 iv av
    ) ∧
    ((¬ x9 ≤ x10) →
      ((576 ≤ x10) →
        P x9 iv av
      ) ∧
      ((¬ 576 ≤ x10) →
        (0 ≤ x10 ∧ x10 < 576) ∧
        ((InR (av 31 x10.toNat)) →
          L_X6_makeList_231 Y X P x9 (x10 + 1) iv (up2 av 30 x10.toNat (av 31 x10.toNat))
        )
      )
    )) : L_X6_makeList_231 Y X P x9 x10 iv av := by
  unfold L_X6_makeList_231
  refine r_iload (pc' := 233) C 2 rfl dX6_makeList_231 rfl ?_
  refine r_iload (pc' := 235) C 1 rfl dX6_makeList_233 rfl ?_
  refine r_icmp_ge (pc' := 238) (tgt := 268) C hx10 hx9 dX6_makeList_235 (by decide) rfl (fun c1 => ?_) (fun c1 => ?_)
  · replace h := h.1 c1
    refine r_iload (pc' := 270) C 1 rfl dX6_makeList_268 rfl ?_
    exact r_iret C hx9 ⟨rfl, rfl, h⟩ dX6_makeList_270
  · replace h := h.2 c1
    refine r_iload (pc' := 240) C 2 rfl dX6_makeList_238 rfl ?_
    refine r_aload_n (pc' := 241) C 0 rfl rfl dX6_makeList_240 rfl ?_
    refine r_getr (pc' := 244) (k := 26) (r := 30) C fl_X6_21 (by decide) kc_26 (by decide) fr_6_3 RV_26_3 dX6_makeList_241 rfl ?_
    refine r_alen (pc' := 245) (k := 30) (v := 576) C (by decide) kc_30 (by decide) (by rw [kl_30]; rfl) dX6_makeList_244 rfl ?_
    refine r_icmp_ge (pc' := 248) (tgt := 268) C hx10 (by decide) dX6_makeList_245 (by decide) rfl (fun c2 => ?_) (fun c2 => ?_)
    · replace h := h.1 c2
      refine r_iload (pc' := 270) C 1 rfl dX6_makeList_268 rfl ?_
      exact r_iret C hx9 ⟨rfl, rfl, h⟩ dX6_makeList_270
    · replace h := h.2 c2
      refine r_aload_n (pc' := 249) C 0 rfl rfl dX6_makeList_248 rfl ?_
      refine r_getr (pc' := 252) (k := 26) (r := 30) C fl_X6_21 (by decide) kc_26 (by decide) fr_6_3 RV_26_3 dX6_makeList_249 rfl ?_
      refine r_iload (pc' := 254) C 2 rfl dX6_makeList_252 rfl ?_
      refine r_aload_n (pc' := 255) C 0 rfl rfl dX6_makeList_254 rfl ?_
      refine r_getr (pc' := 258) (k := 26) (r := 31) C fl_X6_24 (by decide) kc_26 (by decide) fr_6_4 RV_26_4 dX6_makeList_255 rfl ?_
      refine r_iload (pc' := 260) C 2 rfl dX6_makeList_258 rfl ?_
      have o3 := h.1
      replace h := h.2
      refine r_iald (pc' := 261) (k := 31) C (by decide) kc_31 (by have := kl_31; omega) dX6_makeList_260 rfl (fun f4 => ?_)
      replace h := h f4
      refine r_iast (pc' := 262) (k := 30) C (by decide) kc_30 (by have := kl_30; omega) f4 dX6_makeList_261 rfl ?_
      refine r_iinc (pc' := 265) (ls' := [(0, .ref (gl_b Y + 26)), (9, .int (i32 x9)), (10, .int (i32 (x10 + 1)))]) C 2 rfl (by decide) rfl dX6_makeList_262 rfl ?_
      refine r_goto (tgt := 231) C dX6_makeList_265 (by decide) ?_
      exact Wa.sub [0, 1, 2] rfl h
set_option maxHeartbeats 4000000 in
set_option maxRecDepth 100000 in
theorem w_X6_makeList_192 {Y : Gl} {X : Cx} {e : Nat} {P : PN} {x4 : Int} {x5 : Int} {x6 : Int} {x7 : Int} {x8 : Int} {x9 : Int} {x11 : Int} {iv av : IVt} (C : CX Y X RX6 "makeList" cX6_makeList 12 (some .int) (e + 1) 0 0) (hx11 : InR x11) (h :
    ((x11 = 0) →
      ((x11 = 0) →
        L_X6_makeList_44 Y X P x4 x5 x6 (x7 + 0) (x8 + 1) (x9 + 1) iv av
      ) ∧
      ((¬ x11 = 0) →
        L_X6_makeList_44 Y X P x4 x5 x6 (x7 + 0) (x8 + 0) (x9 + 1) iv av
      )
    ) ∧
    ((¬ x11 = 0) →
      ((x11 = 0) →
        L_X6_makeList_44 Y X P x4 x5 x6 (x7 + 1) (x8 + 1) (x9 + 1) iv av
      ) ∧
      ((¬ x11 = 0) →
        L_X6_makeList_44 Y X P x4 x5 x6 (x7 + 1) (x8 + 0) (x9 + 1) iv av
      )
    )) : L_X6_makeList_192 Y X P x4 x5 x6 x7 x8 x9 x11 iv av := by
  unfold L_X6_makeList_192
  refine r_iload (pc' := 194) C 4 rfl dX6_makeList_192 rfl ?_
  refine r_iload (pc' := 196) C 7 rfl dX6_makeList_194 rfl ?_
  refine r_if_eq (pc' := 199) (tgt := 203) C hx11 dX6_makeList_196 (by decide) rfl (fun c1 => ?_) (fun c1 => ?_)
  · replace h := h.1 c1
    refine r_iconst (pc' := 204) C dX6_makeList_203 rfl ?_
    refine r_iadd (pc' := 205) C dX6_makeList_204 rfl ?_
    refine r_istore (pc' := 207) (ls' := [(0, .ref (gl_b Y + 26)), (4, .int (i32 x4)), (5, .int (i32 x5)), (6, .int (i32 x6)), (7, .int (i32 (x7 + 0))), (8, .int (i32 x8)), (9, .int (i32 x9)), (11, .int (i32 x11))]) C (by decide) rfl dX6_makeList_205 rfl ?_
    refine r_iload (pc' := 209) C 5 rfl dX6_makeList_207 rfl ?_
    refine r_iload (pc' := 211) C 7 rfl dX6_makeList_209 rfl ?_
    refine r_if_eq (pc' := 214) (tgt := 218) C hx11 dX6_makeList_211 (by decide) rfl (fun c2 => ?_) (fun c2 => ?_)
    · replace h := h.1 c2
      refine r_iconst (pc' := 219) C dX6_makeList_218 rfl ?_
      refine r_iadd (pc' := 220) C dX6_makeList_219 rfl ?_
      refine r_istore (pc' := 222) (ls' := [(0, .ref (gl_b Y + 26)), (4, .int (i32 x4)), (5, .int (i32 x5)), (6, .int (i32 x6)), (7, .int (i32 (x7 + 0))), (8, .int (i32 (x8 + 1))), (9, .int (i32 x9)), (11, .int (i32 x11))]) C (by decide) rfl dX6_makeList_220 rfl ?_
      refine r_iinc (pc' := 225) (ls' := [(0, .ref (gl_b Y + 26)), (4, .int (i32 x4)), (5, .int (i32 x5)), (6, .int (i32 x6)), (7, .int (i32 (x7 + 0))), (8, .int (i32 (x8 + 1))), (9, .int (i32 (x9 + 1))), (11, .int (i32 x11))]) C 6 rfl (by decide) rfl dX6_makeList_222 rfl ?_
      refine r_goto (tgt := 44) C dX6_makeList_225 (by decide) ?_
      exact Wa.sub [0, 1, 2, 3, 4, 5, 6] rfl h
    · replace h := h.2 c2
      refine r_iconst (pc' := 215) C dX6_makeList_214 rfl ?_
      refine r_goto (tgt := 219) C dX6_makeList_215 (by decide) ?_
      refine r_iadd (pc' := 220) C dX6_makeList_219 rfl ?_
      refine r_istore (pc' := 222) (ls' := [(0, .ref (gl_b Y + 26)), (4, .int (i32 x4)), (5, .int (i32 x5)), (6, .int (i32 x6)), (7, .int (i32 (x7 + 0))), (8, .int (i32 (x8 + 0))), (9, .int (i32 x9)), (11, .int (i32 x11))]) C (by decide) rfl dX6_makeList_220 rfl ?_
      refine r_iinc (pc' := 225) (ls' := [(0, .ref (gl_b Y + 26)), (4, .int (i32 x4)), (5, .int (i32 x5)), (6, .int (i32 x6)), (7, .int (i32 (x7 + 0))), (8, .int (i32 (x8 + 0))), (9, .int (i32 (x9 + 1))), (11, .int (i32 x11))]) C 6 rfl (by decide) rfl dX6_makeList_222 rfl ?_
      refine r_goto (tgt := 44) C dX6_makeList_225 (by decide) ?_
      exact Wa.sub [0, 1, 2, 3, 4, 5, 6] rfl h
  · replace h := h.2 c1
    refine r_iconst (pc' := 200) C dX6_makeList_199 rfl ?_
    refine r_goto (tgt := 204) C dX6_makeList_200 (by decide) ?_
    refine r_iadd (pc' := 205) C dX6_makeList_204 rfl ?_
    refine r_istore (pc' := 207) (ls' := [(0, .ref (gl_b Y + 26)), (4, .int (i32 x4)), (5, .int (i32 x5)), (6, .int (i32 x6)), (7, .int (i32 (x7 + 1))), (8, .int (i32 x8)), (9, .int (i32 x9)), (11, .int (i32 x11))]) C (by decide) rfl dX6_makeList_205 rfl ?_
    refine r_iload (pc' := 209) C 5 rfl dX6_makeList_207 rfl ?_
    refine r_iload (pc' := 211) C 7 rfl dX6_makeList_209 rfl ?_
    refine r_if_eq (pc' := 214) (tgt := 218) C hx11 dX6_makeList_211 (by decide) rfl (fun c3 => ?_) (fun c3 => ?_)
    · replace h := h.1 c3
      refine r_iconst (pc' := 219) C dX6_makeList_218 rfl ?_
      refine r_iadd (pc' := 220) C dX6_makeList_219 rfl ?_
      refine r_istore (pc' := 222) (ls' := [(0, .ref (gl_b Y + 26)), (4, .int (i32 x4)), (5, .int (i32 x5)), (6, .int (i32 x6)), (7, .int (i32 (x7 + 1))), (8, .int (i32 (x8 + 1))), (9, .int (i32 x9)), (11, .int (i32 x11))]) C (by decide) rfl dX6_makeList_220 rfl ?_
      refine r_iinc (pc' := 225) (ls' := [(0, .ref (gl_b Y + 26)), (4, .int (i32 x4)), (5, .int (i32 x5)), (6, .int (i32 x6)), (7, .int (i32 (x7 + 1))), (8, .int (i32 (x8 + 1))), (9, .int (i32 (x9 + 1))), (11, .int (i32 x11))]) C 6 rfl (by decide) rfl dX6_makeList_222 rfl ?_
      refine r_goto (tgt := 44) C dX6_makeList_225 (by decide) ?_
      exact Wa.sub [0, 1, 2, 3, 4, 5, 6] rfl h
    · replace h := h.2 c3
      refine r_iconst (pc' := 215) C dX6_makeList_214 rfl ?_
      refine r_goto (tgt := 219) C dX6_makeList_215 (by decide) ?_
      refine r_iadd (pc' := 220) C dX6_makeList_219 rfl ?_
      refine r_istore (pc' := 222) (ls' := [(0, .ref (gl_b Y + 26)), (4, .int (i32 x4)), (5, .int (i32 x5)), (6, .int (i32 x6)), (7, .int (i32 (x7 + 1))), (8, .int (i32 (x8 + 0))), (9, .int (i32 x9)), (11, .int (i32 x11))]) C (by decide) rfl dX6_makeList_220 rfl ?_
      refine r_iinc (pc' := 225) (ls' := [(0, .ref (gl_b Y + 26)), (4, .int (i32 x4)), (5, .int (i32 x5)), (6, .int (i32 x6)), (7, .int (i32 (x7 + 1))), (8, .int (i32 (x8 + 0))), (9, .int (i32 (x9 + 1))), (11, .int (i32 x11))]) C 6 rfl (by decide) rfl dX6_makeList_222 rfl ?_
      refine r_goto (tgt := 44) C dX6_makeList_225 (by decide) ?_
      exact Wa.sub [0, 1, 2, 3, 4, 5, 6] rfl h
set_option maxHeartbeats 4000000 in
set_option maxRecDepth 100000 in
theorem w_X6_makeList_135 {Y : Gl} {X : Cx} {e : Nat} {P : PN} {x4 : Int} {x5 : Int} {x6 : Int} {x7 : Int} {x8 : Int} {x9 : Int} {x10 : Int} {x11 : Int} {iv av : IVt} (C : CX Y X RX6 "makeList" cX6_makeList 12 (some .int) (e + 1) 0 0) (hx10 : InR x10) (hx11 : InR x11) (h :
    ((x11 = 0) →
      (0 ≤ x9 ∧ x9 < 576) ∧
      (InR (x6 + x9)) ∧
      ((8640 ≤ (x6 + x9)) →
        L_X6_makeList_192 Y X P x4 x5 x6 x7 x8 x9 x11 iv (up2 av 31 x9.toNat x10)
      ) ∧
      ((¬ 8640 ≤ (x6 + x9)) →
        ((¬ x11 = 0) →
          (0 ≤ (x6 + x9) ∧ (x6 + x9) < 8640) ∧
          L_X6_makeList_192 Y X P x4 x5 x6 x7 x8 x9 x11 iv (up2 (up2 av 31 x9.toNat x10) 32 ((x6 + x9).toNat) 0)
        ) ∧
        ((x11 = 0) →
          (0 ≤ (x6 + x9) ∧ (x6 + x9) < 8640) ∧
          L_X6_makeList_192 Y X P x4 x5 x6 x7 x8 x9 x11 iv (up2 (up2 av 31 x9.toNat x10) 32 ((x6 + x9).toNat) 1)
        )
      )
    ) ∧
    ((¬ x11 = 0) →
      (0 ≤ x7 ∧ x7 < 288) ∧
      ((InR (av 28 x7.toNat)) →
        (0 ≤ x9 ∧ x9 < 576) ∧
        (InR (x6 + x9)) ∧
        ((8640 ≤ (x6 + x9)) →
          L_X6_makeList_192 Y X P x4 x5 x6 x7 x8 x9 x11 iv (up2 av 31 x9.toNat (av 28 x7.toNat))
        ) ∧
        ((¬ 8640 ≤ (x6 + x9)) →
          ((¬ x11 = 0) →
            (0 ≤ (x6 + x9) ∧ (x6 + x9) < 8640) ∧
            L_X6_makeList_192 Y X P x4 x5 x6 x7 x8 x9 x11 iv (up2 (up2 av 31 x9.toNat (av 28 x7.toNat)) 32 ((x6 + x9).toNat) 0)
          ) ∧
          ((x11 = 0) →
            (0 ≤ (x6 + x9) ∧ (x6 + x9) < 8640) ∧
            L_X6_makeList_192 Y X P x4 x5 x6 x7 x8 x9 x11 iv (up2 (up2 av 31 x9.toNat (av 28 x7.toNat)) 32 ((x6 + x9).toNat) 1)
          )
        )
      )
    )) : L_X6_makeList_135 Y X P x4 x5 x6 x7 x8 x9 x10 x11 iv av := by
  unfold L_X6_makeList_135
  refine r_aload_n (pc' := 136) C 0 rfl rfl dX6_makeList_135 rfl ?_
  refine r_getr (pc' := 139) (k := 26) (r := 31) C fl_X6_24 (by decide) kc_26 (by decide) fr_6_4 RV_26_4 dX6_makeList_136 rfl ?_
  refine r_iload (pc' := 141) C 6 rfl dX6_makeList_139 rfl ?_
  refine r_iload (pc' := 143) C 8 rfl dX6_makeList_141 rfl ?_
  refine r_if_eq (pc' := 146) (tgt := 156) C hx11 dX6_makeList_143 (by decide) rfl (fun c1 => ?_) (fun c1 => ?_)
  · replace h := h.1 c1
    refine r_iload (pc' := 158) C 7 rfl dX6_makeList_156 rfl ?_
    have o2 := h.1
    replace h := h.2
    refine r_iast (pc' := 159) (k := 31) C (by decide) kc_31 (by have := kl_31; omega) hx10 dX6_makeList_158 rfl ?_
    refine r_iload (pc' := 161) C 3 rfl dX6_makeList_159 rfl ?_
    refine r_iload (pc' := 163) C 6 rfl dX6_makeList_161 rfl ?_
    refine r_iadd (pc' := 164) C dX6_makeList_163 rfl ?_
    refine r_aload_n (pc' := 165) C 0 rfl rfl dX6_makeList_164 rfl ?_
    refine r_getr (pc' := 168) (k := 26) (r := 32) C fl_X6_27 (by decide) kc_26 (by decide) fr_6_5 RV_26_5 dX6_makeList_165 rfl ?_
    refine r_alen (pc' := 169) (k := 32) (v := 8640) C (by decide) kc_32 (by decide) (by rw [kl_32]; rfl) dX6_makeList_168 rfl ?_
    have o3 := h.1
    replace h := h.2
    refine r_icmp_ge (pc' := 172) (tgt := 192) C o3 (by decide) dX6_makeList_169 (by decide) rfl (fun c4 => ?_) (fun c4 => ?_)
    · replace h := h.1 c4
      exact Wa.sub [0, 1, 2, 3, 4, 5, 6, 8] rfl h
    · replace h := h.2 c4
      refine r_aload_n (pc' := 173) C 0 rfl rfl dX6_makeList_172 rfl ?_
      refine r_getr (pc' := 176) (k := 26) (r := 32) C fl_X6_27 (by decide) kc_26 (by decide) fr_6_5 RV_26_5 dX6_makeList_173 rfl ?_
      refine r_iload (pc' := 178) C 3 rfl dX6_makeList_176 rfl ?_
      refine r_iload (pc' := 180) C 6 rfl dX6_makeList_178 rfl ?_
      refine r_iadd (pc' := 181) C dX6_makeList_180 rfl ?_
      refine r_iload (pc' := 183) C 8 rfl dX6_makeList_181 rfl ?_
      refine r_if_ne (pc' := 186) (tgt := 190) C hx11 dX6_makeList_183 (by decide) rfl (fun c5 => ?_) (fun c5 => ?_)
      · replace h := h.1 c5
        refine r_iconst (pc' := 191) C dX6_makeList_190 rfl ?_
        have o6 := h.1
        replace h := h.2
        refine r_zast (pc' := 192) (k := 32) C (by decide) kc_32 (by have := kl_32; omega) (by decide) dX6_makeList_191 rfl ?_
        exact Wa.sub [0, 1, 2, 3, 4, 5, 6, 8] rfl h
      · replace h := h.2 c5
        refine r_iconst (pc' := 187) C dX6_makeList_186 rfl ?_
        refine r_goto (tgt := 191) C dX6_makeList_187 (by decide) ?_
        have o7 := h.1
        replace h := h.2
        refine r_zast (pc' := 192) (k := 32) C (by decide) kc_32 (by have := kl_32; omega) (by decide) dX6_makeList_191 rfl ?_
        exact Wa.sub [0, 1, 2, 3, 4, 5, 6, 8] rfl h
  · replace h := h.2 c1
    refine r_aload_n (pc' := 147) C 0 rfl rfl dX6_makeList_146 rfl ?_
    refine r_getr (pc' := 150) (k := 26) (r := 28) C fl_X6_15 (by decide) kc_26 (by decide) fr_6_1 RV_26_1 dX6_makeList_147 rfl ?_
    refine r_iload (pc' := 152) C 4 rfl dX6_makeList_150 rfl ?_
    have o8 := h.1
    replace h := h.2
    refine r_iald (pc' := 153) (k := 28) C (by decide) kc_28 (by have := kl_28; omega) dX6_makeList_152 rfl (fun f9 => ?_)
    replace h := h f9
    refine r_goto (tgt := 158) C dX6_makeList_153 (by decide) ?_
    have o10 := h.1
    replace h := h.2
    refine r_iast (pc' := 159) (k := 31) C (by decide) kc_31 (by have := kl_31; omega) f9 dX6_makeList_158 rfl ?_
    refine r_iload (pc' := 161) C 3 rfl dX6_makeList_159 rfl ?_
    refine r_iload (pc' := 163) C 6 rfl dX6_makeList_161 rfl ?_
    refine r_iadd (pc' := 164) C dX6_makeList_163 rfl ?_
    refine r_aload_n (pc' := 165) C 0 rfl rfl dX6_makeList_164 rfl ?_
    refine r_getr (pc' := 168) (k := 26) (r := 32) C fl_X6_27 (by decide) kc_26 (by decide) fr_6_5 RV_26_5 dX6_makeList_165 rfl ?_
    refine r_alen (pc' := 169) (k := 32) (v := 8640) C (by decide) kc_32 (by decide) (by rw [kl_32]; rfl) dX6_makeList_168 rfl ?_
    have o11 := h.1
    replace h := h.2
    refine r_icmp_ge (pc' := 172) (tgt := 192) C o11 (by decide) dX6_makeList_169 (by decide) rfl (fun c12 => ?_) (fun c12 => ?_)
    · replace h := h.1 c12
      exact Wa.sub [0, 1, 2, 3, 4, 5, 6, 8] rfl h
    · replace h := h.2 c12
      refine r_aload_n (pc' := 173) C 0 rfl rfl dX6_makeList_172 rfl ?_
      refine r_getr (pc' := 176) (k := 26) (r := 32) C fl_X6_27 (by decide) kc_26 (by decide) fr_6_5 RV_26_5 dX6_makeList_173 rfl ?_
      refine r_iload (pc' := 178) C 3 rfl dX6_makeList_176 rfl ?_
      refine r_iload (pc' := 180) C 6 rfl dX6_makeList_178 rfl ?_
      refine r_iadd (pc' := 181) C dX6_makeList_180 rfl ?_
      refine r_iload (pc' := 183) C 8 rfl dX6_makeList_181 rfl ?_
      refine r_if_ne (pc' := 186) (tgt := 190) C hx11 dX6_makeList_183 (by decide) rfl (fun c13 => ?_) (fun c13 => ?_)
      · replace h := h.1 c13
        refine r_iconst (pc' := 191) C dX6_makeList_190 rfl ?_
        have o14 := h.1
        replace h := h.2
        refine r_zast (pc' := 192) (k := 32) C (by decide) kc_32 (by have := kl_32; omega) (by decide) dX6_makeList_191 rfl ?_
        exact Wa.sub [0, 1, 2, 3, 4, 5, 6, 8] rfl h
      · replace h := h.2 c13
        refine r_iconst (pc' := 187) C dX6_makeList_186 rfl ?_
        refine r_goto (tgt := 191) C dX6_makeList_187 (by decide) ?_
        have o15 := h.1
        replace h := h.2
        refine r_zast (pc' := 192) (k := 32) C (by decide) kc_32 (by have := kl_32; omega) (by decide) dX6_makeList_191 rfl ?_
        exact Wa.sub [0, 1, 2, 3, 4, 5, 6, 8] rfl h
set_option maxHeartbeats 4000000 in
set_option maxRecDepth 100000 in
theorem w_X6_makeList_132 {Y : Gl} {X : Cx} {e : Nat} {P : PN} {x4 : Int} {x5 : Int} {x6 : Int} {x7 : Int} {x8 : Int} {x9 : Int} {x10 : Int} {iv av : IVt} (C : CX Y X RX6 "makeList" cX6_makeList 12 (some .int) (e + 1) 0 0) (h :
    L_X6_makeList_135 Y X P x4 x5 x6 x7 x8 x9 x10 0 iv av) : L_X6_makeList_132 Y X P x4 x5 x6 x7 x8 x9 x10 iv av := by
  unfold L_X6_makeList_132
  refine r_iconst (pc' := 133) C dX6_makeList_132 rfl ?_
  refine r_istore (pc' := 135) (ls' := [(0, .ref (gl_b Y + 26)), (4, .int (i32 x4)), (5, .int (i32 x5)), (6, .int (i32 x6)), (7, .int (i32 x7)), (8, .int (i32 x8)), (9, .int (i32 x9)), (10, .int (i32 x10)), (11, .int (i32 0))]) C (by decide) rfl dX6_makeList_133 rfl ?_
  exact Wa.sub [0, 1, 2, 3, 4, 5, 6, 7, 8] rfl h
set_option maxHeartbeats 4000000 in
set_option maxRecDepth 100000 in
theorem w_X6_makeList_128 {Y : Gl} {X : Cx} {e : Nat} {P : PN} {x4 : Int} {x5 : Int} {x6 : Int} {x7 : Int} {x8 : Int} {x9 : Int} {x10 : Int} {iv av : IVt} (C : CX Y X RX6 "makeList" cX6_makeList 12 (some .int) (e + 1) 0 0) (h :
    L_X6_makeList_135 Y X P x4 x5 x6 x7 x8 x9 x10 1 iv av) : L_X6_makeList_128 Y X P x4 x5 x6 x7 x8 x9 x10 iv av := by
  unfold L_X6_makeList_128
  refine r_iconst (pc' := 129) C dX6_makeList_128 rfl ?_
  refine r_goto (tgt := 133) C dX6_makeList_129 (by decide) ?_
  refine r_istore (pc' := 135) (ls' := [(0, .ref (gl_b Y + 26)), (4, .int (i32 x4)), (5, .int (i32 x5)), (6, .int (i32 x6)), (7, .int (i32 x7)), (8, .int (i32 x8)), (9, .int (i32 x9)), (10, .int (i32 x10)), (11, .int (i32 1))]) C (by decide) rfl dX6_makeList_133 rfl ?_
  exact Wa.sub [0, 1, 2, 3, 4, 5, 6, 7, 8] rfl h
set_option maxHeartbeats 4000000 in
set_option maxRecDepth 100000 in
theorem w_X6_makeList_102 {Y : Gl} {X : Cx} {e : Nat} {P : PN} {x4 : Int} {x5 : Int} {x6 : Int} {x7 : Int} {x8 : Int} {x9 : Int} {x10 : Int} {iv av : IVt} (C : CX Y X RX6 "makeList" cX6_makeList 12 (some .int) (e + 1) 0 0) (hx4 : InR x4) (hx5 : InR x5) (hx7 : InR x7) (hx8 : InR x8) (hx10 : InR x10) (h :
    ((x4 ≤ x7) →
      L_X6_makeList_132 Y X P x4 x5 x6 x7 x8 x9 x10 iv av
    ) ∧
    ((¬ x4 ≤ x7) →
      ((x5 ≤ x8) →
        L_X6_makeList_128 Y X P x4 x5 x6 x7 x8 x9 x10 iv av
      ) ∧
      ((¬ x5 ≤ x8) →
        (0 ≤ x7 ∧ x7 < 288) ∧
        ((InR (av 28 x7.toNat)) →
          ((x10 < (av 28 x7.toNat)) →
            L_X6_makeList_132 Y X P x4 x5 x6 x7 x8 x9 x10 iv av
          ) ∧
          ((¬ x10 < (av 28 x7.toNat)) →
            L_X6_makeList_128 Y X P x4 x5 x6 x7 x8 x9 x10 iv av
          )
        )
      )
    )) : L_X6_makeList_102 Y X P x4 x5 x6 x7 x8 x9 x10 iv av := by
  unfold L_X6_makeList_102
  refine r_iload (pc' := 104) C 4 rfl dX6_makeList_102 rfl ?_
  refine r_iload (pc' := 106) C 1 rfl dX6_makeList_104 rfl ?_
  refine r_icmp_ge (pc' := 109) (tgt := 132) C hx7 hx4 dX6_makeList_106 (by decide) rfl (fun c1 => ?_) (fun c1 => ?_)
  · replace h := h.1 c1
    exact Wa.sub [0, 1, 2, 3, 4, 5, 6, 7] rfl h
  · replace h := h.2 c1
    refine r_iload (pc' := 111) C 5 rfl dX6_makeList_109 rfl ?_
    refine r_iload (pc' := 113) C 2 rfl dX6_makeList_111 rfl ?_
    refine r_icmp_ge (pc' := 116) (tgt := 128) C hx8 hx5 dX6_makeList_113 (by decide) rfl (fun c2 => ?_) (fun c2 => ?_)
    · replace h := h.1 c2
      exact Wa.sub [0, 1, 2, 3, 4, 5, 6, 7] rfl h
    · replace h := h.2 c2
      refine r_aload_n (pc' := 117) C 0 rfl rfl dX6_makeList_116 rfl ?_
      refine r_getr (pc' := 120) (k := 26) (r := 28) C fl_X6_15 (by decide) kc_26 (by decide) fr_6_1 RV_26_1 dX6_makeList_117 rfl ?_
      refine r_iload (pc' := 122) C 4 rfl dX6_makeList_120 rfl ?_
      have o3 := h.1
      replace h := h.2
      refine r_iald (pc' := 123) (k := 28) C (by decide) kc_28 (by have := kl_28; omega) dX6_makeList_122 rfl (fun f4 => ?_)
      replace h := h f4
      refine r_iload (pc' := 125) C 7 rfl dX6_makeList_123 rfl ?_
      refine r_icmp_gt (pc' := 128) (tgt := 132) C f4 hx10 dX6_makeList_125 (by decide) rfl (fun c5 => ?_) (fun c5 => ?_)
      · replace h := h.1 c5
        exact Wa.sub [0, 1, 2, 3, 4, 5, 6, 7] rfl h
      · replace h := h.2 c5
        exact Wa.sub [0, 1, 2, 3, 4, 5, 6, 7] rfl h
set_option maxHeartbeats 4000000 in
set_option maxRecDepth 100000 in
theorem w_X6_makeList_44 {Y : Gl} {X : Cx} {e : Nat} {P : PN} {x4 : Int} {x5 : Int} {x6 : Int} {x7 : Int} {x8 : Int} {x9 : Int} {iv av : IVt} (C : CX Y X RX6 "makeList" cX6_makeList 12 (some .int) (e + 1) 0 0) (hx4 : InR x4) (hx5 : InR x5) (hx7 : InR x7) (hx8 : InR x8) (hx9 : InR x9) (h :
    ((576 ≤ x9) →
      L_X6_makeList_231 Y X P x9 0 iv av
    ) ∧
    ((¬ 576 ≤ x9) →
      ((x7 < x4) →
        ((x5 ≤ x8) →
          L_X6_makeList_102 Y X P x4 x5 x6 x7 x8 x9 0 iv av
        ) ∧
        ((¬ x5 ≤ x8) →
          (0 ≤ (2 * x8) ∧ (2 * x8) < 576) ∧
          ((InR (av 30 (2 * x8).toNat)) →
            (0 ≤ ((2 * x8) + 1) ∧ ((2 * x8) + 1) < 576) ∧
            ((InR (av 30 ((2 * x8) + 1).toNat)) →
              L_X6_makeList_102 Y X P x4 x5 x6 x7 x8 x9 ((av 30 (2 * x8).toNat) + (av 30 ((2 * x8) + 1).toNat)) iv av
            )
          )
        )
      ) ∧
      ((¬ x7 < x4) →
        ((x5 ≤ x8) →
          L_X6_makeList_231 Y X P x9 0 iv av
        ) ∧
        ((¬ x5 ≤ x8) →
          ((x5 ≤ x8) →
            L_X6_makeList_102 Y X P x4 x5 x6 x7 x8 x9 0 iv av
          ) ∧
          ((¬ x5 ≤ x8) →
            (0 ≤ (2 * x8) ∧ (2 * x8) < 576) ∧
            ((InR (av 30 (2 * x8).toNat)) →
              (0 ≤ ((2 * x8) + 1) ∧ ((2 * x8) + 1) < 576) ∧
              ((InR (av 30 ((2 * x8) + 1).toNat)) →
                L_X6_makeList_102 Y X P x4 x5 x6 x7 x8 x9 ((av 30 (2 * x8).toNat) + (av 30 ((2 * x8) + 1).toNat)) iv av
              )
            )
          )
        )
      )
    )) : L_X6_makeList_44 Y X P x4 x5 x6 x7 x8 x9 iv av := by
  unfold L_X6_makeList_44
  refine r_iload (pc' := 46) C 6 rfl dX6_makeList_44 rfl ?_
  refine r_aload_n (pc' := 47) C 0 rfl rfl dX6_makeList_46 rfl ?_
  refine r_getr (pc' := 50) (k := 26) (r := 31) C fl_X6_24 (by decide) kc_26 (by decide) fr_6_4 RV_26_4 dX6_makeList_47 rfl ?_
  refine r_alen (pc' := 51) (k := 31) (v := 576) C (by decide) kc_31 (by decide) (by rw [kl_31]; rfl) dX6_makeList_50 rfl ?_
  refine r_icmp_ge (pc' := 54) (tgt := 228) C hx9 (by decide) dX6_makeList_51 (by decide) rfl (fun c1 => ?_) (fun c1 => ?_)
  · replace h := h.1 c1
    refine r_iconst (pc' := 229) C dX6_makeList_228 rfl ?_
    refine r_istore (pc' := 231) (ls' := [(0, .ref (gl_b Y + 26)), (4, .int (i32 x4)), (5, .int (i32 x5)), (6, .int (i32 x6)), (7, .int (i32 x7)), (8, .int (i32 x8)), (9, .int (i32 x9)), (10, .int (i32 0))]) C (by decide) rfl dX6_makeList_229 rfl ?_
    exact Wa.sub [0, 6, 7] rfl h
  · replace h := h.2 c1
    refine r_iload (pc' := 56) C 4 rfl dX6_makeList_54 rfl ?_
    refine r_iload (pc' := 58) C 1 rfl dX6_makeList_56 rfl ?_
    refine r_icmp_lt (pc' := 61) (tgt := 68) C hx7 hx4 dX6_makeList_58 (by decide) rfl (fun c2 => ?_) (fun c2 => ?_)
    · replace h := h.1 c2
      refine r_iload (pc' := 70) C 5 rfl dX6_makeList_68 rfl ?_
      refine r_iload (pc' := 72) C 2 rfl dX6_makeList_70 rfl ?_
      refine r_icmp_ge (pc' := 75) (tgt := 99) C hx8 hx5 dX6_makeList_72 (by decide) rfl (fun c3 => ?_) (fun c3 => ?_)
      · replace h := h.1 c3
        refine r_iconst (pc' := 100) C dX6_makeList_99 rfl ?_
        refine r_istore (pc' := 102) (ls' := [(0, .ref (gl_b Y + 26)), (4, .int (i32 x4)), (5, .int (i32 x5)), (6, .int (i32 x6)), (7, .int (i32 x7)), (8, .int (i32 x8)), (9, .int (i32 x9)), (10, .int (i32 0))]) C (by decide) rfl dX6_makeList_100 rfl ?_
        exact Wa.sub [0, 1, 2, 3, 4, 5, 6, 7] rfl h
      · replace h := h.2 c3
        refine r_aload_n (pc' := 76) C 0 rfl rfl dX6_makeList_75 rfl ?_
        refine r_getr (pc' := 79) (k := 26) (r := 30) C fl_X6_21 (by decide) kc_26 (by decide) fr_6_3 RV_26_3 dX6_makeList_76 rfl ?_
        refine r_iconst (pc' := 80) C dX6_makeList_79 rfl ?_
        refine r_iload (pc' := 82) C 5 rfl dX6_makeList_80 rfl ?_
        refine r_imul (pc' := 83) C dX6_makeList_82 rfl ?_
        have o4 := h.1
        replace h := h.2
        refine r_iald (pc' := 84) (k := 30) C (by decide) kc_30 (by have := kl_30; omega) dX6_makeList_83 rfl (fun f5 => ?_)
        replace h := h f5
        refine r_aload_n (pc' := 85) C 0 rfl rfl dX6_makeList_84 rfl ?_
        refine r_getr (pc' := 88) (k := 26) (r := 30) C fl_X6_21 (by decide) kc_26 (by decide) fr_6_3 RV_26_3 dX6_makeList_85 rfl ?_
        refine r_iconst (pc' := 89) C dX6_makeList_88 rfl ?_
        refine r_iload (pc' := 91) C 5 rfl dX6_makeList_89 rfl ?_
        refine r_imul (pc' := 92) C dX6_makeList_91 rfl ?_
        refine r_iconst (pc' := 93) C dX6_makeList_92 rfl ?_
        refine r_iadd (pc' := 94) C dX6_makeList_93 rfl ?_
        have o6 := h.1
        replace h := h.2
        refine r_iald (pc' := 95) (k := 30) C (by decide) kc_30 (by have := kl_30; omega) dX6_makeList_94 rfl (fun f7 => ?_)
        replace h := h f7
        refine r_iadd (pc' := 96) C dX6_makeList_95 rfl ?_
        refine r_goto (tgt := 100) C dX6_makeList_96 (by decide) ?_
        refine r_istore (pc' := 102) (ls' := [(0, .ref (gl_b Y + 26)), (4, .int (i32 x4)), (5, .int (i32 x5)), (6, .int (i32 x6)), (7, .int (i32 x7)), (8, .int (i32 x8)), (9, .int (i32 x9)), (10, .int (i32 ((av 30 (2 * x8).toNat) + (av 30 ((2 * x8) + 1).toNat))))]) C (by decide) rfl dX6_makeList_100 rfl ?_
        exact Wa.sub [0, 1, 2, 3, 4, 5, 6, 7] rfl h
    · replace h := h.2 c2
      refine r_iload (pc' := 63) C 5 rfl dX6_makeList_61 rfl ?_
      refine r_iload (pc' := 65) C 2 rfl dX6_makeList_63 rfl ?_
      refine r_icmp_ge (pc' := 68) (tgt := 228) C hx8 hx5 dX6_makeList_65 (by decide) rfl (fun c8 => ?_) (fun c8 => ?_)
      · replace h := h.1 c8
        refine r_iconst (pc' := 229) C dX6_makeList_228 rfl ?_
        refine r_istore (pc' := 231) (ls' := [(0, .ref (gl_b Y + 26)), (4, .int (i32 x4)), (5, .int (i32 x5)), (6, .int (i32 x6)), (7, .int (i32 x7)), (8, .int (i32 x8)), (9, .int (i32 x9)), (10, .int (i32 0))]) C (by decide) rfl dX6_makeList_229 rfl ?_
        exact Wa.sub [0, 6, 7] rfl h
      · replace h := h.2 c8
        refine r_iload (pc' := 70) C 5 rfl dX6_makeList_68 rfl ?_
        refine r_iload (pc' := 72) C 2 rfl dX6_makeList_70 rfl ?_
        refine r_icmp_ge (pc' := 75) (tgt := 99) C hx8 hx5 dX6_makeList_72 (by decide) rfl (fun c9 => ?_) (fun c9 => ?_)
        · replace h := h.1 c9
          refine r_iconst (pc' := 100) C dX6_makeList_99 rfl ?_
          refine r_istore (pc' := 102) (ls' := [(0, .ref (gl_b Y + 26)), (4, .int (i32 x4)), (5, .int (i32 x5)), (6, .int (i32 x6)), (7, .int (i32 x7)), (8, .int (i32 x8)), (9, .int (i32 x9)), (10, .int (i32 0))]) C (by decide) rfl dX6_makeList_100 rfl ?_
          exact Wa.sub [0, 1, 2, 3, 4, 5, 6, 7] rfl h
        · replace h := h.2 c9
          refine r_aload_n (pc' := 76) C 0 rfl rfl dX6_makeList_75 rfl ?_
          refine r_getr (pc' := 79) (k := 26) (r := 30) C fl_X6_21 (by decide) kc_26 (by decide) fr_6_3 RV_26_3 dX6_makeList_76 rfl ?_
          refine r_iconst (pc' := 80) C dX6_makeList_79 rfl ?_
          refine r_iload (pc' := 82) C 5 rfl dX6_makeList_80 rfl ?_
          refine r_imul (pc' := 83) C dX6_makeList_82 rfl ?_
          have o10 := h.1
          replace h := h.2
          refine r_iald (pc' := 84) (k := 30) C (by decide) kc_30 (by have := kl_30; omega) dX6_makeList_83 rfl (fun f11 => ?_)
          replace h := h f11
          refine r_aload_n (pc' := 85) C 0 rfl rfl dX6_makeList_84 rfl ?_
          refine r_getr (pc' := 88) (k := 26) (r := 30) C fl_X6_21 (by decide) kc_26 (by decide) fr_6_3 RV_26_3 dX6_makeList_85 rfl ?_
          refine r_iconst (pc' := 89) C dX6_makeList_88 rfl ?_
          refine r_iload (pc' := 91) C 5 rfl dX6_makeList_89 rfl ?_
          refine r_imul (pc' := 92) C dX6_makeList_91 rfl ?_
          refine r_iconst (pc' := 93) C dX6_makeList_92 rfl ?_
          refine r_iadd (pc' := 94) C dX6_makeList_93 rfl ?_
          have o12 := h.1
          replace h := h.2
          refine r_iald (pc' := 95) (k := 30) C (by decide) kc_30 (by have := kl_30; omega) dX6_makeList_94 rfl (fun f13 => ?_)
          replace h := h f13
          refine r_iadd (pc' := 96) C dX6_makeList_95 rfl ?_
          refine r_goto (tgt := 100) C dX6_makeList_96 (by decide) ?_
          refine r_istore (pc' := 102) (ls' := [(0, .ref (gl_b Y + 26)), (4, .int (i32 x4)), (5, .int (i32 x5)), (6, .int (i32 x6)), (7, .int (i32 x7)), (8, .int (i32 x8)), (9, .int (i32 x9)), (10, .int (i32 ((av 30 (2 * x8).toNat) + (av 30 ((2 * x8) + 1).toNat))))]) C (by decide) rfl dX6_makeList_100 rfl ?_
          exact Wa.sub [0, 1, 2, 3, 4, 5, 6, 7] rfl h
set_option maxHeartbeats 4000000 in
set_option maxRecDepth 100000 in
theorem o_X6_makeList {Y : Gl} {e : Nat} {P : PN} {x1 : Int} {x2 : Int} {x3 : Int} {iv av : IVt} (hx1 : InR x1) (hx2 : InR x2) (hx3 : InR x3) (h : ∀ X : Cx, CX Y X RX6 "makeList" cX6_makeList 12 (some .int) (e + 1) 0 0 →
    (0 ≤ (min x3 576)) ∧
    L_X6_makeList_44 Y X P (min x2 288) ((min x3 576) / 2) ((max x1 0) * 576) 0 0 0 iv av) : OkN Y (e + 1) mX6_makeList [.ref (gl_b Y + 26), .int (i32 x1), .int (i32 x2), .int (i32 x3)] RV iv av 116 P := by
  refine OkW.of rfl (by show _ ≤ 12; exact Nat.le_of_ble_eq_true rfl) fun X C0 hR => ?_
  have C : CX Y X RX6 "makeList" cX6_makeList 12 (some .int) (e + 1) 0 0 := C0
  replace h := h X C
  show Wa Y X 12 (g_MQ Y X 1 (g_N RV 116 P) 0 0) 0 0 0 [(0, .ref (gl_b Y + 26)), (1, .int (i32 x1)), (2, .int (i32 x2)), (3, .int (i32 x3))] [] RV iv av 116
  refine r_iload_n (pc' := 1) C 2 rfl rfl dX6_makeList_0 rfl ?_
  refine r_aload_n (pc' := 2) C 0 rfl rfl dX6_makeList_1 rfl ?_
  refine r_getr (pc' := 5) (k := 26) (r := 28) C fl_X6_15 (by decide) kc_26 (by decide) fr_6_1 RV_26_1 dX6_makeList_2 rfl ?_
  refine r_alen (pc' := 6) (k := 28) (v := 288) C (by decide) kc_28 (by decide) (by rw [kl_28]; rfl) dX6_makeList_5 rfl ?_
  refine r_min (pc' := 9) C ml_X6_61 wd_min_s wd_math wd_min_c (by omega) (Nat.le_of_ble_eq_true rfl) (Nat.le_refl _) (Nat.le_refl _) hx2 (by decide) dX6_makeList_6 rfl ?_
  refine r_istore (pc' := 11) (ls' := [(0, .ref (gl_b Y + 26)), (1, .int (i32 x1)), (2, .int (i32 x2)), (3, .int (i32 x3)), (4, .int (i32 (min x2 288)))]) C (by decide) rfl dX6_makeList_9 rfl ?_
  refine r_iload_n (pc' := 12) C 3 rfl rfl dX6_makeList_11 rfl ?_
  refine r_aload_n (pc' := 13) C 0 rfl rfl dX6_makeList_12 rfl ?_
  refine r_getr (pc' := 16) (k := 26) (r := 30) C fl_X6_21 (by decide) kc_26 (by decide) fr_6_3 RV_26_3 dX6_makeList_13 rfl ?_
  refine r_alen (pc' := 17) (k := 30) (v := 576) C (by decide) kc_30 (by decide) (by rw [kl_30]; rfl) dX6_makeList_16 rfl ?_
  refine r_min (pc' := 20) C ml_X6_61 wd_min_s wd_math wd_min_c (by omega) (Nat.le_of_ble_eq_true rfl) (Nat.le_refl _) (Nat.le_refl _) hx3 (by decide) dX6_makeList_17 rfl ?_
  refine r_iconst (pc' := 21) C dX6_makeList_20 rfl ?_
  have o1 := h.1
  replace h := h.2
  refine r_idiv (pc' := 22) C ⟨o1, (by omega)⟩ ⟨(by decide), (by decide)⟩ dX6_makeList_21 rfl ?_
  refine r_istore (pc' := 24) (ls' := [(0, .ref (gl_b Y + 26)), (1, .int (i32 x1)), (2, .int (i32 x2)), (3, .int (i32 x3)), (4, .int (i32 (min x2 288))), (5, .int (i32 ((min x3 576) / 2)))]) C (by decide) rfl dX6_makeList_22 rfl ?_
  refine r_iload_n (pc' := 25) C 1 rfl rfl dX6_makeList_24 rfl ?_
  refine r_iconst (pc' := 26) C dX6_makeList_25 rfl ?_
  refine r_max (pc' := 29) C ml_X6_66 wd_max_s wd_math wd_max_c (by omega) (Nat.le_of_ble_eq_true rfl) (Nat.le_refl _) (Nat.le_refl _) hx1 (by decide) dX6_makeList_26 rfl ?_
  refine r_sipush (pc' := 32) C dX6_makeList_29 (by decide) rfl ?_
  refine r_imul (pc' := 33) C dX6_makeList_32 rfl ?_
  refine r_istore (pc' := 35) (ls' := [(0, .ref (gl_b Y + 26)), (1, .int (i32 x1)), (2, .int (i32 x2)), (3, .int (i32 x3)), (4, .int (i32 (min x2 288))), (5, .int (i32 ((min x3 576) / 2))), (6, .int (i32 ((max x1 0) * 576)))]) C (by decide) rfl dX6_makeList_33 rfl ?_
  refine r_iconst (pc' := 36) C dX6_makeList_35 rfl ?_
  refine r_istore (pc' := 38) (ls' := [(0, .ref (gl_b Y + 26)), (1, .int (i32 x1)), (2, .int (i32 x2)), (3, .int (i32 x3)), (4, .int (i32 (min x2 288))), (5, .int (i32 ((min x3 576) / 2))), (6, .int (i32 ((max x1 0) * 576))), (7, .int (i32 0))]) C (by decide) rfl dX6_makeList_36 rfl ?_
  refine r_iconst (pc' := 39) C dX6_makeList_38 rfl ?_
  refine r_istore (pc' := 41) (ls' := [(0, .ref (gl_b Y + 26)), (1, .int (i32 x1)), (2, .int (i32 x2)), (3, .int (i32 x3)), (4, .int (i32 (min x2 288))), (5, .int (i32 ((min x3 576) / 2))), (6, .int (i32 ((max x1 0) * 576))), (7, .int (i32 0)), (8, .int (i32 0))]) C (by decide) rfl dX6_makeList_39 rfl ?_
  refine r_iconst (pc' := 42) C dX6_makeList_41 rfl ?_
  refine r_istore (pc' := 44) (ls' := [(0, .ref (gl_b Y + 26)), (1, .int (i32 x1)), (2, .int (i32 x2)), (3, .int (i32 x3)), (4, .int (i32 (min x2 288))), (5, .int (i32 ((min x3 576) / 2))), (6, .int (i32 ((max x1 0) * 576))), (7, .int (i32 0)), (8, .int (i32 0)), (9, .int (i32 0))]) C (by decide) rfl dX6_makeList_42 rfl ?_
  exact Wa.sub [0, 4, 5, 6, 7, 8, 9] rfl h
def L_X6_takeItems_19 (Y : Gl) (X : Cx) (P : PN) (x2 : Int) (x3 : Int) (x4 : Int) (x5 : Int) (x6 : Int) (iv av : IVt) : Prop := Wa Y X 7 (g_MQ Y X 1 (g_N RV 116 P) 0 0) 0 0 19 [(0, .ref (gl_b Y + 26)), (2, .int (i32 x2)), (3, .int (i32 x3)), (4, .int (i32 x4)), (5, .int (i32 x5)), (6, .int (i32 x6))] [] RV iv av 116
def L_X6_takeItems_77 (Y : Gl) (X : Cx) (P : PN) (x3 : Int) (x4 : Int) (x6 : Int) (iv av : IVt) : Prop := Wa Y X 7 (g_MQ Y X 1 (g_N RV 116 P) 0 0) 0 0 77 [(0, .ref (gl_b Y + 26)), (3, .int (i32 x3)), (4, .int (i32 x4)), (6, .int (i32 x6))] [] RV iv av 116
set_option maxHeartbeats 4000000 in
set_option maxRecDepth 100000 in
theorem w_X6_takeItems_77 {Y : Gl} {X : Cx} {e : Nat} {P : PN} {x3 : Int} {x4 : Int} {x6 : Int} {iv av : IVt} (C : CX Y X RX6 "takeItems" cX6_takeItems 7 (some .int) (e + 1) 0 0) (hx3 : InR x3) (hx6 : InR x6) (h :
    ((x3 ≤ x6) →
      (InR (2 * x4)) ∧
      P (2 * x4) iv av
    ) ∧
    ((¬ x3 ≤ x6) →
      ((288 ≤ x6) →
        (InR (2 * x4)) ∧
        P (2 * x4) iv av
      ) ∧
      ((¬ 288 ≤ x6) →
        (0 ≤ x6 ∧ x6 < 288) ∧
        ((InR (av 29 x6.toNat)) →
          (InR ((av 29 x6.toNat) + 1)) ∧
          L_X6_takeItems_77 Y X P x3 x4 (x6 + 1) iv (up2 av 29 x6.toNat ((av 29 x6.toNat) + 1))
        )
      )
    )) : L_X6_takeItems_77 Y X P x3 x4 x6 iv av := by
  unfold L_X6_takeItems_77
  refine r_iload (pc' := 79) C 3 rfl dX6_takeItems_77 rfl ?_
  refine r_iload_n (pc' := 80) C 1 rfl rfl dX6_takeItems_79 rfl ?_
  refine r_icmp_ge (pc' := 83) (tgt := 110) C hx6 hx3 dX6_takeItems_80 (by decide) rfl (fun c1 => ?_) (fun c1 => ?_)
  · replace h := h.1 c1
    refine r_iconst (pc' := 111) C dX6_takeItems_110 rfl ?_
    refine r_iload (pc' := 113) C 2 rfl dX6_takeItems_111 rfl ?_
    refine r_imul (pc' := 114) C dX6_takeItems_113 rfl ?_
    have o2 := h.1
    replace h := h.2
    exact r_iret C o2 ⟨rfl, rfl, h⟩ dX6_takeItems_114
  · replace h := h.2 c1
    refine r_iload (pc' := 85) C 3 rfl dX6_takeItems_83 rfl ?_
    refine r_aload_n (pc' := 86) C 0 rfl rfl dX6_takeItems_85 rfl ?_
    refine r_getr (pc' := 89) (k := 26) (r := 29) C fl_X6_18 (by decide) kc_26 (by decide) fr_6_2 RV_26_2 dX6_takeItems_86 rfl ?_
    refine r_alen (pc' := 90) (k := 29) (v := 288) C (by decide) kc_29 (by decide) (by rw [kl_29]; rfl) dX6_takeItems_89 rfl ?_
    refine r_icmp_ge (pc' := 93) (tgt := 110) C hx6 (by decide) dX6_takeItems_90 (by decide) rfl (fun c3 => ?_) (fun c3 => ?_)
    · replace h := h.1 c3
      refine r_iconst (pc' := 111) C dX6_takeItems_110 rfl ?_
      refine r_iload (pc' := 113) C 2 rfl dX6_takeItems_111 rfl ?_
      refine r_imul (pc' := 114) C dX6_takeItems_113 rfl ?_
      have o4 := h.1
      replace h := h.2
      exact r_iret C o4 ⟨rfl, rfl, h⟩ dX6_takeItems_114
    · replace h := h.2 c3
      refine r_aload_n (pc' := 94) C 0 rfl rfl dX6_takeItems_93 rfl ?_
      refine r_getr (pc' := 97) (k := 26) (r := 29) C fl_X6_18 (by decide) kc_26 (by decide) fr_6_2 RV_26_2 dX6_takeItems_94 rfl ?_
      refine r_iload (pc' := 99) C 3 rfl dX6_takeItems_97 rfl ?_
      refine r_dup2 (pc' := 100) C rfl rfl dX6_takeItems_99 rfl ?_
      have o5 := h.1
      replace h := h.2
      refine r_iald (pc' := 101) (k := 29) C (by decide) kc_29 (by have := kl_29; omega) dX6_takeItems_100 rfl (fun f6 => ?_)
      replace h := h f6
      refine r_iconst (pc' := 102) C dX6_takeItems_101 rfl ?_
      refine r_iadd (pc' := 103) C dX6_takeItems_102 rfl ?_
      have o7 := h.1
      replace h := h.2
      refine r_iast (pc' := 104) (k := 29) C (by decide) kc_29 (by have := kl_29; omega) o7 dX6_takeItems_103 rfl ?_
      refine r_iinc (pc' := 107) (ls' := [(0, .ref (gl_b Y + 26)), (3, .int (i32 x3)), (4, .int (i32 x4)), (6, .int (i32 (x6 + 1)))]) C 3 rfl (by decide) rfl dX6_takeItems_104 rfl ?_
      refine r_goto (tgt := 77) C dX6_takeItems_107 (by decide) ?_
      exact Wa.sub [0, 1, 2, 3] rfl h
set_option maxHeartbeats 4000000 in
set_option maxRecDepth 100000 in
theorem w_X6_takeItems_19 {Y : Gl} {X : Cx} {e : Nat} {P : PN} {x2 : Int} {x3 : Int} {x4 : Int} {x5 : Int} {x6 : Int} {iv av : IVt} (C : CX Y X RX6 "takeItems" cX6_takeItems 7 (some .int) (e + 1) 0 0) (hx2 : InR x2) (hx6 : InR x6) (h :
    ((x2 ≤ x6) →
      L_X6_takeItems_77 Y X P x3 x4 0 iv av
    ) ∧
    ((¬ x2 ≤ x6) →
      ((576 ≤ x6) →
        L_X6_takeItems_77 Y X P x3 x4 0 iv av
      ) ∧
      ((¬ 576 ≤ x6) →
        (InR (x5 + x6)) ∧
        ((8640 ≤ (x5 + x6)) →
          L_X6_takeItems_77 Y X P x3 x4 0 iv av
        ) ∧
        ((¬ 8640 ≤ (x5 + x6)) →
          (0 ≤ (x5 + x6) ∧ (x5 + x6) < 8640) ∧
          ((0 ≤ (av 32 (x5 + x6).toNat) ∧ (av 32 (x5 + x6).toNat) ≤ 1) →
            (((av 32 (x5 + x6).toNat) = 0) →
              L_X6_takeItems_19 Y X P x2 (x3 + 1) x4 x5 (x6 + 1) iv av
            ) ∧
            ((¬ (av 32 (x5 + x6).toNat) = 0) →
              L_X6_takeItems_19 Y X P x2 x3 (x4 + 1) x5 (x6 + 1) iv av
            )
          )
        )
      )
    )) : L_X6_takeItems_19 Y X P x2 x3 x4 x5 x6 iv av := by
  unfold L_X6_takeItems_19
  refine r_iload (pc' := 21) C 5 rfl dX6_takeItems_19 rfl ?_
  refine r_iload_n (pc' := 22) C 1 rfl rfl dX6_takeItems_21 rfl ?_
  refine r_icmp_ge (pc' := 25) (tgt := 74) C hx6 hx2 dX6_takeItems_22 (by decide) rfl (fun c1 => ?_) (fun c1 => ?_)
  · replace h := h.1 c1
    refine r_iconst (pc' := 75) C dX6_takeItems_74 rfl ?_
    refine r_istore (pc' := 77) (ls' := [(0, .ref (gl_b Y + 26)), (2, .int (i32 x2)), (3, .int (i32 x3)), (4, .int (i32 x4)), (5, .int (i32 x5)), (6, .int (i32 0))]) C (by decide) rfl dX6_takeItems_75 rfl ?_
    exact Wa.sub [0, 2, 3, 5] rfl h
  · replace h := h.2 c1
    refine r_iload (pc' := 27) C 5 rfl dX6_takeItems_25 rfl ?_
    refine r_sipush (pc' := 30) C dX6_takeItems_27 (by decide) rfl ?_
    refine r_icmp_ge (pc' := 33) (tgt := 74) C hx6 (by decide) dX6_takeItems_30 (by decide) rfl (fun c2 => ?_) (fun c2 => ?_)
    · replace h := h.1 c2
      refine r_iconst (pc' := 75) C dX6_takeItems_74 rfl ?_
      refine r_istore (pc' := 77) (ls' := [(0, .ref (gl_b Y + 26)), (2, .int (i32 x2)), (3, .int (i32 x3)), (4, .int (i32 x4)), (5, .int (i32 x5)), (6, .int (i32 0))]) C (by decide) rfl dX6_takeItems_75 rfl ?_
      exact Wa.sub [0, 2, 3, 5] rfl h
    · replace h := h.2 c2
      refine r_iload (pc' := 35) C 4 rfl dX6_takeItems_33 rfl ?_
      refine r_iload (pc' := 37) C 5 rfl dX6_takeItems_35 rfl ?_
      refine r_iadd (pc' := 38) C dX6_takeItems_37 rfl ?_
      refine r_aload_n (pc' := 39) C 0 rfl rfl dX6_takeItems_38 rfl ?_
      refine r_getr (pc' := 42) (k := 26) (r := 32) C fl_X6_27 (by decide) kc_26 (by decide) fr_6_5 RV_26_5 dX6_takeItems_39 rfl ?_
      refine r_alen (pc' := 43) (k := 32) (v := 8640) C (by decide) kc_32 (by decide) (by rw [kl_32]; rfl) dX6_takeItems_42 rfl ?_
      have o3 := h.1
      replace h := h.2
      refine r_icmp_ge (pc' := 46) (tgt := 74) C o3 (by decide) dX6_takeItems_43 (by decide) rfl (fun c4 => ?_) (fun c4 => ?_)
      · replace h := h.1 c4
        refine r_iconst (pc' := 75) C dX6_takeItems_74 rfl ?_
        refine r_istore (pc' := 77) (ls' := [(0, .ref (gl_b Y + 26)), (2, .int (i32 x2)), (3, .int (i32 x3)), (4, .int (i32 x4)), (5, .int (i32 x5)), (6, .int (i32 0))]) C (by decide) rfl dX6_takeItems_75 rfl ?_
        exact Wa.sub [0, 2, 3, 5] rfl h
      · replace h := h.2 c4
        refine r_aload_n (pc' := 47) C 0 rfl rfl dX6_takeItems_46 rfl ?_
        refine r_getr (pc' := 50) (k := 26) (r := 32) C fl_X6_27 (by decide) kc_26 (by decide) fr_6_5 RV_26_5 dX6_takeItems_47 rfl ?_
        refine r_iload (pc' := 52) C 4 rfl dX6_takeItems_50 rfl ?_
        refine r_iload (pc' := 54) C 5 rfl dX6_takeItems_52 rfl ?_
        refine r_iadd (pc' := 55) C dX6_takeItems_54 rfl ?_
        have o5 := h.1
        replace h := h.2
        refine r_zald (pc' := 56) (k := 32) C (by decide) kc_32 (by have := kl_32; omega) dX6_takeItems_55 rfl (fun f6 => ?_)
        replace h := h f6
        refine r_if_eq (pc' := 59) (tgt := 65) C (by omega) dX6_takeItems_56 (by decide) rfl (fun c7 => ?_) (fun c7 => ?_)
        · replace h := h.1 c7
          refine r_iinc (pc' := 68) (ls' := [(0, .ref (gl_b Y + 26)), (2, .int (i32 x2)), (3, .int (i32 (x3 + 1))), (4, .int (i32 x4)), (5, .int (i32 x5)), (6, .int (i32 x6))]) C 2 rfl (by decide) rfl dX6_takeItems_65 rfl ?_
          refine r_iinc (pc' := 71) (ls' := [(0, .ref (gl_b Y + 26)), (2, .int (i32 x2)), (3, .int (i32 (x3 + 1))), (4, .int (i32 x4)), (5, .int (i32 x5)), (6, .int (i32 (x6 + 1)))]) C 5 rfl (by decide) rfl dX6_takeItems_68 rfl ?_
          refine r_goto (tgt := 19) C dX6_takeItems_71 (by decide) ?_
          exact Wa.sub [0, 1, 2, 3, 4, 5] rfl h
        · replace h := h.2 c7
          refine r_iinc (pc' := 62) (ls' := [(0, .ref (gl_b Y + 26)), (2, .int (i32 x2)), (3, .int (i32 x3)), (4, .int (i32 (x4 + 1))), (5, .int (i32 x5)), (6, .int (i32 x6))]) C 3 rfl (by decide) rfl dX6_takeItems_59 rfl ?_
          refine r_goto (tgt := 68) C dX6_takeItems_62 (by decide) ?_
          refine r_iinc (pc' := 71) (ls' := [(0, .ref (gl_b Y + 26)), (2, .int (i32 x2)), (3, .int (i32 x3)), (4, .int (i32 (x4 + 1))), (5, .int (i32 x5)), (6, .int (i32 (x6 + 1)))]) C 5 rfl (by decide) rfl dX6_takeItems_68 rfl ?_
          refine r_goto (tgt := 19) C dX6_takeItems_71 (by decide) ?_
          exact Wa.sub [0, 1, 2, 3, 4, 5] rfl h
set_option maxHeartbeats 4000000 in
set_option maxRecDepth 100000 in
theorem o_X6_takeItems {Y : Gl} {e : Nat} {P : PN} {x1 : Int} {x2 : Int} {iv av : IVt} (hx1 : InR x1) (h : ∀ X : Cx, CX Y X RX6 "takeItems" cX6_takeItems 7 (some .int) (e + 1) 0 0 →
    L_X6_takeItems_19 Y X P x2 0 0 ((max x1 0) * 576) 0 iv av) : OkN Y (e + 1) mX6_takeItems [.ref (gl_b Y + 26), .int (i32 x1), .int (i32 x2)] RV iv av 116 P := by
  refine OkW.of rfl (by show _ ≤ 7; exact Nat.le_of_ble_eq_true rfl) fun X C0 hR => ?_
  have C : CX Y X RX6 "takeItems" cX6_takeItems 7 (some .int) (e + 1) 0 0 := C0
  replace h := h X C
  show Wa Y X 7 (g_MQ Y X 1 (g_N RV 116 P) 0 0) 0 0 0 [(0, .ref (gl_b Y + 26)), (1, .int (i32 x1)), (2, .int (i32 x2))] [] RV iv av 116
  refine r_iconst (pc' := 1) C dX6_takeItems_0 rfl ?_
  refine r_istore_n (pc' := 2) (ls' := [(0, .ref (gl_b Y + 26)), (1, .int (i32 x1)), (2, .int (i32 x2)), (3, .int (i32 0))]) C (by decide) rfl rfl dX6_takeItems_1 rfl ?_
  refine r_iconst (pc' := 3) C dX6_takeItems_2 rfl ?_
  refine r_istore (pc' := 5) (ls' := [(0, .ref (gl_b Y + 26)), (1, .int (i32 x1)), (2, .int (i32 x2)), (3, .int (i32 0)), (4, .int (i32 0))]) C (by decide) rfl dX6_takeItems_3 rfl ?_
  refine r_iload_n (pc' := 6) C 1 rfl rfl dX6_takeItems_5 rfl ?_
  refine r_iconst (pc' := 7) C dX6_takeItems_6 rfl ?_
  refine r_max (pc' := 10) C ml_X6_66 wd_max_s wd_math wd_max_c (by omega) (Nat.le_of_ble_eq_true rfl) (Nat.le_refl _) (Nat.le_refl _) hx1 (by decide) dX6_takeItems_7 rfl ?_
  refine r_sipush (pc' := 13) C dX6_takeItems_10 (by decide) rfl ?_
  refine r_imul (pc' := 14) C dX6_takeItems_13 rfl ?_
  refine r_istore (pc' := 16) (ls' := [(0, .ref (gl_b Y + 26)), (1, .int (i32 x1)), (2, .int (i32 x2)), (3, .int (i32 0)), (4, .int (i32 0)), (5, .int (i32 ((max x1 0) * 576)))]) C (by decide) rfl dX6_takeItems_14 rfl ?_
  refine r_iconst (pc' := 17) C dX6_takeItems_16 rfl ?_
  refine r_istore (pc' := 19) (ls' := [(0, .ref (gl_b Y + 26)), (1, .int (i32 x1)), (2, .int (i32 x2)), (3, .int (i32 0)), (4, .int (i32 0)), (5, .int (i32 ((max x1 0) * 576))), (6, .int (i32 0))]) C (by decide) rfl dX6_takeItems_17 rfl ?_
  exact Wa.sub [0, 2, 3, 4, 5, 6] rfl h
set_option maxHeartbeats 4000000 in
set_option maxRecDepth 100000 in
theorem o_X7_begin {Y : Gl} {e : Nat} {P : PN} {x1 : Int} {x2 : Int} {iv av : IVt} (hx1 : InR x1) (h : 
    ((InR (iv 23 2)) →
      ((InR (iv 23 4)) →
        ((InR (iv 23 3)) →
          (InR ((iv 23 2) + ((iv 23 4) - (iv 23 3)))) ∧
          (InR (x1 + x2)) ∧
          P 0 (up2 (up2 (up2 iv 23 2 ((iv 23 2) + ((iv 23 4) - (iv 23 3)))) 23 3 x1) 23 4 (x1 + x2)) av
        )
      )
    )) : OkN Y e mX7_begin [.ref (gl_b Y + 23), .int (i32 x1), .int (i32 x2)] RV iv av 116 P := by
  refine OkW.of rfl (by show _ ≤ 3; exact Nat.le_of_ble_eq_true rfl) fun X C0 hR => ?_
  have C : CX Y X RX7 "begin" cX7_begin 3 none e 0 0 := C0
  show Wa Y X 3 (g_MQ Y X 0 (g_N RV 116 P) 0 0) 0 0 0 [(0, .ref (gl_b Y + 23)), (1, .int (i32 x1)), (2, .int (i32 x2))] [] RV iv av 116
  refine r_aload_n (pc' := 1) C 0 rfl rfl dX7_begin_0 rfl ?_
  refine r_dup (pc' := 2) C rfl dX7_begin_1 rfl ?_
  refine r_geti (pc' := 5) (k := 23) C fl_X7_20 (by decide) kc_23 (by decide) fr_7_2 dX7_begin_2 rfl (fun f1 => ?_)
  replace h := h f1
  refine r_aload_n (pc' := 6) C 0 rfl rfl dX7_begin_5 rfl ?_
  refine r_geti (pc' := 9) (k := 23) C fl_X7_24 (by decide) kc_23 (by decide) fr_7_4 dX7_begin_6 rfl (fun f2 => ?_)
  replace h := h f2
  refine r_aload_n (pc' := 10) C 0 rfl rfl dX7_begin_9 rfl ?_
  refine r_geti (pc' := 13) (k := 23) C fl_X7_27 (by decide) kc_23 (by decide) fr_7_3 dX7_begin_10 rfl (fun f3 => ?_)
  replace h := h f3
  refine r_isub (pc' := 14) C dX7_begin_13 rfl ?_
  refine r_iadd (pc' := 15) C dX7_begin_14 rfl ?_
  have o4 := h.1
  replace h := h.2
  refine r_puti (pc' := 18) (k := 23) C fl_X7_20 (by decide) kc_23 (by decide) fr_7_2 o4 dX7_begin_15 rfl ?_
  refine r_aload_n (pc' := 19) C 0 rfl rfl dX7_begin_18 rfl ?_
  refine r_iload_n (pc' := 20) C 1 rfl rfl dX7_begin_19 rfl ?_
  refine r_puti (pc' := 23) (k := 23) C fl_X7_27 (by decide) kc_23 (by decide) fr_7_3 hx1 dX7_begin_20 rfl ?_
  refine r_aload_n (pc' := 24) C 0 rfl rfl dX7_begin_23 rfl ?_
  refine r_iload_n (pc' := 25) C 1 rfl rfl dX7_begin_24 rfl ?_
  refine r_iload_n (pc' := 26) C 2 rfl rfl dX7_begin_25 rfl ?_
  refine r_iadd (pc' := 27) C dX7_begin_26 rfl ?_
  have o5 := h.1
  replace h := h.2
  refine r_puti (pc' := 30) (k := 23) C fl_X7_24 (by decide) kc_23 (by decide) fr_7_4 o5 dX7_begin_27 rfl ?_
  exact r_vret C ⟨rfl, rfl, h⟩ dX7_begin_30
set_option maxHeartbeats 4000000 in
set_option maxRecDepth 100000 in
theorem o_X7_headOf {Y : Gl} {e : Nat} {P : PN} {x0 : Int} {iv av : IVt} (h : 
    P ((x0 * (-1640531535)) % 4294967296 / 131072) iv av) : OkN Y e mX7_headOf [.int (i32 x0)] RV iv av 116 P := by
  refine OkW.of rfl (by show _ ≤ 1; exact Nat.le_of_ble_eq_true rfl) fun X C0 hR => ?_
  have C : CX Y X RX7 "headOf" cX7_headOf 1 (some .int) e 0 0 := C0
  show Wa Y X 1 (g_MQ Y X 1 (g_N RV 116 P) 0 0) 0 0 0 [(0, .int (i32 x0))] [] RV iv av 116
  refine r_iload_n (pc' := 1) C 0 rfl rfl dX7_headOf_0 rfl ?_
  refine r_ldc (pc' := 3) (x := (-1640531535)) C ct_X7_30 (by decide) dX7_headOf_1 rfl ?_
  refine r_imul (pc' := 4) C dX7_headOf_3 rfl ?_
  refine r_bipush (pc' := 6) C dX7_headOf_4 (by decide) rfl ?_
  refine r_iushrC (pc' := 7) (m := 131072) C (by decide) (by decide) dX7_headOf_6 rfl ?_
  exact r_iret C (by omega) ⟨rfl, rfl, h⟩ dX7_headOf_7
set_option maxHeartbeats 4000000 in
set_option maxRecDepth 100000 in
theorem o_X7_know {Y : Gl} {e : Nat} {P : PN} {k1 : Nat} {x2 : Int} {iv av : IVt} (Kk1 : BytesK k1) (hx2 : InR x2) (h : 
    OkN Y (e + 1) mX2_threeFrom [.ref (gl_b Y + k1), .int (i32 x2)] RV iv av 116 (fun r1 iv2 av3 =>
      (InR r1) →
      OkN Y (e + 1) mX7_headOf [.int (i32 r1)] RV iv2 av3 116 (fun r5 iv6 av7 =>
        (InR r5) →
        ((InR (iv6 23 3)) →
          ((InR (iv6 23 4)) →
            (InR (x2 + 3)) ∧
            (((iv6 23 4) < (x2 + 3)) →
              P 0 iv6 av7
            ) ∧
            ((¬ (iv6 23 4) < (x2 + 3)) →
              (InR (x2 - (iv6 23 3))) ∧
              (((x2 - (iv6 23 3)) < 0) →
                P 0 iv6 av7
              ) ∧
              ((¬ (x2 - (iv6 23 3)) < 0) →
                ((65536 ≤ (x2 - (iv6 23 3))) →
                  P 0 iv6 av7
                ) ∧
                ((¬ 65536 ≤ (x2 - (iv6 23 3))) →
                  ((r5 < 0) →
                    P 0 iv6 av7
                  ) ∧
                  ((¬ r5 < 0) →
                    ((r5 < 32768) →
                      (0 ≤ r5 ∧ r5 < 32768) ∧
                      ((InR (av7 24 r5.toNat)) →
                        ((InR (iv6 23 2)) →
                          (0 ≤ (x2 - (iv6 23 3)) ∧ (x2 - (iv6 23 3)) < 65536) ∧
                          (InR ((av7 24 r5.toNat) - (iv6 23 2))) ∧
                          (InR ((iv6 23 2) + (x2 - (iv6 23 3)))) ∧
                          P 0 iv6 (up2 (up2 av7 25 ((x2 - (iv6 23 3)).toNat) ((av7 24 r5.toNat) - (iv6 23 2))) 24 r5.toNat ((iv6 23 2) + (x2 - (iv6 23 3))))
                        )
                      )
                    ) ∧
                    ((¬ r5 < 32768) →
                      P 0 iv6 av7
                    )
                  )
                )
              )
            )
          )
        )
      )
    )) : OkN Y (e + 2) mX7_know [.ref (gl_b Y + 23), .ref (gl_b Y + k1), .int (i32 x2)] RV iv av 116 P := by
  obtain ⟨hk1c, hk1a, hk1l, hk1r0⟩ := Kk1
  refine OkW.of rfl (by show _ ≤ 5; exact Nat.le_of_ble_eq_true rfl) fun X C0 hR => ?_
  have C : CX Y X RX7 "know" cX7_know 5 none (e + 2) 0 0 := C0
  show Wa Y X 5 (g_MQ Y X 0 (g_N RV 116 P) 0 0) 0 0 0 [(0, .ref (gl_b Y + 23)), (1, .ref (gl_b Y + k1)), (2, .int (i32 x2))] [] RV iv av 116
  refine r_aload_n (pc' := 1) C 1 rfl rfl dX7_know_0 rfl ?_
  refine r_iload_n (pc' := 2) C 2 rfl rfl dX7_know_1 rfl ?_
  refine c_Vi (pc' := 5) (mt := mX2_threeFrom) (as := [.int (i32 x2)]) (st := []) (k := k1) C h rfl cl_X2_threeFrom ml_X7_31 im_X2_threeFrom sl_X2_threeFrom (by omega) (Nat.le_refl _) (Nat.le_refl _) rfl (by omega) hk1c (by decide) rfl rfl rfl (Nat.le_of_ble_eq_true rfl) dX7_know_2 rfl (fun r1 iv2 av3 f4 h => ?_)
  replace h := h f4
  refine c_Si (pc' := 8) (mt := mX7_headOf) (as := [.int (i32 r1)]) (st := []) C h rfl cl_X7_headOf ml_X7_37 sm_X7_headOf (by omega) (Nat.le_refl _) (Nat.le_refl _) rfl rfl (Nat.le_of_ble_eq_true rfl) dX7_know_5 rfl (fun r5 iv6 av7 f8 h => ?_)
  replace h := h f8
  refine r_istore_n (pc' := 9) (ls' := [(0, .ref (gl_b Y + 23)), (1, .ref (gl_b Y + k1)), (2, .int (i32 x2)), (3, .int (i32 r5))]) C (by decide) rfl rfl dX7_know_8 rfl ?_
  refine r_iload_n (pc' := 10) C 2 rfl rfl dX7_know_9 rfl ?_
  refine r_aload_n (pc' := 11) C 0 rfl rfl dX7_know_10 rfl ?_
  refine r_geti (pc' := 14) (k := 23) C fl_X7_27 (by decide) kc_23 (by decide) fr_7_3 dX7_know_11 rfl (fun f9 => ?_)
  replace h := h f9
  refine r_isub (pc' := 15) C dX7_know_14 rfl ?_
  refine r_istore (pc' := 17) (ls' := [(0, .ref (gl_b Y + 23)), (1, .ref (gl_b Y + k1)), (2, .int (i32 x2)), (3, .int (i32 r5)), (4, .int (i32 (x2 - (iv6 23 3))))]) C (by decide) rfl dX7_know_15 rfl ?_
  refine r_iload_n (pc' := 18) C 2 rfl rfl dX7_know_17 rfl ?_
  refine r_iconst (pc' := 19) C dX7_know_18 rfl ?_
  refine r_iadd (pc' := 20) C dX7_know_19 rfl ?_
  refine r_aload_n (pc' := 21) C 0 rfl rfl dX7_know_20 rfl ?_
  refine r_geti (pc' := 24) (k := 23) C fl_X7_24 (by decide) kc_23 (by decide) fr_7_4 dX7_know_21 rfl (fun f10 => ?_)
  replace h := h f10
  have o11 := h.1
  replace h := h.2
  refine r_icmp_gt (pc' := 27) (tgt := 55) C o11 f10 dX7_know_24 (by decide) rfl (fun c12 => ?_) (fun c12 => ?_)
  · replace h := h.1 c12
    exact r_vret C ⟨rfl, rfl, h⟩ dX7_know_55
  · replace h := h.2 c12
    refine r_iload (pc' := 29) C 4 rfl dX7_know_27 rfl ?_
    have o13 := h.1
    replace h := h.2
    refine r_if_lt (pc' := 32) (tgt := 55) C o13 dX7_know_29 (by decide) rfl (fun c14 => ?_) (fun c14 => ?_)
    · replace h := h.1 c14
      exact r_vret C ⟨rfl, rfl, h⟩ dX7_know_55
    · replace h := h.2 c14
      refine r_iload (pc' := 34) C 4 rfl dX7_know_32 rfl ?_
      refine r_aload_n (pc' := 35) C 0 rfl rfl dX7_know_34 rfl ?_
      refine r_getr (pc' := 38) (k := 23) (r := 25) C fl_X7_17 (by decide) kc_23 (by decide) fr_7_1 RV_23_1 dX7_know_35 rfl ?_
      refine r_alen (pc' := 39) (k := 25) (v := 65536) C (by decide) kc_25 (by decide) (by rw [kl_25]; rfl) dX7_know_38 rfl ?_
      refine r_icmp_ge (pc' := 42) (tgt := 55) C o13 (by decide) dX7_know_39 (by decide) rfl (fun c15 => ?_) (fun c15 => ?_)
      · replace h := h.1 c15
        exact r_vret C ⟨rfl, rfl, h⟩ dX7_know_55
      · replace h := h.2 c15
        refine r_iload_n (pc' := 43) C 3 rfl rfl dX7_know_42 rfl ?_
        refine r_if_lt (pc' := 46) (tgt := 55) C f8 dX7_know_43 (by decide) rfl (fun c16 => ?_) (fun c16 => ?_)
        · replace h := h.1 c16
          exact r_vret C ⟨rfl, rfl, h⟩ dX7_know_55
        · replace h := h.2 c16
          refine r_iload_n (pc' := 47) C 3 rfl rfl dX7_know_46 rfl ?_
          refine r_aload_n (pc' := 48) C 0 rfl rfl dX7_know_47 rfl ?_
          refine r_getr (pc' := 51) (k := 23) (r := 24) C fl_X7_12 (by decide) kc_23 (by decide) fr_7_0 RV_23_0 dX7_know_48 rfl ?_
          refine r_alen (pc' := 52) (k := 24) (v := 32768) C (by decide) kc_24 (by decide) (by rw [kl_24]; rfl) dX7_know_51 rfl ?_
          refine r_icmp_lt (pc' := 55) (tgt := 56) C f8 (by decide) dX7_know_52 (by decide) rfl (fun c17 => ?_) (fun c17 => ?_)
          · replace h := h.1 c17
            refine r_aload_n (pc' := 57) C 0 rfl rfl dX7_know_56 rfl ?_
            refine r_getr (pc' := 60) (k := 23) (r := 25) C fl_X7_17 (by decide) kc_23 (by decide) fr_7_1 RV_23_1 dX7_know_57 rfl ?_
            refine r_iload (pc' := 62) C 4 rfl dX7_know_60 rfl ?_
            refine r_aload_n (pc' := 63) C 0 rfl rfl dX7_know_62 rfl ?_
            refine r_getr (pc' := 66) (k := 23) (r := 24) C fl_X7_12 (by decide) kc_23 (by decide) fr_7_0 RV_23_0 dX7_know_63 rfl ?_
            refine r_iload_n (pc' := 67) C 3 rfl rfl dX7_know_66 rfl ?_
            have o18 := h.1
            replace h := h.2
            refine r_iald (pc' := 68) (k := 24) C (by decide) kc_24 (by have := kl_24; omega) dX7_know_67 rfl (fun f19 => ?_)
            replace h := h f19
            refine r_aload_n (pc' := 69) C 0 rfl rfl dX7_know_68 rfl ?_
            refine r_geti (pc' := 72) (k := 23) C fl_X7_20 (by decide) kc_23 (by decide) fr_7_2 dX7_know_69 rfl (fun f20 => ?_)
            replace h := h f20
            refine r_isub (pc' := 73) C dX7_know_72 rfl ?_
            have o21 := h.1
            replace h := h.2
            have o22 := h.1
            replace h := h.2
            refine r_iast (pc' := 74) (k := 25) C (by decide) kc_25 (by have := kl_25; omega) o22 dX7_know_73 rfl ?_
            refine r_aload_n (pc' := 75) C 0 rfl rfl dX7_know_74 rfl ?_
            refine r_getr (pc' := 78) (k := 23) (r := 24) C fl_X7_12 (by decide) kc_23 (by decide) fr_7_0 RV_23_0 dX7_know_75 rfl ?_
            refine r_iload_n (pc' := 79) C 3 rfl rfl dX7_know_78 rfl ?_
            refine r_aload_n (pc' := 80) C 0 rfl rfl dX7_know_79 rfl ?_
            refine r_geti (pc' := 83) (k := 23) C fl_X7_20 (by decide) kc_23 (by decide) fr_7_2 dX7_know_80 rfl (fun f23 => ?_)
            refine r_iload (pc' := 85) C 4 rfl dX7_know_83 rfl ?_
            refine r_iadd (pc' := 86) C dX7_know_85 rfl ?_
            have o24 := h.1
            replace h := h.2
            refine r_iast (pc' := 87) (k := 24) C (by decide) kc_24 (by have := kl_24; omega) o24 dX7_know_86 rfl ?_
            exact r_vret C ⟨rfl, rfl, h⟩ dX7_know_87
          · replace h := h.2 c17
            exact r_vret C ⟨rfl, rfl, h⟩ dX7_know_55
def L_X7_find_82 (Y : Gl) (X : Cx) (P : PN) (k1 : Nat) (x2 : Int) (x4 : Int) (x6 : Int) (x7 : Int) (x8 : Int) (x9 : Int) (iv av : IVt) : Prop := Wa Y X 11 (g_MQ Y X 1 (g_N RV 116 P) 0 0) 0 0 82 [(0, .ref (gl_b Y + 23)), (1, .ref (gl_b Y + k1)), (2, .int (i32 x2)), (4, .int (i32 x4)), (6, .int (i32 x6)), (7, .int (i32 x7)), (8, .int (i32 x8)), (9, .int (i32 x9))] [] RV iv av 116
def L_X7_find_172 (Y : Gl) (X : Cx) (P : PN) (k1 : Nat) (x2 : Int) (x4 : Int) (x6 : Int) (x7 : Int) (x8 : Int) (x9 : Int) (x10 : Int) (iv av : IVt) : Prop := Wa Y X 11 (g_MQ Y X 1 (g_N RV 116 P) 0 0) 0 0 172 [(0, .ref (gl_b Y + 23)), (1, .ref (gl_b Y + k1)), (2, .int (i32 x2)), (4, .int (i32 x4)), (6, .int (i32 x6)), (7, .int (i32 x7)), (8, .int (i32 x8)), (9, .int (i32 x9)), (10, .int (i32 x10))] [] RV iv av 116
def L_X7_find_202 (Y : Gl) (X : Cx) (P : PN) (k1 : Nat) (x2 : Int) (x4 : Int) (x6 : Int) (x7 : Int) (x8 : Int) (x9 : Int) (iv av : IVt) : Prop := Wa Y X 11 (g_MQ Y X 1 (g_N RV 116 P) 0 0) 0 0 202 [(0, .ref (gl_b Y + 23)), (1, .ref (gl_b Y + k1)), (2, .int (i32 x2)), (4, .int (i32 x4)), (6, .int (i32 x6)), (7, .int (i32 x7)), (8, .int (i32 x8)), (9, .int (i32 x9))] [] RV iv av 116
def L_X7_find_217 (Y : Gl) (X : Cx) (P : PN) (k1 : Nat) (iv av : IVt) : Prop := Wa Y X 11 (g_MQ Y X 1 (g_N RV 116 P) 0 0) 0 0 217 [(0, .ref (gl_b Y + 23))] [] RV iv av 116
set_option maxHeartbeats 4000000 in
set_option maxRecDepth 100000 in
theorem w_X7_find_217 {Y : Gl} {X : Cx} {e : Nat} {P : PN} {k1 : Nat} {iv av : IVt} (C : CX Y X RX7 "find" cX7_find 11 (some .boolean) (e + 2) 0 0) (Kk1 : BytesK k1) (h :
    ((InR (iv 23 5)) →
      (((iv 23 5) ≤ 0) →
        P 0 iv av
      ) ∧
      ((¬ (iv 23 5) ≤ 0) →
        P 1 iv av
      )
    )) : L_X7_find_217 Y X P k1 iv av := by
  obtain ⟨hk1c, hk1a, hk1l, hk1r0⟩ := Kk1
  unfold L_X7_find_217
  refine r_aload_n (pc' := 218) C 0 rfl rfl dX7_find_217 rfl ?_
  refine r_geti (pc' := 221) (k := 23) C fl_X7_40 (by decide) kc_23 (by decide) fr_7_5 dX7_find_218 rfl (fun f1 => ?_)
  replace h := h f1
  refine r_if_le (pc' := 224) (tgt := 228) C f1 dX7_find_221 (by decide) rfl (fun c2 => ?_) (fun c2 => ?_)
  · replace h := h.1 c2
    refine r_iconst (pc' := 229) C dX7_find_228 rfl ?_
    exact r_zret C (by decide) ⟨rfl, rfl, h⟩ dX7_find_229
  · replace h := h.2 c2
    refine r_iconst (pc' := 225) C dX7_find_224 rfl ?_
    refine r_goto (tgt := 229) C dX7_find_225 (by decide) ?_
    exact r_zret C (by decide) ⟨rfl, rfl, h⟩ dX7_find_229
set_option maxHeartbeats 4000000 in
set_option maxRecDepth 100000 in
theorem w_X7_find_202 {Y : Gl} {X : Cx} {e : Nat} {P : PN} {k1 : Nat} {x2 : Int} {x4 : Int} {x6 : Int} {x7 : Int} {x8 : Int} {x9 : Int} {iv av : IVt} (C : CX Y X RX7 "find" cX7_find 11 (some .boolean) (e + 2) 0 0) (Kk1 : BytesK k1) (h :
    (0 ≤ x7 ∧ x7 < 65536) ∧
    ((InR (av 25 x7.toNat)) →
      L_X7_find_82 Y X P k1 x2 x4 x6 (av 25 x7.toNat) x8 (x9 + 1) iv av
    )) : L_X7_find_202 Y X P k1 x2 x4 x6 x7 x8 x9 iv av := by
  obtain ⟨hk1c, hk1a, hk1l, hk1r0⟩ := Kk1
  unfold L_X7_find_202
  refine r_aload_n (pc' := 203) C 0 rfl rfl dX7_find_202 rfl ?_
  refine r_getr (pc' := 206) (k := 23) (r := 25) C fl_X7_17 (by decide) kc_23 (by decide) fr_7_1 RV_23_1 dX7_find_203 rfl ?_
  refine r_iload (pc' := 208) C 5 rfl dX7_find_206 rfl ?_
  have o1 := h.1
  replace h := h.2
  refine r_iald (pc' := 209) (k := 25) C (by decide) kc_25 (by have := kl_25; omega) dX7_find_208 rfl (fun f2 => ?_)
  replace h := h f2
  refine r_istore (pc' := 211) (ls' := [(0, .ref (gl_b Y + 23)), (1, .ref (gl_b Y + k1)), (2, .int (i32 x2)), (4, .int (i32 x4)), (6, .int (i32 x6)), (7, .int (i32 (av 25 x7.toNat))), (8, .int (i32 x8)), (9, .int (i32 x9))]) C (by decide) rfl dX7_find_209 rfl ?_
  refine r_iinc (pc' := 214) (ls' := [(0, .ref (gl_b Y + 23)), (1, .ref (gl_b Y + k1)), (2, .int (i32 x2)), (4, .int (i32 x4)), (6, .int (i32 x6)), (7, .int (i32 (av 25 x7.toNat))), (8, .int (i32 x8)), (9, .int (i32 (x9 + 1)))]) C 7 rfl (by decide) rfl dX7_find_211 rfl ?_
  refine r_goto (tgt := 82) C dX7_find_214 (by decide) ?_
  exact Wa.sub [0, 1, 2, 3, 4, 5, 6, 7] rfl h
set_option maxHeartbeats 4000000 in
set_option maxRecDepth 100000 in
theorem w_X7_find_172 {Y : Gl} {X : Cx} {e : Nat} {P : PN} {k1 : Nat} {x2 : Int} {x4 : Int} {x6 : Int} {x7 : Int} {x8 : Int} {x9 : Int} {x10 : Int} {iv av : IVt} (C : CX Y X RX7 "find" cX7_find 11 (some .boolean) (e + 2) 0 0) (Kk1 : BytesK k1) (hx10 : InR x10) (h :
    ((x10 < 3) →
      L_X7_find_202 Y X P k1 x2 x4 x6 x7 x8 x9 iv av
    ) ∧
    ((¬ x10 < 3) →
      ((InR (iv 23 5)) →
        ((x10 ≤ (iv 23 5)) →
          L_X7_find_202 Y X P k1 x2 x4 x6 x7 x8 x9 iv av
        ) ∧
        ((¬ x10 ≤ (iv 23 5)) →
          (InR (x6 - x7)) ∧
          L_X7_find_202 Y X P k1 x2 x4 x6 x7 x8 x9 (up2 (up2 iv 23 5 x10) 23 6 (x6 - x7)) av
        )
      )
    )) : L_X7_find_172 Y X P k1 x2 x4 x6 x7 x8 x9 x10 iv av := by
  obtain ⟨hk1c, hk1a, hk1l, hk1r0⟩ := Kk1
  unfold L_X7_find_172
  refine r_iload (pc' := 174) C 8 rfl dX7_find_172 rfl ?_
  refine r_iconst (pc' := 175) C dX7_find_174 rfl ?_
  refine r_icmp_lt (pc' := 178) (tgt := 202) C hx10 (by decide) dX7_find_175 (by decide) rfl (fun c1 => ?_) (fun c1 => ?_)
  · replace h := h.1 c1
    exact Wa.sub [0, 1, 2, 3, 4, 5, 6, 7] rfl h
  · replace h := h.2 c1
    refine r_iload (pc' := 180) C 8 rfl dX7_find_178 rfl ?_
    refine r_aload_n (pc' := 181) C 0 rfl rfl dX7_find_180 rfl ?_
    refine r_geti (pc' := 184) (k := 23) C fl_X7_40 (by decide) kc_23 (by decide) fr_7_5 dX7_find_181 rfl (fun f2 => ?_)
    replace h := h f2
    refine r_icmp_le (pc' := 187) (tgt := 202) C hx10 f2 dX7_find_184 (by decide) rfl (fun c3 => ?_) (fun c3 => ?_)
    · replace h := h.1 c3
      exact Wa.sub [0, 1, 2, 3, 4, 5, 6, 7] rfl h
    · replace h := h.2 c3
      refine r_aload_n (pc' := 188) C 0 rfl rfl dX7_find_187 rfl ?_
      refine r_iload (pc' := 190) C 8 rfl dX7_find_188 rfl ?_
      refine r_puti (pc' := 193) (k := 23) C fl_X7_40 (by decide) kc_23 (by decide) fr_7_5 hx10 dX7_find_190 rfl ?_
      refine r_aload_n (pc' := 194) C 0 rfl rfl dX7_find_193 rfl ?_
      refine r_iload (pc' := 196) C 4 rfl dX7_find_194 rfl ?_
      refine r_iload (pc' := 198) C 5 rfl dX7_find_196 rfl ?_
      refine r_isub (pc' := 199) C dX7_find_198 rfl ?_
      have o4 := h.1
      replace h := h.2
      refine r_puti (pc' := 202) (k := 23) C fl_X7_43 (by decide) kc_23 (by decide) fr_7_6 o4 dX7_find_199 rfl ?_
      exact Wa.sub [0, 1, 2, 3, 4, 5, 6, 7] rfl h
set_option maxHeartbeats 4000000 in
set_option maxRecDepth 100000 in
theorem w_X7_find_82 {Y : Gl} {X : Cx} {e : Nat} {P : PN} {k1 : Nat} {x2 : Int} {x4 : Int} {x6 : Int} {x7 : Int} {x8 : Int} {x9 : Int} {iv av : IVt} (C : CX Y X RX7 "find" cX7_find 11 (some .boolean) (e + 2) 0 0) (Kk1 : BytesK k1) (hx2 : InR x2) (hx4 : InR x4) (hx6 : InR x6) (hx7 : InR x7) (hx8 : InR x8) (hx9 : InR x9) (h :
    ((65536 ≤ x9) →
      L_X7_find_217 Y X P k1 iv av
    ) ∧
    ((¬ 65536 ≤ x9) →
      ((16 ≤ x8) →
        L_X7_find_217 Y X P k1 iv av
      ) ∧
      ((¬ 16 ≤ x8) →
        ((InR (iv 23 5)) →
          ((x4 ≤ (iv 23 5)) →
            L_X7_find_217 Y X P k1 iv av
          ) ∧
          ((¬ x4 ≤ (iv 23 5)) →
            ((x7 < 0) →
              L_X7_find_217 Y X P k1 iv av
            ) ∧
            ((¬ x7 < 0) →
              ((x6 ≤ x7) →
                L_X7_find_217 Y X P k1 iv av
              ) ∧
              ((¬ x6 ≤ x7) →
                ((65536 ≤ x7) →
                  L_X7_find_217 Y X P k1 iv av
                ) ∧
                ((¬ 65536 ≤ x7) →
                  (InR (x6 - x7)) ∧
                  (((x6 - x7) ≤ 32768) →
                    ((InR (iv 23 3)) →
                      (InR ((iv 23 3) + x7)) ∧
                      OkN Y (e + 1) mX2_sameFrom [.ref (gl_b Y + k1), .int (i32 ((iv 23 3) + x7)), .int (i32 x2), .int (i32 x4)] RV iv av 116 (fun r12 iv13 av14 =>
                        (InR r12) →
                        ((r12 < 3) →
                          L_X7_find_172 Y X P k1 x2 x4 x6 x7 (x8 + 0) x9 r12 iv13 av14
                        ) ∧
                        ((¬ r12 < 3) →
                          L_X7_find_172 Y X P k1 x2 x4 x6 x7 (x8 + 1) x9 r12 iv13 av14
                        )
                      )
                    )
                  ) ∧
                  ((¬ (x6 - x7) ≤ 32768) →
                    L_X7_find_217 Y X P k1 iv av
                  )
                )
              )
            )
          )
        )
      )
    )) : L_X7_find_82 Y X P k1 x2 x4 x6 x7 x8 x9 iv av := by
  obtain ⟨hk1c, hk1a, hk1l, hk1r0⟩ := Kk1
  unfold L_X7_find_82
  refine r_iload (pc' := 84) C 7 rfl dX7_find_82 rfl ?_
  refine r_ldc (pc' := 86) (x := 65536) C ct_X7_16 (by decide) dX7_find_84 rfl ?_
  refine r_icmp_ge (pc' := 89) (tgt := 217) C hx9 (by decide) dX7_find_86 (by decide) rfl (fun c1 => ?_) (fun c1 => ?_)
  · replace h := h.1 c1
    exact Wa.sub [0] rfl h
  · replace h := h.2 c1
    refine r_iload (pc' := 91) C 6 rfl dX7_find_89 rfl ?_
    refine r_bipush (pc' := 93) C dX7_find_91 (by decide) rfl ?_
    refine r_icmp_ge (pc' := 96) (tgt := 217) C hx8 (by decide) dX7_find_93 (by decide) rfl (fun c2 => ?_) (fun c2 => ?_)
    · replace h := h.1 c2
      exact Wa.sub [0] rfl h
    · replace h := h.2 c2
      refine r_aload_n (pc' := 97) C 0 rfl rfl dX7_find_96 rfl ?_
      refine r_geti (pc' := 100) (k := 23) C fl_X7_40 (by decide) kc_23 (by decide) fr_7_5 dX7_find_97 rfl (fun f3 => ?_)
      replace h := h f3
      refine r_iload (pc' := 102) C 3 rfl dX7_find_100 rfl ?_
      refine r_icmp_ge (pc' := 105) (tgt := 217) C f3 hx4 dX7_find_102 (by decide) rfl (fun c4 => ?_) (fun c4 => ?_)
      · replace h := h.1 c4
        exact Wa.sub [0] rfl h
      · replace h := h.2 c4
        refine r_iload (pc' := 107) C 5 rfl dX7_find_105 rfl ?_
        refine r_if_lt (pc' := 110) (tgt := 217) C hx7 dX7_find_107 (by decide) rfl (fun c5 => ?_) (fun c5 => ?_)
        · replace h := h.1 c5
          exact Wa.sub [0] rfl h
        · replace h := h.2 c5
          refine r_iload (pc' := 112) C 5 rfl dX7_find_110 rfl ?_
          refine r_iload (pc' := 114) C 4 rfl dX7_find_112 rfl ?_
          refine r_icmp_ge (pc' := 117) (tgt := 217) C hx7 hx6 dX7_find_114 (by decide) rfl (fun c6 => ?_) (fun c6 => ?_)
          · replace h := h.1 c6
            exact Wa.sub [0] rfl h
          · replace h := h.2 c6
            refine r_iload (pc' := 119) C 5 rfl dX7_find_117 rfl ?_
            refine r_aload_n (pc' := 120) C 0 rfl rfl dX7_find_119 rfl ?_
            refine r_getr (pc' := 123) (k := 23) (r := 25) C fl_X7_17 (by decide) kc_23 (by decide) fr_7_1 RV_23_1 dX7_find_120 rfl ?_
            refine r_alen (pc' := 124) (k := 25) (v := 65536) C (by decide) kc_25 (by decide) (by rw [kl_25]; rfl) dX7_find_123 rfl ?_
            refine r_icmp_ge (pc' := 127) (tgt := 217) C hx7 (by decide) dX7_find_124 (by decide) rfl (fun c7 => ?_) (fun c7 => ?_)
            · replace h := h.1 c7
              exact Wa.sub [0] rfl h
            · replace h := h.2 c7
              refine r_iload (pc' := 129) C 4 rfl dX7_find_127 rfl ?_
              refine r_iload (pc' := 131) C 5 rfl dX7_find_129 rfl ?_
              refine r_isub (pc' := 132) C dX7_find_131 rfl ?_
              refine r_ldc (pc' := 134) (x := 32768) C ct_X7_11 (by decide) dX7_find_132 rfl ?_
              have o8 := h.1
              replace h := h.2
              refine r_icmp_le (pc' := 137) (tgt := 140) C o8 (by decide) dX7_find_134 (by decide) rfl (fun c9 => ?_) (fun c9 => ?_)
              · replace h := h.1 c9
                refine r_aload_n (pc' := 141) C 1 rfl rfl dX7_find_140 rfl ?_
                refine r_aload_n (pc' := 142) C 0 rfl rfl dX7_find_141 rfl ?_
                refine r_geti (pc' := 145) (k := 23) C fl_X7_27 (by decide) kc_23 (by decide) fr_7_3 dX7_find_142 rfl (fun f10 => ?_)
                replace h := h f10
                refine r_iload (pc' := 147) C 5 rfl dX7_find_145 rfl ?_
                refine r_iadd (pc' := 148) C dX7_find_147 rfl ?_
                refine r_iload_n (pc' := 149) C 2 rfl rfl dX7_find_148 rfl ?_
                refine r_iload (pc' := 151) C 3 rfl dX7_find_149 rfl ?_
                have o11 := h.1
                replace h := h.2
                refine c_Vi (pc' := 154) (mt := mX2_sameFrom) (as := [.int (i32 ((iv 23 3) + x7)), .int (i32 x2), .int (i32 x4)]) (st := []) (k := k1) C h rfl cl_X2_sameFrom ml_X7_52 im_X2_sameFrom sl_X2_sameFrom (by omega) (Nat.le_refl _) (Nat.le_refl _) rfl (by omega) hk1c (by decide) rfl rfl rfl (Nat.le_of_ble_eq_true rfl) dX7_find_151 rfl (fun r12 iv13 av14 f15 h => ?_)
                replace h := h f15
                refine r_istore (pc' := 156) (ls' := [(0, .ref (gl_b Y + 23)), (1, .ref (gl_b Y + k1)), (2, .int (i32 x2)), (4, .int (i32 x4)), (6, .int (i32 x6)), (7, .int (i32 x7)), (8, .int (i32 x8)), (9, .int (i32 x9)), (10, .int (i32 r12))]) C (by decide) rfl dX7_find_154 rfl ?_
                refine r_iload (pc' := 158) C 6 rfl dX7_find_156 rfl ?_
                refine r_iload (pc' := 160) C 8 rfl dX7_find_158 rfl ?_
                refine r_iconst (pc' := 161) C dX7_find_160 rfl ?_
                refine r_icmp_lt (pc' := 164) (tgt := 168) C f15 (by decide) dX7_find_161 (by decide) rfl (fun c16 => ?_) (fun c16 => ?_)
                · replace h := h.1 c16
                  refine r_iconst (pc' := 169) C dX7_find_168 rfl ?_
                  refine r_iadd (pc' := 170) C dX7_find_169 rfl ?_
                  refine r_istore (pc' := 172) (ls' := [(0, .ref (gl_b Y + 23)), (1, .ref (gl_b Y + k1)), (2, .int (i32 x2)), (4, .int (i32 x4)), (6, .int (i32 x6)), (7, .int (i32 x7)), (8, .int (i32 (x8 + 0))), (9, .int (i32 x9)), (10, .int (i32 r12))]) C (by decide) rfl dX7_find_170 rfl ?_
                  exact Wa.sub [0, 1, 2, 3, 4, 5, 6, 7, 8] rfl h
                · replace h := h.2 c16
                  refine r_iconst (pc' := 165) C dX7_find_164 rfl ?_
                  refine r_goto (tgt := 169) C dX7_find_165 (by decide) ?_
                  refine r_iadd (pc' := 170) C dX7_find_169 rfl ?_
                  refine r_istore (pc' := 172) (ls' := [(0, .ref (gl_b Y + 23)), (1, .ref (gl_b Y + k1)), (2, .int (i32 x2)), (4, .int (i32 x4)), (6, .int (i32 x6)), (7, .int (i32 x7)), (8, .int (i32 (x8 + 1))), (9, .int (i32 x9)), (10, .int (i32 r12))]) C (by decide) rfl dX7_find_170 rfl ?_
                  exact Wa.sub [0, 1, 2, 3, 4, 5, 6, 7, 8] rfl h
              · replace h := h.2 c9
                refine r_goto (tgt := 217) C dX7_find_137 (by decide) ?_
                exact Wa.sub [0] rfl h
set_option maxHeartbeats 4000000 in
set_option maxRecDepth 100000 in
theorem o_X7_find {Y : Gl} {e : Nat} {P : PN} {k1 : Nat} {x2 : Int} {x3 : Int} {iv av : IVt} (Kk1 : BytesK k1) (hx2 : InR x2) (h : ∀ X : Cx, CX Y X RX7 "find" cX7_find 11 (some .boolean) (e + 2) 0 0 →
    (InR (x3 - x2)) ∧
    OkN Y (e + 1) mX2_threeFrom [.ref (gl_b Y + k1), .int (i32 x2)] RV (up2 (up2 iv 23 5 0) 23 6 0) av 116 (fun r2 iv3 av4 =>
      (InR r2) →
      OkN Y (e + 1) mX7_headOf [.int (i32 r2)] RV iv3 av4 116 (fun r6 iv7 av8 =>
        (InR r6) →
        (((min 258 (x3 - x2)) < 3) →
          P 0 iv7 av8
        ) ∧
        ((¬ (min 258 (x3 - x2)) < 3) →
          ((r6 < 0) →
            P 0 iv7 av8
          ) ∧
          ((¬ r6 < 0) →
            ((r6 < 32768) →
              ((InR (iv7 23 3)) →
                (0 ≤ r6 ∧ r6 < 32768) ∧
                ((InR (av8 24 r6.toNat)) →
                  ((InR (iv7 23 2)) →
                    L_X7_find_82 Y X P k1 x2 (min 258 (x3 - x2)) (x2 - (iv7 23 3)) ((av8 24 r6.toNat) - (iv7 23 2)) 0 0 iv7 av8
                  )
                )
              )
            ) ∧
            ((¬ r6 < 32768) →
              P 0 iv7 av8
            )
          )
        )
      )
    )) : OkN Y (e + 2) mX7_find [.ref (gl_b Y + 23), .ref (gl_b Y + k1), .int (i32 x2), .int (i32 x3)] RV iv av 116 P := by
  obtain ⟨hk1c, hk1a, hk1l, hk1r0⟩ := Kk1
  refine OkW.of rfl (by show _ ≤ 11; exact Nat.le_of_ble_eq_true rfl) fun X C0 hR => ?_
  have C : CX Y X RX7 "find" cX7_find 11 (some .boolean) (e + 2) 0 0 := C0
  replace h := h X C
  show Wa Y X 11 (g_MQ Y X 1 (g_N RV 116 P) 0 0) 0 0 0 [(0, .ref (gl_b Y + 23)), (1, .ref (gl_b Y + k1)), (2, .int (i32 x2)), (3, .int (i32 x3))] [] RV iv av 116
  refine r_aload_n (pc' := 1) C 0 rfl rfl dX7_find_0 rfl ?_
  refine r_iconst (pc' := 2) C dX7_find_1 rfl ?_
  refine r_puti (pc' := 5) (k := 23) C fl_X7_40 (by decide) kc_23 (by decide) fr_7_5 (by decide) dX7_find_2 rfl ?_
  refine r_aload_n (pc' := 6) C 0 rfl rfl dX7_find_5 rfl ?_
  refine r_iconst (pc' := 7) C dX7_find_6 rfl ?_
  refine r_puti (pc' := 10) (k := 23) C fl_X7_43 (by decide) kc_23 (by decide) fr_7_6 (by decide) dX7_find_7 rfl ?_
  refine r_sipush (pc' := 13) C dX7_find_10 (by decide) rfl ?_
  refine r_iload_n (pc' := 14) C 3 rfl rfl dX7_find_13 rfl ?_
  refine r_iload_n (pc' := 15) C 2 rfl rfl dX7_find_14 rfl ?_
  refine r_isub (pc' := 16) C dX7_find_15 rfl ?_
  have o1 := h.1
  replace h := h.2
  refine r_min (pc' := 19) C ml_X7_46 wd_min_s wd_math wd_min_c (by omega) (Nat.le_of_ble_eq_true rfl) (Nat.le_refl _) (Nat.le_refl _) (by decide) o1 dX7_find_16 rfl ?_
  refine r_istore (pc' := 21) (ls' := [(0, .ref (gl_b Y + 23)), (1, .ref (gl_b Y + k1)), (2, .int (i32 x2)), (3, .int (i32 x3)), (4, .int (i32 (min 258 (x3 - x2))))]) C (by decide) rfl dX7_find_19 rfl ?_
  refine r_aload_n (pc' := 22) C 1 rfl rfl dX7_find_21 rfl ?_
  refine r_iload_n (pc' := 23) C 2 rfl rfl dX7_find_22 rfl ?_
  refine c_Vi (pc' := 26) (mt := mX2_threeFrom) (as := [.int (i32 x2)]) (st := []) (k := k1) C h rfl cl_X2_threeFrom ml_X7_31 im_X2_threeFrom sl_X2_threeFrom (by omega) (Nat.le_refl _) (Nat.le_refl _) rfl (by omega) hk1c (by decide) rfl rfl rfl (Nat.le_of_ble_eq_true rfl) dX7_find_23 rfl (fun r2 iv3 av4 f5 h => ?_)
  replace h := h f5
  refine c_Si (pc' := 29) (mt := mX7_headOf) (as := [.int (i32 r2)]) (st := []) C h rfl cl_X7_headOf ml_X7_37 sm_X7_headOf (by omega) (Nat.le_refl _) (Nat.le_refl _) rfl rfl (Nat.le_of_ble_eq_true rfl) dX7_find_26 rfl (fun r6 iv7 av8 f9 h => ?_)
  replace h := h f9
  refine r_istore (pc' := 31) (ls' := [(0, .ref (gl_b Y + 23)), (1, .ref (gl_b Y + k1)), (2, .int (i32 x2)), (3, .int (i32 x3)), (4, .int (i32 (min 258 (x3 - x2)))), (5, .int (i32 r6))]) C (by decide) rfl dX7_find_29 rfl ?_
  refine r_iload (pc' := 33) C 4 rfl dX7_find_31 rfl ?_
  refine r_iconst (pc' := 34) C dX7_find_33 rfl ?_
  refine r_icmp_lt (pc' := 37) (tgt := 52) C (by omega) (by decide) dX7_find_34 (by decide) rfl (fun c10 => ?_) (fun c10 => ?_)
  · replace h := h.1 c10
    refine r_iconst (pc' := 53) C dX7_find_52 rfl ?_
    exact r_zret C (by decide) ⟨rfl, rfl, h⟩ dX7_find_53
  · replace h := h.2 c10
    refine r_iload (pc' := 39) C 5 rfl dX7_find_37 rfl ?_
    refine r_if_lt (pc' := 42) (tgt := 52) C f9 dX7_find_39 (by decide) rfl (fun c11 => ?_) (fun c11 => ?_)
    · replace h := h.1 c11
      refine r_iconst (pc' := 53) C dX7_find_52 rfl ?_
      exact r_zret C (by decide) ⟨rfl, rfl, h⟩ dX7_find_53
    · replace h := h.2 c11
      refine r_iload (pc' := 44) C 5 rfl dX7_find_42 rfl ?_
      refine r_aload_n (pc' := 45) C 0 rfl rfl dX7_find_44 rfl ?_
      refine r_getr (pc' := 48) (k := 23) (r := 24) C fl_X7_12 (by decide) kc_23 (by decide) fr_7_0 RV_23_0 dX7_find_45 rfl ?_
      refine r_alen (pc' := 49) (k := 24) (v := 32768) C (by decide) kc_24 (by decide) (by rw [kl_24]; rfl) dX7_find_48 rfl ?_
      refine r_icmp_lt (pc' := 52) (tgt := 54) C f9 (by decide) dX7_find_49 (by decide) rfl (fun c12 => ?_) (fun c12 => ?_)
      · replace h := h.1 c12
        refine r_iload_n (pc' := 55) C 2 rfl rfl dX7_find_54 rfl ?_
        refine r_aload_n (pc' := 56) C 0 rfl rfl dX7_find_55 rfl ?_
        refine r_geti (pc' := 59) (k := 23) C fl_X7_27 (by decide) kc_23 (by decide) fr_7_3 dX7_find_56 rfl (fun f13 => ?_)
        replace h := h f13
        refine r_isub (pc' := 60) C dX7_find_59 rfl ?_
        refine r_istore (pc' := 62) (ls' := [(0, .ref (gl_b Y + 23)), (1, .ref (gl_b Y + k1)), (2, .int (i32 x2)), (3, .int (i32 x3)), (4, .int (i32 (min 258 (x3 - x2)))), (5, .int (i32 r6)), (6, .int (i32 (x2 - (iv7 23 3))))]) C (by decide) rfl dX7_find_60 rfl ?_
        refine r_aload_n (pc' := 63) C 0 rfl rfl dX7_find_62 rfl ?_
        refine r_getr (pc' := 66) (k := 23) (r := 24) C fl_X7_12 (by decide) kc_23 (by decide) fr_7_0 RV_23_0 dX7_find_63 rfl ?_
        refine r_iload (pc' := 68) C 5 rfl dX7_find_66 rfl ?_
        have o14 := h.1
        replace h := h.2
        refine r_iald (pc' := 69) (k := 24) C (by decide) kc_24 (by have := kl_24; omega) dX7_find_68 rfl (fun f15 => ?_)
        replace h := h f15
        refine r_aload_n (pc' := 70) C 0 rfl rfl dX7_find_69 rfl ?_
        refine r_geti (pc' := 73) (k := 23) C fl_X7_20 (by decide) kc_23 (by decide) fr_7_2 dX7_find_70 rfl (fun f16 => ?_)
        replace h := h f16
        refine r_isub (pc' := 74) C dX7_find_73 rfl ?_
        refine r_istore (pc' := 76) (ls' := [(0, .ref (gl_b Y + 23)), (1, .ref (gl_b Y + k1)), (2, .int (i32 x2)), (3, .int (i32 x3)), (4, .int (i32 (min 258 (x3 - x2)))), (5, .int (i32 r6)), (6, .int (i32 (x2 - (iv7 23 3)))), (7, .int (i32 ((av8 24 r6.toNat) - (iv7 23 2))))]) C (by decide) rfl dX7_find_74 rfl ?_
        refine r_iconst (pc' := 77) C dX7_find_76 rfl ?_
        refine r_istore (pc' := 79) (ls' := [(0, .ref (gl_b Y + 23)), (1, .ref (gl_b Y + k1)), (2, .int (i32 x2)), (3, .int (i32 x3)), (4, .int (i32 (min 258 (x3 - x2)))), (5, .int (i32 r6)), (6, .int (i32 (x2 - (iv7 23 3)))), (7, .int (i32 ((av8 24 r6.toNat) - (iv7 23 2)))), (8, .int (i32 0))]) C (by decide) rfl dX7_find_77 rfl ?_
        refine r_iconst (pc' := 80) C dX7_find_79 rfl ?_
        refine r_istore (pc' := 82) (ls' := [(0, .ref (gl_b Y + 23)), (1, .ref (gl_b Y + k1)), (2, .int (i32 x2)), (3, .int (i32 x3)), (4, .int (i32 (min 258 (x3 - x2)))), (5, .int (i32 r6)), (6, .int (i32 (x2 - (iv7 23 3)))), (7, .int (i32 ((av8 24 r6.toNat) - (iv7 23 2)))), (8, .int (i32 0)), (9, .int (i32 0))]) C (by decide) rfl dX7_find_80 rfl ?_
        exact Wa.sub [0, 1, 2, 4, 6, 7, 8, 9] rfl h
      · replace h := h.2 c12
        refine r_iconst (pc' := 53) C dX7_find_52 rfl ?_
        exact r_zret C (by decide) ⟨rfl, rfl, h⟩ dX7_find_53
set_option maxHeartbeats 4000000 in
set_option maxRecDepth 100000 in
theorem o_X7_length {Y : Gl} {e : Nat} {P : PN} {iv av : IVt} (h : 
    ((InR (iv 23 5)) →
      P (iv 23 5) iv av
    )) : OkN Y e mX7_length [.ref (gl_b Y + 23)] RV iv av 116 P := by
  refine OkW.of rfl (by show _ ≤ 1; exact Nat.le_of_ble_eq_true rfl) fun X C0 hR => ?_
  have C : CX Y X RX7 "length" cX7_length 1 (some .int) e 0 0 := C0
  show Wa Y X 1 (g_MQ Y X 1 (g_N RV 116 P) 0 0) 0 0 0 [(0, .ref (gl_b Y + 23))] [] RV iv av 116
  refine r_aload_n (pc' := 1) C 0 rfl rfl dX7_length_0 rfl ?_
  refine r_geti (pc' := 4) (k := 23) C fl_X7_40 (by decide) kc_23 (by decide) fr_7_5 dX7_length_1 rfl (fun f1 => ?_)
  replace h := h f1
  exact r_iret C f1 ⟨rfl, rfl, h⟩ dX7_length_4
set_option maxHeartbeats 4000000 in
set_option maxRecDepth 100000 in
theorem o_X7_distance {Y : Gl} {e : Nat} {P : PN} {iv av : IVt} (h : 
    ((InR (iv 23 6)) →
      P (iv 23 6) iv av
    )) : OkN Y e mX7_distance [.ref (gl_b Y + 23)] RV iv av 116 P := by
  refine OkW.of rfl (by show _ ≤ 1; exact Nat.le_of_ble_eq_true rfl) fun X C0 hR => ?_
  have C : CX Y X RX7 "distance" cX7_distance 1 (some .int) e 0 0 := C0
  show Wa Y X 1 (g_MQ Y X 1 (g_N RV 116 P) 0 0) 0 0 0 [(0, .ref (gl_b Y + 23))] [] RV iv av 116
  refine r_aload_n (pc' := 1) C 0 rfl rfl dX7_distance_0 rfl ?_
  refine r_geti (pc' := 4) (k := 23) C fl_X7_43 (by decide) kc_23 (by decide) fr_7_6 dX7_distance_1 rfl (fun f1 => ?_)
  replace h := h f1
  exact r_iret C f1 ⟨rfl, rfl, h⟩ dX7_distance_4
def L_X8_pack_40 (Y : Gl) (X : Cx) (P : PN) (k1 : Nat) (x2 : Int) (x3 : Int) (x4 : Int) (x5 : Int) (iv av : IVt) : Prop := Wa Y X 8 (g_MQ Y X 0 (g_N RV 116 P) 0 0) 0 0 40 [(0, .ref (gl_b Y + 22)), (1, .ref (gl_b Y + k1)), (2, .int (i32 x2)), (3, .int (i32 x3)), (4, .int (i32 x4)), (5, .int (i32 x5))] [] RV iv av 116
def L_X8_pack_211 (Y : Gl) (X : Cx) (P : PN) (k1 : Nat) (x5 : Int) (x6 : Int) (iv av : IVt) : Prop := Wa Y X 8 (g_MQ Y X 0 (g_N RV 116 P) 0 0) 0 0 211 [(0, .ref (gl_b Y + 22)), (5, .int (i32 x5)), (6, .int (i32 x6))] [] RV iv av 116
set_option maxHeartbeats 4000000 in
set_option maxRecDepth 100000 in
theorem w_X8_pack_211 {Y : Gl} {X : Cx} {e : Nat} {P : PN} {k1 : Nat} {x5 : Int} {x6 : Int} {iv av : IVt} (C : CX Y X RX8 "pack" cX8_pack 8 none (e + 4) 0 0) (Kk1 : BytesK k1) (hx6 : InR x6) (h :
    ((x6 < 0) →
      P 0 iv av
    ) ∧
    ((¬ x6 < 0) →
      (0 ≤ x6 ∧ x6 ≤ 31) ∧
      OkN Y (e + 3) mX0_bits [.ref (gl_b Y + 57), .int (i32 (bm32 (x5 % 4294967296 / 2 ^ x6.toNat))), .int (i32 8)] RV iv av 116 (fun r3 iv4 av5 =>
        L_X8_pack_211 Y X P k1 x5 (x6 + (-8)) iv4 av5
      )
    )) : L_X8_pack_211 Y X P k1 x5 x6 iv av := by
  obtain ⟨hk1c, hk1a, hk1l, hk1r0⟩ := Kk1
  unfold L_X8_pack_211
  refine r_iload (pc' := 213) C 2 rfl dX8_pack_211 rfl ?_
  refine r_if_lt (pc' := 216) (tgt := 236) C hx6 dX8_pack_213 (by decide) rfl (fun c1 => ?_) (fun c1 => ?_)
  · replace h := h.1 c1
    exact r_vret C ⟨rfl, rfl, h⟩ dX8_pack_236
  · replace h := h.2 c1
    refine r_aload_n (pc' := 217) C 0 rfl rfl dX8_pack_216 rfl ?_
    refine r_getr (pc' := 220) (k := 22) (r := 57) C fl_X8_64 (by decide) kc_22 (by decide) fr_8_0 RV_22_0 dX8_pack_217 rfl ?_
    refine r_iload (pc' := 222) C 1 rfl dX8_pack_220 rfl ?_
    refine r_iload (pc' := 224) C 2 rfl dX8_pack_222 rfl ?_
    have o2 := h.1
    replace h := h.2
    refine r_iushr (pc' := 225) C o2 dX8_pack_224 rfl ?_
    refine r_wrap ?_
    refine r_bipush (pc' := 227) C dX8_pack_225 (by decide) rfl ?_
    refine c_Vv (pc' := 230) (mt := mX0_bits) (as := [.int (i32 (bm32 (x5 % 4294967296 / 2 ^ x6.toNat))), .int (i32 8)]) (st := []) (k := 57) C h rfl cl_X0_bits ml_X8_82 im_X0_bits sl_X0_bits (by omega) (Nat.le_refl _) (Nat.le_refl _) rfl (by decide) kc_57 (by decide) rfl rfl rfl (Nat.le_of_ble_eq_true rfl) dX8_pack_227 rfl (fun r3 iv4 av5 h => ?_)
    refine r_iinc (pc' := 233) (ls' := [(0, .ref (gl_b Y + 22)), (5, .int (i32 x5)), (6, .int (i32 (x6 + (-8))))]) C 2 rfl (by decide) rfl dX8_pack_230 rfl ?_
    refine r_goto (tgt := 211) C dX8_pack_233 (by decide) ?_
    exact Wa.sub [0, 1, 2] rfl h
set_option maxHeartbeats 4000000 in
set_option maxRecDepth 100000 in
theorem w_X8_pack_40 {Y : Gl} {X : Cx} {e : Nat} {P : PN} {k1 : Nat} {x2 : Int} {x3 : Int} {x4 : Int} {x5 : Int} {iv av : IVt} (C : CX Y X RX8 "pack" cX8_pack 8 none (e + 4) 0 0) (Kk1 : BytesK k1) (hx2 : InR x2) (hx3 : InR x3) (hx4 : InR x4) (hx5 : InR x5) (h :
    ((x4 ≤ x5) →
      OkN Y (e + 3) mX0_endByte [.ref (gl_b Y + 57)] RV iv av 116 (fun r2 iv3 av4 =>
        OkN Y (e + 3) mX11_checkOf [.ref (gl_b Y + k1), .int (i32 x2), .int (i32 x3)] RV iv3 av4 116 (fun r6 iv7 av8 =>
          (InR r6) →
          L_X8_pack_211 Y X P k1 r6 24 iv7 av8
        )
      )
    ) ∧
    ((¬ x4 ≤ x5) →
      (InR (x5 + 4096)) ∧
      OkN Y (e + 3) mX8_gather [.ref (gl_b Y + 22), .ref (gl_b Y + k1), .int (i32 x5), .int (i32 (min (x5 + 4096) x4))] RV iv av 116 (fun r11 iv12 av13 =>
        OkN Y (e + 3) mX8_makeCodes [.ref (gl_b Y + 22)] RV iv12 av13 116 (fun r15 iv16 av17 =>
          OkN Y (e + 3) mX8_makeTold [.ref (gl_b Y + 22)] RV iv16 av17 116 (fun r19 iv20 av21 =>
            OkN Y (e + 3) mX8_makeSizes [.ref (gl_b Y + 22)] RV iv20 av21 116 (fun r23 iv24 av25 =>
              (InR ((min (x5 + 4096) x4) - x5)) ∧
              OkN Y (e + 3) mX8_bestSort [.ref (gl_b Y + 22), .int (i32 ((min (x5 + 4096) x4) - x5))] RV iv24 av25 116 (fun r28 iv29 av30 =>
                (InR r28) →
                ((¬ (min (x5 + 4096) x4) = x4) →
                  OkN Y (e + 3) mX0_bits [.ref (gl_b Y + 57), .int (i32 0), .int (i32 1)] RV iv29 av30 116 (fun r33 iv34 av35 =>
                    OkN Y (e + 3) mX0_bits [.ref (gl_b Y + 57), .int (i32 r28), .int (i32 2)] RV iv34 av35 116 (fun r37 iv38 av39 =>
                      ((¬ r28 = 0) →
                        ((¬ r28 = 1) →
                          OkN Y (e + 3) mX8_tellHeader [.ref (gl_b Y + 22)] RV iv38 av39 116 (fun r43 iv44 av45 =>
                            OkN Y (e + 3) mX8_tellItems [.ref (gl_b Y + 22), .ref (gl_b Y + 33), .ref (gl_b Y + 37)] RV iv44 av45 116 (fun r47 iv48 av49 =>
                              L_X8_pack_40 Y X P k1 x2 x3 x4 (x5 + 4096) iv48 av49
                            )
                          )
                        ) ∧
                        ((r28 = 1) →
                          OkN Y (e + 3) mX8_tellItems [.ref (gl_b Y + 22), .ref (gl_b Y + 45), .ref (gl_b Y + 49)] RV iv38 av39 116 (fun r51 iv52 av53 =>
                            L_X8_pack_40 Y X P k1 x2 x3 x4 (x5 + 4096) iv52 av53
                          )
                        )
                      ) ∧
                      ((r28 = 0) →
                        OkN Y (e + 3) mX0_endByte [.ref (gl_b Y + 57)] RV iv38 av39 116 (fun r55 iv56 av57 =>
                          OkN Y (e + 3) mX8_tellStored [.ref (gl_b Y + 22), .ref (gl_b Y + k1), .int (i32 x5), .int (i32 (min (x5 + 4096) x4))] RV iv56 av57 116 (fun r59 iv60 av61 =>
                            L_X8_pack_40 Y X P k1 x2 x3 x4 (x5 + 4096) iv60 av61
                          )
                        )
                      )
                    )
                  )
                ) ∧
                (((min (x5 + 4096) x4) = x4) →
                  OkN Y (e + 3) mX0_bits [.ref (gl_b Y + 57), .int (i32 1), .int (i32 1)] RV iv29 av30 116 (fun r63 iv64 av65 =>
                    OkN Y (e + 3) mX0_bits [.ref (gl_b Y + 57), .int (i32 r28), .int (i32 2)] RV iv64 av65 116 (fun r67 iv68 av69 =>
                      ((¬ r28 = 0) →
                        ((¬ r28 = 1) →
                          OkN Y (e + 3) mX8_tellHeader [.ref (gl_b Y + 22)] RV iv68 av69 116 (fun r73 iv74 av75 =>
                            OkN Y (e + 3) mX8_tellItems [.ref (gl_b Y + 22), .ref (gl_b Y + 33), .ref (gl_b Y + 37)] RV iv74 av75 116 (fun r77 iv78 av79 =>
                              L_X8_pack_40 Y X P k1 x2 x3 x4 (x5 + 4096) iv78 av79
                            )
                          )
                        ) ∧
                        ((r28 = 1) →
                          OkN Y (e + 3) mX8_tellItems [.ref (gl_b Y + 22), .ref (gl_b Y + 45), .ref (gl_b Y + 49)] RV iv68 av69 116 (fun r81 iv82 av83 =>
                            L_X8_pack_40 Y X P k1 x2 x3 x4 (x5 + 4096) iv82 av83
                          )
                        )
                      ) ∧
                      ((r28 = 0) →
                        OkN Y (e + 3) mX0_endByte [.ref (gl_b Y + 57)] RV iv68 av69 116 (fun r85 iv86 av87 =>
                          OkN Y (e + 3) mX8_tellStored [.ref (gl_b Y + 22), .ref (gl_b Y + k1), .int (i32 x5), .int (i32 (min (x5 + 4096) x4))] RV iv86 av87 116 (fun r89 iv90 av91 =>
                            L_X8_pack_40 Y X P k1 x2 x3 x4 (x5 + 4096) iv90 av91
                          )
                        )
                      )
                    )
                  )
                )
              )
            )
          )
        )
      )
    )) : L_X8_pack_40 Y X P k1 x2 x3 x4 x5 iv av := by
  obtain ⟨hk1c, hk1a, hk1l, hk1r0⟩ := Kk1
  unfold L_X8_pack_40
  refine r_iload (pc' := 42) C 5 rfl dX8_pack_40 rfl ?_
  refine r_iload (pc' := 44) C 4 rfl dX8_pack_42 rfl ?_
  refine r_icmp_ge (pc' := 47) (tgt := 192) C hx5 hx4 dX8_pack_44 (by decide) rfl (fun c1 => ?_) (fun c1 => ?_)
  · replace h := h.1 c1
    refine r_aload_n (pc' := 193) C 0 rfl rfl dX8_pack_192 rfl ?_
    refine r_getr (pc' := 196) (k := 22) (r := 57) C fl_X8_64 (by decide) kc_22 (by decide) fr_8_0 RV_22_0 dX8_pack_193 rfl ?_
    refine c_Vv (pc' := 199) (mt := mX0_endByte) (as := []) (st := []) (k := 57) C h rfl cl_X0_endByte ml_X8_105 im_X0_endByte sl_X0_endByte (by omega) (Nat.le_refl _) (Nat.le_refl _) rfl (by decide) kc_57 (by decide) rfl rfl rfl (Nat.le_of_ble_eq_true rfl) dX8_pack_196 rfl (fun r2 iv3 av4 h => ?_)
    refine r_aload_n (pc' := 200) C 1 rfl rfl dX8_pack_199 rfl ?_
    refine r_iload_n (pc' := 201) C 2 rfl rfl dX8_pack_200 rfl ?_
    refine r_iload_n (pc' := 202) C 3 rfl rfl dX8_pack_201 rfl ?_
    refine c_SNi (pc' := 205) (mt := mX11_checkOf) (as := [.ref (gl_b Y + k1), .int (i32 x2), .int (i32 x3)]) (st := []) C h rfl cl_X11_checkOf nl_X8_118 sm_X11_checkOf (by omega) (Nat.le_refl _) (Nat.le_refl _) rfl rfl (Nat.le_of_ble_eq_true rfl) dX8_pack_202 rfl (fun r6 iv7 av8 f9 h => ?_)
    replace h := h f9
    refine r_istore (pc' := 207) (ls' := [(0, .ref (gl_b Y + 22)), (1, .ref (gl_b Y + k1)), (2, .int (i32 x2)), (3, .int (i32 x3)), (4, .int (i32 x4)), (5, .int (i32 r6))]) C (by decide) rfl dX8_pack_205 rfl ?_
    refine r_bipush (pc' := 209) C dX8_pack_207 (by decide) rfl ?_
    refine r_istore (pc' := 211) (ls' := [(0, .ref (gl_b Y + 22)), (1, .ref (gl_b Y + k1)), (2, .int (i32 x2)), (3, .int (i32 x3)), (4, .int (i32 x4)), (5, .int (i32 r6)), (6, .int (i32 24))]) C (by decide) rfl dX8_pack_209 rfl ?_
    exact Wa.sub [0, 5, 6] rfl h
  · replace h := h.2 c1
    refine r_iload (pc' := 49) C 5 rfl dX8_pack_47 rfl ?_
    refine r_sipush (pc' := 52) C dX8_pack_49 (by decide) rfl ?_
    refine r_iadd (pc' := 53) C dX8_pack_52 rfl ?_
    refine r_iload (pc' := 55) C 4 rfl dX8_pack_53 rfl ?_
    have o10 := h.1
    replace h := h.2
    refine r_min (pc' := 58) C ml_X8_85 wd_min_s wd_math wd_min_c (by omega) (Nat.le_of_ble_eq_true rfl) (Nat.le_refl _) (Nat.le_refl _) o10 hx4 dX8_pack_55 rfl ?_
    refine r_istore (pc' := 60) (ls' := [(0, .ref (gl_b Y + 22)), (1, .ref (gl_b Y + k1)), (2, .int (i32 x2)), (3, .int (i32 x3)), (4, .int (i32 x4)), (5, .int (i32 x5)), (6, .int (i32 (min (x5 + 4096) x4)))]) C (by decide) rfl dX8_pack_58 rfl ?_
    refine r_aload_n (pc' := 61) C 0 rfl rfl dX8_pack_60 rfl ?_
    refine r_aload_n (pc' := 62) C 1 rfl rfl dX8_pack_61 rfl ?_
    refine r_iload (pc' := 64) C 5 rfl dX8_pack_62 rfl ?_
    refine r_iload (pc' := 66) C 6 rfl dX8_pack_64 rfl ?_
    refine c_Vv (pc' := 69) (mt := mX8_gather) (as := [.ref (gl_b Y + k1), .int (i32 x5), .int (i32 (min (x5 + 4096) x4))]) (st := []) (k := 22) C h rfl cl_X8_gather ml_X8_91 im_X8_gather sl_X8_gather (by omega) (Nat.le_refl _) (Nat.le_refl _) rfl (by decide) kc_22 (by decide) rfl rfl rfl (Nat.le_of_ble_eq_true rfl) dX8_pack_66 rfl (fun r11 iv12 av13 h => ?_)
    refine r_aload_n (pc' := 70) C 0 rfl rfl dX8_pack_69 rfl ?_
    refine c_Vv (pc' := 73) (mt := mX8_makeCodes) (as := []) (st := []) (k := 22) C h rfl cl_X8_makeCodes ml_X8_95 im_X8_makeCodes sl_X8_makeCodes (by omega) (Nat.le_refl _) (Nat.le_refl _) rfl (by decide) kc_22 (by decide) rfl rfl rfl (Nat.le_of_ble_eq_true rfl) dX8_pack_70 rfl (fun r15 iv16 av17 h => ?_)
    refine r_aload_n (pc' := 74) C 0 rfl rfl dX8_pack_73 rfl ?_
    refine c_Vv (pc' := 77) (mt := mX8_makeTold) (as := []) (st := []) (k := 22) C h rfl cl_X8_makeTold ml_X8_96 im_X8_makeTold sl_X8_makeTold (by omega) (Nat.le_refl _) (Nat.le_refl _) rfl (by decide) kc_22 (by decide) rfl rfl rfl (Nat.le_of_ble_eq_true rfl) dX8_pack_74 rfl (fun r19 iv20 av21 h => ?_)
    refine r_aload_n (pc' := 78) C 0 rfl rfl dX8_pack_77 rfl ?_
    refine c_Vv (pc' := 81) (mt := mX8_makeSizes) (as := []) (st := []) (k := 22) C h rfl cl_X8_makeSizes ml_X8_99 im_X8_makeSizes sl_X8_makeSizes (by omega) (Nat.le_refl _) (Nat.le_refl _) rfl (by decide) kc_22 (by decide) rfl rfl rfl (Nat.le_of_ble_eq_true rfl) dX8_pack_78 rfl (fun r23 iv24 av25 h => ?_)
    refine r_aload_n (pc' := 82) C 0 rfl rfl dX8_pack_81 rfl ?_
    refine r_iload (pc' := 84) C 6 rfl dX8_pack_82 rfl ?_
    refine r_iload (pc' := 86) C 5 rfl dX8_pack_84 rfl ?_
    refine r_isub (pc' := 87) C dX8_pack_86 rfl ?_
    have o27 := h.1
    replace h := h.2
    refine c_Vi (pc' := 90) (mt := mX8_bestSort) (as := [.int (i32 ((min (x5 + 4096) x4) - x5))]) (st := []) (k := 22) C h rfl cl_X8_bestSort ml_X8_102 im_X8_bestSort sl_X8_bestSort (by omega) (Nat.le_refl _) (Nat.le_refl _) rfl (by decide) kc_22 (by decide) rfl rfl rfl (Nat.le_of_ble_eq_true rfl) dX8_pack_87 rfl (fun r28 iv29 av30 f31 h => ?_)
    replace h := h f31
    refine r_istore (pc' := 92) (ls' := [(0, .ref (gl_b Y + 22)), (1, .ref (gl_b Y + k1)), (2, .int (i32 x2)), (3, .int (i32 x3)), (4, .int (i32 x4)), (5, .int (i32 x5)), (6, .int (i32 (min (x5 + 4096) x4))), (7, .int (i32 r28))]) C (by decide) rfl dX8_pack_90 rfl ?_
    refine r_aload_n (pc' := 93) C 0 rfl rfl dX8_pack_92 rfl ?_
    refine r_getr (pc' := 96) (k := 22) (r := 57) C fl_X8_64 (by decide) kc_22 (by decide) fr_8_0 RV_22_0 dX8_pack_93 rfl ?_
    refine r_iload (pc' := 98) C 6 rfl dX8_pack_96 rfl ?_
    refine r_iload (pc' := 100) C 4 rfl dX8_pack_98 rfl ?_
    refine r_icmp_ne (pc' := 103) (tgt := 107) C (by omega) hx4 dX8_pack_100 (by decide) rfl (fun c32 => ?_) (fun c32 => ?_)
    · replace h := h.1 c32
      refine r_iconst (pc' := 108) C dX8_pack_107 rfl ?_
      refine r_iconst (pc' := 109) C dX8_pack_108 rfl ?_
      refine c_Vv (pc' := 112) (mt := mX0_bits) (as := [.int (i32 0), .int (i32 1)]) (st := []) (k := 57) C h rfl cl_X0_bits ml_X8_82 im_X0_bits sl_X0_bits (by omega) (Nat.le_refl _) (Nat.le_refl _) rfl (by decide) kc_57 (by decide) rfl rfl rfl (Nat.le_of_ble_eq_true rfl) dX8_pack_109 rfl (fun r33 iv34 av35 h => ?_)
      refine r_aload_n (pc' := 113) C 0 rfl rfl dX8_pack_112 rfl ?_
      refine r_getr (pc' := 116) (k := 22) (r := 57) C fl_X8_64 (by decide) kc_22 (by decide) fr_8_0 RV_22_0 dX8_pack_113 rfl ?_
      refine r_iload (pc' := 118) C 7 rfl dX8_pack_116 rfl ?_
      refine r_iconst (pc' := 119) C dX8_pack_118 rfl ?_
      refine c_Vv (pc' := 122) (mt := mX0_bits) (as := [.int (i32 r28), .int (i32 2)]) (st := []) (k := 57) C h rfl cl_X0_bits ml_X8_82 im_X0_bits sl_X0_bits (by omega) (Nat.le_refl _) (Nat.le_refl _) rfl (by decide) kc_57 (by decide) rfl rfl rfl (Nat.le_of_ble_eq_true rfl) dX8_pack_119 rfl (fun r37 iv38 av39 h => ?_)
      refine r_iload (pc' := 124) C 7 rfl dX8_pack_122 rfl ?_
      refine r_if_ne (pc' := 127) (tgt := 146) C f31 dX8_pack_124 (by decide) rfl (fun c41 => ?_) (fun c41 => ?_)
      · replace h := h.1 c41
        refine r_iload (pc' := 148) C 7 rfl dX8_pack_146 rfl ?_
        refine r_iconst (pc' := 149) C dX8_pack_148 rfl ?_
        refine r_icmp_ne (pc' := 152) (tgt := 167) C f31 (by decide) dX8_pack_149 (by decide) rfl (fun c42 => ?_) (fun c42 => ?_)
        · replace h := h.1 c42
          refine r_aload_n (pc' := 168) C 0 rfl rfl dX8_pack_167 rfl ?_
          refine c_Vv (pc' := 171) (mt := mX8_tellHeader) (as := []) (st := []) (k := 22) C h rfl cl_X8_tellHeader ml_X8_115 im_X8_tellHeader sl_X8_tellHeader (by omega) (Nat.le_refl _) (Nat.le_refl _) rfl (by decide) kc_22 (by decide) rfl rfl rfl (Nat.le_of_ble_eq_true rfl) dX8_pack_168 rfl (fun r43 iv44 av45 h => ?_)
          refine r_aload_n (pc' := 172) C 0 rfl rfl dX8_pack_171 rfl ?_
          refine r_aload_n (pc' := 173) C 0 rfl rfl dX8_pack_172 rfl ?_
          refine r_getr (pc' := 176) (k := 22) (r := 33) C fl_X8_30 (by decide) kc_22 (by decide) fr_8_3 RV_22_3 dX8_pack_173 rfl ?_
          refine r_aload_n (pc' := 177) C 0 rfl rfl dX8_pack_176 rfl ?_
          refine r_getr (pc' := 180) (k := 22) (r := 37) C fl_X8_34 (by decide) kc_22 (by decide) fr_8_4 RV_22_4 dX8_pack_177 rfl ?_
          refine c_Vv (pc' := 183) (mt := mX8_tellItems) (as := [.ref (gl_b Y + 33), .ref (gl_b Y + 37)]) (st := []) (k := 22) C h rfl cl_X8_tellItems ml_X8_111 im_X8_tellItems sl_X8_tellItems (by omega) (Nat.le_refl _) (Nat.le_refl _) rfl (by decide) kc_22 (by decide) rfl rfl rfl (Nat.le_of_ble_eq_true rfl) dX8_pack_180 rfl (fun r47 iv48 av49 h => ?_)
          refine r_iincw (pc' := 189) (ls' := [(0, .ref (gl_b Y + 22)), (1, .ref (gl_b Y + k1)), (2, .int (i32 x2)), (3, .int (i32 x3)), (4, .int (i32 x4)), (5, .int (i32 (x5 + 4096))), (6, .int (i32 (min (x5 + 4096) x4))), (7, .int (i32 r28))]) C 5 rfl (by decide) rfl dX8_pack_183 rfl ?_
          refine r_goto (tgt := 40) C dX8_pack_189 (by decide) ?_
          exact Wa.sub [0, 1, 2, 3, 4, 5] rfl h
        · replace h := h.2 c42
          refine r_aload_n (pc' := 153) C 0 rfl rfl dX8_pack_152 rfl ?_
          refine r_aload_n (pc' := 154) C 0 rfl rfl dX8_pack_153 rfl ?_
          refine r_getr (pc' := 157) (k := 22) (r := 45) C fl_X8_40 (by decide) kc_22 (by decide) fr_8_6 RV_22_6 dX8_pack_154 rfl ?_
          refine r_aload_n (pc' := 158) C 0 rfl rfl dX8_pack_157 rfl ?_
          refine r_getr (pc' := 161) (k := 22) (r := 49) C fl_X8_43 (by decide) kc_22 (by decide) fr_8_7 RV_22_7 dX8_pack_158 rfl ?_
          refine c_Vv (pc' := 164) (mt := mX8_tellItems) (as := [.ref (gl_b Y + 45), .ref (gl_b Y + 49)]) (st := []) (k := 22) C h rfl cl_X8_tellItems ml_X8_111 im_X8_tellItems sl_X8_tellItems (by omega) (Nat.le_refl _) (Nat.le_refl _) rfl (by decide) kc_22 (by decide) rfl rfl rfl (Nat.le_of_ble_eq_true rfl) dX8_pack_161 rfl (fun r51 iv52 av53 h => ?_)
          refine r_goto (tgt := 183) C dX8_pack_164 (by decide) ?_
          refine r_iincw (pc' := 189) (ls' := [(0, .ref (gl_b Y + 22)), (1, .ref (gl_b Y + k1)), (2, .int (i32 x2)), (3, .int (i32 x3)), (4, .int (i32 x4)), (5, .int (i32 (x5 + 4096))), (6, .int (i32 (min (x5 + 4096) x4))), (7, .int (i32 r28))]) C 5 rfl (by decide) rfl dX8_pack_183 rfl ?_
          refine r_goto (tgt := 40) C dX8_pack_189 (by decide) ?_
          exact Wa.sub [0, 1, 2, 3, 4, 5] rfl h
      · replace h := h.2 c41
        refine r_aload_n (pc' := 128) C 0 rfl rfl dX8_pack_127 rfl ?_
        refine r_getr (pc' := 131) (k := 22) (r := 57) C fl_X8_64 (by decide) kc_22 (by decide) fr_8_0 RV_22_0 dX8_pack_128 rfl ?_
        refine c_Vv (pc' := 134) (mt := mX0_endByte) (as := []) (st := []) (k := 57) C h rfl cl_X0_endByte ml_X8_105 im_X0_endByte sl_X0_endByte (by omega) (Nat.le_refl _) (Nat.le_refl _) rfl (by decide) kc_57 (by decide) rfl rfl rfl (Nat.le_of_ble_eq_true rfl) dX8_pack_131 rfl (fun r55 iv56 av57 h => ?_)
        refine r_aload_n (pc' := 135) C 0 rfl rfl dX8_pack_134 rfl ?_
        refine r_aload_n (pc' := 136) C 1 rfl rfl dX8_pack_135 rfl ?_
        refine r_iload (pc' := 138) C 5 rfl dX8_pack_136 rfl ?_
        refine r_iload (pc' := 140) C 6 rfl dX8_pack_138 rfl ?_
        refine c_Vv (pc' := 143) (mt := mX8_tellStored) (as := [.ref (gl_b Y + k1), .int (i32 x5), .int (i32 (min (x5 + 4096) x4))]) (st := []) (k := 22) C h rfl cl_X8_tellStored ml_X8_108 im_X8_tellStored sl_X8_tellStored (by omega) (Nat.le_refl _) (Nat.le_refl _) rfl (by decide) kc_22 (by decide) rfl rfl rfl (Nat.le_of_ble_eq_true rfl) dX8_pack_140 rfl (fun r59 iv60 av61 h => ?_)
        refine r_goto (tgt := 183) C dX8_pack_143 (by decide) ?_
        refine r_iincw (pc' := 189) (ls' := [(0, .ref (gl_b Y + 22)), (1, .ref (gl_b Y + k1)), (2, .int (i32 x2)), (3, .int (i32 x3)), (4, .int (i32 x4)), (5, .int (i32 (x5 + 4096))), (6, .int (i32 (min (x5 + 4096) x4))), (7, .int (i32 r28))]) C 5 rfl (by decide) rfl dX8_pack_183 rfl ?_
        refine r_goto (tgt := 40) C dX8_pack_189 (by decide) ?_
        exact Wa.sub [0, 1, 2, 3, 4, 5] rfl h
    · replace h := h.2 c32
      refine r_iconst (pc' := 104) C dX8_pack_103 rfl ?_
      refine r_goto (tgt := 108) C dX8_pack_104 (by decide) ?_
      refine r_iconst (pc' := 109) C dX8_pack_108 rfl ?_
      refine c_Vv (pc' := 112) (mt := mX0_bits) (as := [.int (i32 1), .int (i32 1)]) (st := []) (k := 57) C h rfl cl_X0_bits ml_X8_82 im_X0_bits sl_X0_bits (by omega) (Nat.le_refl _) (Nat.le_refl _) rfl (by decide) kc_57 (by decide) rfl rfl rfl (Nat.le_of_ble_eq_true rfl) dX8_pack_109 rfl (fun r63 iv64 av65 h => ?_)
      refine r_aload_n (pc' := 113) C 0 rfl rfl dX8_pack_112 rfl ?_
      refine r_getr (pc' := 116) (k := 22) (r := 57) C fl_X8_64 (by decide) kc_22 (by decide) fr_8_0 RV_22_0 dX8_pack_113 rfl ?_
      refine r_iload (pc' := 118) C 7 rfl dX8_pack_116 rfl ?_
      refine r_iconst (pc' := 119) C dX8_pack_118 rfl ?_
      refine c_Vv (pc' := 122) (mt := mX0_bits) (as := [.int (i32 r28), .int (i32 2)]) (st := []) (k := 57) C h rfl cl_X0_bits ml_X8_82 im_X0_bits sl_X0_bits (by omega) (Nat.le_refl _) (Nat.le_refl _) rfl (by decide) kc_57 (by decide) rfl rfl rfl (Nat.le_of_ble_eq_true rfl) dX8_pack_119 rfl (fun r67 iv68 av69 h => ?_)
      refine r_iload (pc' := 124) C 7 rfl dX8_pack_122 rfl ?_
      refine r_if_ne (pc' := 127) (tgt := 146) C f31 dX8_pack_124 (by decide) rfl (fun c71 => ?_) (fun c71 => ?_)
      · replace h := h.1 c71
        refine r_iload (pc' := 148) C 7 rfl dX8_pack_146 rfl ?_
        refine r_iconst (pc' := 149) C dX8_pack_148 rfl ?_
        refine r_icmp_ne (pc' := 152) (tgt := 167) C f31 (by decide) dX8_pack_149 (by decide) rfl (fun c72 => ?_) (fun c72 => ?_)
        · replace h := h.1 c72
          refine r_aload_n (pc' := 168) C 0 rfl rfl dX8_pack_167 rfl ?_
          refine c_Vv (pc' := 171) (mt := mX8_tellHeader) (as := []) (st := []) (k := 22) C h rfl cl_X8_tellHeader ml_X8_115 im_X8_tellHeader sl_X8_tellHeader (by omega) (Nat.le_refl _) (Nat.le_refl _) rfl (by decide) kc_22 (by decide) rfl rfl rfl (Nat.le_of_ble_eq_true rfl) dX8_pack_168 rfl (fun r73 iv74 av75 h => ?_)
          refine r_aload_n (pc' := 172) C 0 rfl rfl dX8_pack_171 rfl ?_
          refine r_aload_n (pc' := 173) C 0 rfl rfl dX8_pack_172 rfl ?_
          refine r_getr (pc' := 176) (k := 22) (r := 33) C fl_X8_30 (by decide) kc_22 (by decide) fr_8_3 RV_22_3 dX8_pack_173 rfl ?_
          refine r_aload_n (pc' := 177) C 0 rfl rfl dX8_pack_176 rfl ?_
          refine r_getr (pc' := 180) (k := 22) (r := 37) C fl_X8_34 (by decide) kc_22 (by decide) fr_8_4 RV_22_4 dX8_pack_177 rfl ?_
          refine c_Vv (pc' := 183) (mt := mX8_tellItems) (as := [.ref (gl_b Y + 33), .ref (gl_b Y + 37)]) (st := []) (k := 22) C h rfl cl_X8_tellItems ml_X8_111 im_X8_tellItems sl_X8_tellItems (by omega) (Nat.le_refl _) (Nat.le_refl _) rfl (by decide) kc_22 (by decide) rfl rfl rfl (Nat.le_of_ble_eq_true rfl) dX8_pack_180 rfl (fun r77 iv78 av79 h => ?_)
          refine r_iincw (pc' := 189) (ls' := [(0, .ref (gl_b Y + 22)), (1, .ref (gl_b Y + k1)), (2, .int (i32 x2)), (3, .int (i32 x3)), (4, .int (i32 x4)), (5, .int (i32 (x5 + 4096))), (6, .int (i32 (min (x5 + 4096) x4))), (7, .int (i32 r28))]) C 5 rfl (by decide) rfl dX8_pack_183 rfl ?_
          refine r_goto (tgt := 40) C dX8_pack_189 (by decide) ?_
          exact Wa.sub [0, 1, 2, 3, 4, 5] rfl h
        · replace h := h.2 c72
          refine r_aload_n (pc' := 153) C 0 rfl rfl dX8_pack_152 rfl ?_
          refine r_aload_n (pc' := 154) C 0 rfl rfl dX8_pack_153 rfl ?_
          refine r_getr (pc' := 157) (k := 22) (r := 45) C fl_X8_40 (by decide) kc_22 (by decide) fr_8_6 RV_22_6 dX8_pack_154 rfl ?_
          refine r_aload_n (pc' := 158) C 0 rfl rfl dX8_pack_157 rfl ?_
          refine r_getr (pc' := 161) (k := 22) (r := 49) C fl_X8_43 (by decide) kc_22 (by decide) fr_8_7 RV_22_7 dX8_pack_158 rfl ?_
          refine c_Vv (pc' := 164) (mt := mX8_tellItems) (as := [.ref (gl_b Y + 45), .ref (gl_b Y + 49)]) (st := []) (k := 22) C h rfl cl_X8_tellItems ml_X8_111 im_X8_tellItems sl_X8_tellItems (by omega) (Nat.le_refl _) (Nat.le_refl _) rfl (by decide) kc_22 (by decide) rfl rfl rfl (Nat.le_of_ble_eq_true rfl) dX8_pack_161 rfl (fun r81 iv82 av83 h => ?_)
          refine r_goto (tgt := 183) C dX8_pack_164 (by decide) ?_
          refine r_iincw (pc' := 189) (ls' := [(0, .ref (gl_b Y + 22)), (1, .ref (gl_b Y + k1)), (2, .int (i32 x2)), (3, .int (i32 x3)), (4, .int (i32 x4)), (5, .int (i32 (x5 + 4096))), (6, .int (i32 (min (x5 + 4096) x4))), (7, .int (i32 r28))]) C 5 rfl (by decide) rfl dX8_pack_183 rfl ?_
          refine r_goto (tgt := 40) C dX8_pack_189 (by decide) ?_
          exact Wa.sub [0, 1, 2, 3, 4, 5] rfl h
      · replace h := h.2 c71
        refine r_aload_n (pc' := 128) C 0 rfl rfl dX8_pack_127 rfl ?_
        refine r_getr (pc' := 131) (k := 22) (r := 57) C fl_X8_64 (by decide) kc_22 (by decide) fr_8_0 RV_22_0 dX8_pack_128 rfl ?_
        refine c_Vv (pc' := 134) (mt := mX0_endByte) (as := []) (st := []) (k := 57) C h rfl cl_X0_endByte ml_X8_105 im_X0_endByte sl_X0_endByte (by omega) (Nat.le_refl _) (Nat.le_refl _) rfl (by decide) kc_57 (by decide) rfl rfl rfl (Nat.le_of_ble_eq_true rfl) dX8_pack_131 rfl (fun r85 iv86 av87 h => ?_)
        refine r_aload_n (pc' := 135) C 0 rfl rfl dX8_pack_134 rfl ?_
        refine r_aload_n (pc' := 136) C 1 rfl rfl dX8_pack_135 rfl ?_
        refine r_iload (pc' := 138) C 5 rfl dX8_pack_136 rfl ?_
        refine r_iload (pc' := 140) C 6 rfl dX8_pack_138 rfl ?_
        refine c_Vv (pc' := 143) (mt := mX8_tellStored) (as := [.ref (gl_b Y + k1), .int (i32 x5), .int (i32 (min (x5 + 4096) x4))]) (st := []) (k := 22) C h rfl cl_X8_tellStored ml_X8_108 im_X8_tellStored sl_X8_tellStored (by omega) (Nat.le_refl _) (Nat.le_refl _) rfl (by decide) kc_22 (by decide) rfl rfl rfl (Nat.le_of_ble_eq_true rfl) dX8_pack_140 rfl (fun r89 iv90 av91 h => ?_)
        refine r_goto (tgt := 183) C dX8_pack_143 (by decide) ?_
        refine r_iincw (pc' := 189) (ls' := [(0, .ref (gl_b Y + 22)), (1, .ref (gl_b Y + k1)), (2, .int (i32 x2)), (3, .int (i32 x3)), (4, .int (i32 x4)), (5, .int (i32 (x5 + 4096))), (6, .int (i32 (min (x5 + 4096) x4))), (7, .int (i32 r28))]) C 5 rfl (by decide) rfl dX8_pack_183 rfl ?_
        refine r_goto (tgt := 40) C dX8_pack_189 (by decide) ?_
        exact Wa.sub [0, 1, 2, 3, 4, 5] rfl h
set_option maxHeartbeats 4000000 in
set_option maxRecDepth 100000 in
theorem o_X8_pack {Y : Gl} {e : Nat} {P : PN} {k1 : Nat} {x2 : Int} {x3 : Int} {iv av : IVt} (Kk1 : BytesK k1) (hx2 : InR x2) (hx3 : InR x3) (h : ∀ X : Cx, CX Y X RX8 "pack" cX8_pack 8 none (e + 4) 0 0 →
    OkN Y (e + 3) mX7_begin [.ref (gl_b Y + 23), .int (i32 x2), .int (i32 x3)] RV iv av 116 (fun r1 iv2 av3 =>
      OkN Y (e + 3) mX0_bits [.ref (gl_b Y + 57), .int (i32 120), .int (i32 8)] RV iv2 av3 116 (fun r5 iv6 av7 =>
        OkN Y (e + 3) mX0_bits [.ref (gl_b Y + 57), .int (i32 156), .int (i32 8)] RV iv6 av7 116 (fun r9 iv10 av11 =>
          L_X8_pack_40 Y X P k1 x2 x3 (x2 + x3) x2 iv10 av11
        )
      )
    )) : OkN Y (e + 4) mX8_pack [.ref (gl_b Y + 22), .ref (gl_b Y + k1), .int (i32 x2), .int (i32 x3)] RV iv av 116 P := by
  obtain ⟨hk1c, hk1a, hk1l, hk1r0⟩ := Kk1
  refine OkW.of rfl (by show _ ≤ 8; exact Nat.le_of_ble_eq_true rfl) fun X C0 hR => ?_
  have C : CX Y X RX8 "pack" cX8_pack 8 none (e + 4) 0 0 := C0
  replace h := h X C
  show Wa Y X 8 (g_MQ Y X 0 (g_N RV 116 P) 0 0) 0 0 0 [(0, .ref (gl_b Y + 22)), (1, .ref (gl_b Y + k1)), (2, .int (i32 x2)), (3, .int (i32 x3))] [] RV iv av 116
  refine r_iload_n (pc' := 1) C 2 rfl rfl dX8_pack_0 rfl ?_
  refine r_iload_n (pc' := 2) C 3 rfl rfl dX8_pack_1 rfl ?_
  refine r_iadd (pc' := 3) C dX8_pack_2 rfl ?_
  refine r_istore (pc' := 5) (ls' := [(0, .ref (gl_b Y + 22)), (1, .ref (gl_b Y + k1)), (2, .int (i32 x2)), (3, .int (i32 x3)), (4, .int (i32 (x2 + x3)))]) C (by decide) rfl dX8_pack_3 rfl ?_
  refine r_aload_n (pc' := 6) C 0 rfl rfl dX8_pack_5 rfl ?_
  refine r_getr (pc' := 9) (k := 22) (r := 23) C fl_X8_12 (by decide) kc_22 (by decide) fr_8_1 RV_22_1 dX8_pack_6 rfl ?_
  refine r_iload_n (pc' := 10) C 2 rfl rfl dX8_pack_9 rfl ?_
  refine r_iload_n (pc' := 11) C 3 rfl rfl dX8_pack_10 rfl ?_
  refine c_Vv (pc' := 14) (mt := mX7_begin) (as := [.int (i32 x2), .int (i32 x3)]) (st := []) (k := 23) C h rfl cl_X7_begin ml_X8_79 im_X7_begin sl_X7_begin (by omega) (Nat.le_refl _) (Nat.le_refl _) rfl (by decide) kc_23 (by decide) rfl rfl rfl (Nat.le_of_ble_eq_true rfl) dX8_pack_11 rfl (fun r1 iv2 av3 h => ?_)
  refine r_aload_n (pc' := 15) C 0 rfl rfl dX8_pack_14 rfl ?_
  refine r_getr (pc' := 18) (k := 22) (r := 57) C fl_X8_64 (by decide) kc_22 (by decide) fr_8_0 RV_22_0 dX8_pack_15 rfl ?_
  refine r_bipush (pc' := 20) C dX8_pack_18 (by decide) rfl ?_
  refine r_bipush (pc' := 22) C dX8_pack_20 (by decide) rfl ?_
  refine c_Vv (pc' := 25) (mt := mX0_bits) (as := [.int (i32 120), .int (i32 8)]) (st := []) (k := 57) C h rfl cl_X0_bits ml_X8_82 im_X0_bits sl_X0_bits (by omega) (Nat.le_refl _) (Nat.le_refl _) rfl (by decide) kc_57 (by decide) rfl rfl rfl (Nat.le_of_ble_eq_true rfl) dX8_pack_22 rfl (fun r5 iv6 av7 h => ?_)
  refine r_aload_n (pc' := 26) C 0 rfl rfl dX8_pack_25 rfl ?_
  refine r_getr (pc' := 29) (k := 22) (r := 57) C fl_X8_64 (by decide) kc_22 (by decide) fr_8_0 RV_22_0 dX8_pack_26 rfl ?_
  refine r_sipush (pc' := 32) C dX8_pack_29 (by decide) rfl ?_
  refine r_bipush (pc' := 34) C dX8_pack_32 (by decide) rfl ?_
  refine c_Vv (pc' := 37) (mt := mX0_bits) (as := [.int (i32 156), .int (i32 8)]) (st := []) (k := 57) C h rfl cl_X0_bits ml_X8_82 im_X0_bits sl_X0_bits (by omega) (Nat.le_refl _) (Nat.le_refl _) rfl (by decide) kc_57 (by decide) rfl rfl rfl (Nat.le_of_ble_eq_true rfl) dX8_pack_34 rfl (fun r9 iv10 av11 h => ?_)
  refine r_iload_n (pc' := 38) C 2 rfl rfl dX8_pack_37 rfl ?_
  refine r_istore (pc' := 40) (ls' := [(0, .ref (gl_b Y + 22)), (1, .ref (gl_b Y + k1)), (2, .int (i32 x2)), (3, .int (i32 x3)), (4, .int (i32 (x2 + x3))), (5, .int (i32 x2))]) C (by decide) rfl dX8_pack_38 rfl ?_
  exact Wa.sub [0, 1, 2, 3, 4, 5] rfl h
def L_X8_gather_30 (Y : Gl) (X : Cx) (P : PN) (k1 : Nat) (x3 : Int) (x5 : Int) (iv av : IVt) : Prop := Wa Y X 7 (g_MQ Y X 0 (g_N RV 116 P) 0 0) 0 0 30 [(0, .ref (gl_b Y + 22)), (1, .ref (gl_b Y + k1)), (3, .int (i32 x3)), (5, .int (i32 x5))] [] RV iv av 116
def L_X8_gather_128 (Y : Gl) (X : Cx) (P : PN) (k1 : Nat) (x3 : Int) (x4 : Int) (x5 : Int) (x6 : Int) (iv av : IVt) : Prop := Wa Y X 7 (g_MQ Y X 0 (g_N RV 116 P) 0 0) 0 0 128 [(0, .ref (gl_b Y + 22)), (1, .ref (gl_b Y + k1)), (3, .int (i32 x3)), (4, .int (i32 x4)), (5, .int (i32 x5)), (6, .int (i32 x6))] [] RV iv av 116
set_option maxHeartbeats 4000000 in
set_option maxRecDepth 100000 in
theorem w_X8_gather_128 {Y : Gl} {X : Cx} {e : Nat} {P : PN} {k1 : Nat} {x3 : Int} {x4 : Int} {x5 : Int} {x6 : Int} {iv av : IVt} (C : CX Y X RX8 "gather" cX8_gather 7 none (e + 3) 0 0) (Kk1 : BytesK k1) (hx4 : InR x4) (hx6 : InR x6) (h :
    ((x4 ≤ x6) →
      L_X8_gather_30 Y X P k1 x3 (x5 + x4) iv av
    ) ∧
    ((¬ x4 ≤ x6) →
      (InR (x5 + x6)) ∧
      OkN Y (e + 2) mX7_know [.ref (gl_b Y + 23), .ref (gl_b Y + k1), .int (i32 (x5 + x6))] RV iv av 116 (fun r3 iv4 av5 =>
        L_X8_gather_128 Y X P k1 x3 x4 x5 (x6 + 1) iv4 av5
      )
    )) : L_X8_gather_128 Y X P k1 x3 x4 x5 x6 iv av := by
  obtain ⟨hk1c, hk1a, hk1l, hk1r0⟩ := Kk1
  unfold L_X8_gather_128
  refine r_iload (pc' := 130) C 5 rfl dX8_gather_128 rfl ?_
  refine r_iload (pc' := 132) C 3 rfl dX8_gather_130 rfl ?_
  refine r_icmp_ge (pc' := 135) (tgt := 154) C hx6 hx4 dX8_gather_132 (by decide) rfl (fun c1 => ?_) (fun c1 => ?_)
  · replace h := h.1 c1
    refine r_iload (pc' := 156) C 4 rfl dX8_gather_154 rfl ?_
    refine r_iload (pc' := 158) C 3 rfl dX8_gather_156 rfl ?_
    refine r_iadd (pc' := 159) C dX8_gather_158 rfl ?_
    refine r_istore (pc' := 161) (ls' := [(0, .ref (gl_b Y + 22)), (1, .ref (gl_b Y + k1)), (3, .int (i32 x3)), (4, .int (i32 x4)), (5, .int (i32 (x5 + x4))), (6, .int (i32 x6))]) C (by decide) rfl dX8_gather_159 rfl ?_
    refine r_goto (tgt := 30) C dX8_gather_161 (by decide) ?_
    exact Wa.sub [0, 1, 2, 4] rfl h
  · replace h := h.2 c1
    refine r_aload_n (pc' := 136) C 0 rfl rfl dX8_gather_135 rfl ?_
    refine r_getr (pc' := 139) (k := 22) (r := 23) C fl_X8_12 (by decide) kc_22 (by decide) fr_8_1 RV_22_1 dX8_gather_136 rfl ?_
    refine r_aload_n (pc' := 140) C 1 rfl rfl dX8_gather_139 rfl ?_
    refine r_iload (pc' := 142) C 4 rfl dX8_gather_140 rfl ?_
    refine r_iload (pc' := 144) C 5 rfl dX8_gather_142 rfl ?_
    refine r_iadd (pc' := 145) C dX8_gather_144 rfl ?_
    have o2 := h.1
    replace h := h.2
    refine c_Vv (pc' := 148) (mt := mX7_know) (as := [.ref (gl_b Y + k1), .int (i32 (x5 + x6))]) (st := []) (k := 23) C h rfl cl_X7_know ml_X8_166 im_X7_know sl_X7_know (by omega) (Nat.le_refl _) (Nat.le_refl _) rfl (by decide) kc_23 (by decide) rfl rfl rfl (Nat.le_of_ble_eq_true rfl) dX8_gather_145 rfl (fun r3 iv4 av5 h => ?_)
    refine r_iinc (pc' := 151) (ls' := [(0, .ref (gl_b Y + 22)), (1, .ref (gl_b Y + k1)), (3, .int (i32 x3)), (4, .int (i32 x4)), (5, .int (i32 x5)), (6, .int (i32 (x6 + 1)))]) C 5 rfl (by decide) rfl dX8_gather_148 rfl ?_
    refine r_goto (tgt := 128) C dX8_gather_151 (by decide) ?_
    exact Wa.sub [0, 1, 2, 3, 4, 5] rfl h
set_option maxHeartbeats 4000000 in
set_option maxRecDepth 100000 in
theorem w_X8_gather_30 {Y : Gl} {X : Cx} {e : Nat} {P : PN} {k1 : Nat} {x3 : Int} {x5 : Int} {iv av : IVt} (C : CX Y X RX8 "gather" cX8_gather 7 none (e + 3) 0 0) (Kk1 : BytesK k1) (hx3 : InR x3) (hx5 : InR x5) (h :
    ((x3 ≤ x5) →
      OkN Y (e + 2) mX3_count [.ref (gl_b Y + 33), .int (i32 256)] RV iv av 116 (fun r2 iv3 av4 =>
        P 0 iv3 av4
      )
    ) ∧
    ((¬ x3 ≤ x5) →
      OkN Y (e + 2) mX7_find [.ref (gl_b Y + 23), .ref (gl_b Y + k1), .int (i32 x5), .int (i32 x3)] RV iv av 116 (fun r6 iv7 av8 =>
        (InR r6) →
        ((r6 = 0) →
          OkN Y (e + 2) mX2_at [.ref (gl_b Y + k1), .int (i32 x5)] RV iv7 av8 116 (fun r11 iv12 av13 =>
            (InR r11) →
            OkN Y (e + 2) mX8_addItem [.ref (gl_b Y + 22), .int (i32 r11), .int (i32 0)] RV iv12 av13 116 (fun r15 iv16 av17 =>
              OkN Y (e + 2) mX2_at [.ref (gl_b Y + k1), .int (i32 x5)] RV iv16 av17 116 (fun r19 iv20 av21 =>
                (InR r19) →
                OkN Y (e + 2) mX3_count [.ref (gl_b Y + 33), .int (i32 r19)] RV iv20 av21 116 (fun r23 iv24 av25 =>
                  L_X8_gather_128 Y X P k1 x3 1 x5 0 iv24 av25
                )
              )
            )
          )
        ) ∧
        ((¬ r6 = 0) →
          OkN Y (e + 2) mX7_length [.ref (gl_b Y + 23)] RV iv7 av8 116 (fun r27 iv28 av29 =>
            (InR r27) →
            OkN Y (e + 2) mX7_distance [.ref (gl_b Y + 23)] RV iv28 av29 116 (fun r31 iv32 av33 =>
              (InR r31) →
              OkN Y (e + 2) mX8_addItem [.ref (gl_b Y + 22), .int (i32 (max r27 1)), .int (i32 r31)] RV iv32 av33 116 (fun r35 iv36 av37 =>
                OkN Y (e + 2) mX11_lengthSymbol [.int (i32 (max r27 1))] RV iv36 av37 116 (fun r39 iv40 av41 =>
                  (InR r39) →
                  OkN Y (e + 2) mX7_distance [.ref (gl_b Y + 23)] RV iv40 av41 116 (fun r43 iv44 av45 =>
                    (InR r43) →
                    OkN Y (e + 2) mX11_distanceSymbol [.int (i32 r43)] RV iv44 av45 116 (fun r47 iv48 av49 =>
                      (InR r47) →
                      OkN Y (e + 2) mX8_countMatch [.ref (gl_b Y + 22), .int (i32 r39), .int (i32 r47)] RV iv48 av49 116 (fun r51 iv52 av53 =>
                        L_X8_gather_128 Y X P k1 x3 (max r27 1) x5 0 iv52 av53
                      )
                    )
                  )
                )
              )
            )
          )
        )
      )
    )) : L_X8_gather_30 Y X P k1 x3 x5 iv av := by
  obtain ⟨hk1c, hk1a, hk1l, hk1r0⟩ := Kk1
  unfold L_X8_gather_30
  refine r_iload (pc' := 32) C 3 rfl dX8_gather_30 rfl ?_
  refine r_iload_n (pc' := 33) C 2 rfl rfl dX8_gather_32 rfl ?_
  refine r_icmp_ge (pc' := 36) (tgt := 164) C hx5 hx3 dX8_gather_33 (by decide) rfl (fun c1 => ?_) (fun c1 => ?_)
  · replace h := h.1 c1
    refine r_aload_n (pc' := 165) C 0 rfl rfl dX8_gather_164 rfl ?_
    refine r_getr (pc' := 168) (k := 22) (r := 33) C fl_X8_30 (by decide) kc_22 (by decide) fr_8_3 RV_22_3 dX8_gather_165 rfl ?_
    refine r_sipush (pc' := 171) C dX8_gather_168 (by decide) rfl ?_
    refine c_Vv (pc' := 174) (mt := mX3_count) (as := [.int (i32 256)]) (st := []) (k := 33) C h rfl cl_X3_count ml_X8_163 im_X3_count sl_X3_count (by omega) (Nat.le_refl _) (Nat.le_refl _) rfl (by decide) kc_33 (by decide) rfl rfl rfl (Nat.le_of_ble_eq_true rfl) dX8_gather_171 rfl (fun r2 iv3 av4 h => ?_)
    exact r_vret C ⟨rfl, rfl, h⟩ dX8_gather_174
  · replace h := h.2 c1
    refine r_aload_n (pc' := 37) C 0 rfl rfl dX8_gather_36 rfl ?_
    refine r_getr (pc' := 40) (k := 22) (r := 23) C fl_X8_12 (by decide) kc_22 (by decide) fr_8_1 RV_22_1 dX8_gather_37 rfl ?_
    refine r_aload_n (pc' := 41) C 1 rfl rfl dX8_gather_40 rfl ?_
    refine r_iload (pc' := 43) C 3 rfl dX8_gather_41 rfl ?_
    refine r_iload_n (pc' := 44) C 2 rfl rfl dX8_gather_43 rfl ?_
    refine c_Vi (pc' := 47) (mt := mX7_find) (as := [.ref (gl_b Y + k1), .int (i32 x5), .int (i32 x3)]) (st := []) (k := 23) C h rfl cl_X7_find ml_X8_132 im_X7_find sl_X7_find (by omega) (Nat.le_refl _) (Nat.le_refl _) rfl (by decide) kc_23 (by decide) rfl rfl rfl (Nat.le_of_ble_eq_true rfl) dX8_gather_44 rfl (fun r6 iv7 av8 f9 h => ?_)
    replace h := h f9
    refine r_if_eq (pc' := 50) (tgt := 98) C f9 dX8_gather_47 (by decide) rfl (fun c10 => ?_) (fun c10 => ?_)
    · replace h := h.1 c10
      refine r_iconst (pc' := 99) C dX8_gather_98 rfl ?_
      refine r_istore (pc' := 101) (ls' := [(0, .ref (gl_b Y + 22)), (1, .ref (gl_b Y + k1)), (3, .int (i32 x3)), (4, .int (i32 1)), (5, .int (i32 x5))]) C (by decide) rfl dX8_gather_99 rfl ?_
      refine r_aload_n (pc' := 102) C 0 rfl rfl dX8_gather_101 rfl ?_
      refine r_aload_n (pc' := 103) C 1 rfl rfl dX8_gather_102 rfl ?_
      refine r_iload (pc' := 105) C 4 rfl dX8_gather_103 rfl ?_
      refine c_Vi (pc' := 108) (mt := mX2_at) (as := [.int (i32 x5)]) (st := [.ref (gl_b Y + 22)]) (k := k1) C h rfl cl_X2_at ml_X8_158 im_X2_at sl_X2_at (by omega) (Nat.le_refl _) (Nat.le_refl _) rfl (by omega) hk1c (by decide) rfl rfl rfl (Nat.le_of_ble_eq_true rfl) dX8_gather_105 rfl (fun r11 iv12 av13 f14 h => ?_)
      replace h := h f14
      refine r_iconst (pc' := 109) C dX8_gather_108 rfl ?_
      refine c_Vv (pc' := 112) (mt := mX8_addItem) (as := [.int (i32 r11), .int (i32 0)]) (st := []) (k := 22) C h rfl cl_X8_addItem ml_X8_146 im_X8_addItem sl_X8_addItem (by omega) (Nat.le_refl _) (Nat.le_refl _) rfl (by decide) kc_22 (by decide) rfl rfl rfl (Nat.le_of_ble_eq_true rfl) dX8_gather_109 rfl (fun r15 iv16 av17 h => ?_)
      refine r_aload_n (pc' := 113) C 0 rfl rfl dX8_gather_112 rfl ?_
      refine r_getr (pc' := 116) (k := 22) (r := 33) C fl_X8_30 (by decide) kc_22 (by decide) fr_8_3 RV_22_3 dX8_gather_113 rfl ?_
      refine r_aload_n (pc' := 117) C 1 rfl rfl dX8_gather_116 rfl ?_
      refine r_iload (pc' := 119) C 4 rfl dX8_gather_117 rfl ?_
      refine c_Vi (pc' := 122) (mt := mX2_at) (as := [.int (i32 x5)]) (st := [.ref (gl_b Y + 33)]) (k := k1) C h rfl cl_X2_at ml_X8_158 im_X2_at sl_X2_at (by omega) (Nat.le_refl _) (Nat.le_refl _) rfl (by omega) hk1c (by decide) rfl rfl rfl (Nat.le_of_ble_eq_true rfl) dX8_gather_119 rfl (fun r19 iv20 av21 f22 h => ?_)
      replace h := h f22
      refine c_Vv (pc' := 125) (mt := mX3_count) (as := [.int (i32 r19)]) (st := []) (k := 33) C h rfl cl_X3_count ml_X8_163 im_X3_count sl_X3_count (by omega) (Nat.le_refl _) (Nat.le_refl _) rfl (by decide) kc_33 (by decide) rfl rfl rfl (Nat.le_of_ble_eq_true rfl) dX8_gather_122 rfl (fun r23 iv24 av25 h => ?_)
      refine r_iconst (pc' := 126) C dX8_gather_125 rfl ?_
      refine r_istore (pc' := 128) (ls' := [(0, .ref (gl_b Y + 22)), (1, .ref (gl_b Y + k1)), (3, .int (i32 x3)), (4, .int (i32 1)), (5, .int (i32 x5)), (6, .int (i32 0))]) C (by decide) rfl dX8_gather_126 rfl ?_
      exact Wa.sub [0, 1, 2, 3, 4, 5] rfl h
    · replace h := h.2 c10
      refine r_aload_n (pc' := 51) C 0 rfl rfl dX8_gather_50 rfl ?_
      refine r_getr (pc' := 54) (k := 22) (r := 23) C fl_X8_12 (by decide) kc_22 (by decide) fr_8_1 RV_22_1 dX8_gather_51 rfl ?_
      refine c_Vi (pc' := 57) (mt := mX7_length) (as := []) (st := []) (k := 23) C h rfl cl_X7_length ml_X8_136 im_X7_length sl_X7_length (by omega) (Nat.le_refl _) (Nat.le_refl _) rfl (by decide) kc_23 (by decide) rfl rfl rfl (Nat.le_of_ble_eq_true rfl) dX8_gather_54 rfl (fun r27 iv28 av29 f30 h => ?_)
      replace h := h f30
      refine r_iconst (pc' := 58) C dX8_gather_57 rfl ?_
      refine r_max (pc' := 61) C ml_X8_140 wd_max_s wd_math wd_max_c (by omega) (Nat.le_of_ble_eq_true rfl) (Nat.le_refl _) (Nat.le_refl _) f30 (by decide) dX8_gather_58 rfl ?_
      refine r_istore (pc' := 63) (ls' := [(0, .ref (gl_b Y + 22)), (1, .ref (gl_b Y + k1)), (3, .int (i32 x3)), (4, .int (i32 (max r27 1))), (5, .int (i32 x5))]) C (by decide) rfl dX8_gather_61 rfl ?_
      refine r_aload_n (pc' := 64) C 0 rfl rfl dX8_gather_63 rfl ?_
      refine r_iload (pc' := 66) C 3 rfl dX8_gather_64 rfl ?_
      refine r_aload_n (pc' := 67) C 0 rfl rfl dX8_gather_66 rfl ?_
      refine r_getr (pc' := 70) (k := 22) (r := 23) C fl_X8_12 (by decide) kc_22 (by decide) fr_8_1 RV_22_1 dX8_gather_67 rfl ?_
      refine c_Vi (pc' := 73) (mt := mX7_distance) (as := []) (st := [.int (i32 (max r27 1)), .ref (gl_b Y + 22)]) (k := 23) C h rfl cl_X7_distance ml_X8_143 im_X7_distance sl_X7_distance (by omega) (Nat.le_refl _) (Nat.le_refl _) rfl (by decide) kc_23 (by decide) rfl rfl rfl (Nat.le_of_ble_eq_true rfl) dX8_gather_70 rfl (fun r31 iv32 av33 f34 h => ?_)
      replace h := h f34
      refine c_Vv (pc' := 76) (mt := mX8_addItem) (as := [.int (i32 (max r27 1)), .int (i32 r31)]) (st := []) (k := 22) C h rfl cl_X8_addItem ml_X8_146 im_X8_addItem sl_X8_addItem (by omega) (Nat.le_refl _) (Nat.le_refl _) rfl (by decide) kc_22 (by decide) rfl rfl rfl (Nat.le_of_ble_eq_true rfl) dX8_gather_73 rfl (fun r35 iv36 av37 h => ?_)
      refine r_aload_n (pc' := 77) C 0 rfl rfl dX8_gather_76 rfl ?_
      refine r_iload (pc' := 79) C 3 rfl dX8_gather_77 rfl ?_
      refine c_SNi (pc' := 82) (mt := mX11_lengthSymbol) (as := [.int (i32 (max r27 1))]) (st := [.ref (gl_b Y + 22)]) C h rfl cl_X11_lengthSymbol nl_X8_149 sm_X11_lengthSymbol (by omega) (Nat.le_refl _) (Nat.le_refl _) rfl rfl (Nat.le_of_ble_eq_true rfl) dX8_gather_79 rfl (fun r39 iv40 av41 f42 h => ?_)
      replace h := h f42
      refine r_aload_n (pc' := 83) C 0 rfl rfl dX8_gather_82 rfl ?_
      refine r_getr (pc' := 86) (k := 22) (r := 23) C fl_X8_12 (by decide) kc_22 (by decide) fr_8_1 RV_22_1 dX8_gather_83 rfl ?_
      refine c_Vi (pc' := 89) (mt := mX7_distance) (as := []) (st := [.int (i32 r39), .ref (gl_b Y + 22)]) (k := 23) C h rfl cl_X7_distance ml_X8_143 im_X7_distance sl_X7_distance (by omega) (Nat.le_refl _) (Nat.le_refl _) rfl (by decide) kc_23 (by decide) rfl rfl rfl (Nat.le_of_ble_eq_true rfl) dX8_gather_86 rfl (fun r43 iv44 av45 f46 h => ?_)
      replace h := h f46
      refine c_SNi (pc' := 92) (mt := mX11_distanceSymbol) (as := [.int (i32 r43)]) (st := [.int (i32 r39), .ref (gl_b Y + 22)]) C h rfl cl_X11_distanceSymbol nl_X8_152 sm_X11_distanceSymbol (by omega) (Nat.le_refl _) (Nat.le_refl _) rfl rfl (Nat.le_of_ble_eq_true rfl) dX8_gather_89 rfl (fun r47 iv48 av49 f50 h => ?_)
      replace h := h f50
      refine c_Vv (pc' := 95) (mt := mX8_countMatch) (as := [.int (i32 r39), .int (i32 r47)]) (st := []) (k := 22) C h rfl cl_X8_countMatch ml_X8_155 im_X8_countMatch sl_X8_countMatch (by omega) (Nat.le_refl _) (Nat.le_refl _) rfl (by decide) kc_22 (by decide) rfl rfl rfl (Nat.le_of_ble_eq_true rfl) dX8_gather_92 rfl (fun r51 iv52 av53 h => ?_)
      refine r_goto (tgt := 125) C dX8_gather_95 (by decide) ?_
      refine r_iconst (pc' := 126) C dX8_gather_125 rfl ?_
      refine r_istore (pc' := 128) (ls' := [(0, .ref (gl_b Y + 22)), (1, .ref (gl_b Y + k1)), (3, .int (i32 x3)), (4, .int (i32 (max r27 1))), (5, .int (i32 x5)), (6, .int (i32 0))]) C (by decide) rfl dX8_gather_126 rfl ?_
      exact Wa.sub [0, 1, 2, 3, 4, 5] rfl h
set_option maxHeartbeats 4000000 in
set_option maxRecDepth 100000 in
theorem o_X8_gather {Y : Gl} {e : Nat} {P : PN} {k1 : Nat} {x2 : Int} {x3 : Int} {iv av : IVt} (Kk1 : BytesK k1) (h : ∀ X : Cx, CX Y X RX8 "gather" cX8_gather 7 none (e + 3) 0 0 →
    OkN Y (e + 2) mX3_forget [.ref (gl_b Y + 33)] RV (up2 (up2 iv 22 10 0) 22 11 0) av 116 (fun r1 iv2 av3 =>
      OkN Y (e + 2) mX3_forget [.ref (gl_b Y + 37)] RV iv2 av3 116 (fun r5 iv6 av7 =>
        L_X8_gather_30 Y X P k1 x3 x2 iv6 av7
      )
    )) : OkN Y (e + 3) mX8_gather [.ref (gl_b Y + 22), .ref (gl_b Y + k1), .int (i32 x2), .int (i32 x3)] RV iv av 116 P := by
  obtain ⟨hk1c, hk1a, hk1l, hk1r0⟩ := Kk1
  refine OkW.of rfl (by show _ ≤ 7; exact Nat.le_of_ble_eq_true rfl) fun X C0 hR => ?_
  have C : CX Y X RX8 "gather" cX8_gather 7 none (e + 3) 0 0 := C0
  replace h := h X C
  show Wa Y X 7 (g_MQ Y X 0 (g_N RV 116 P) 0 0) 0 0 0 [(0, .ref (gl_b Y + 22)), (1, .ref (gl_b Y + k1)), (2, .int (i32 x2)), (3, .int (i32 x3))] [] RV iv av 116
  refine r_aload_n (pc' := 1) C 0 rfl rfl dX8_gather_0 rfl ?_
  refine r_iconst (pc' := 2) C dX8_gather_1 rfl ?_
  refine r_puti (pc' := 5) (k := 22) C fl_X8_122 (by decide) kc_22 (by decide) fr_8_10 (by decide) dX8_gather_2 rfl ?_
  refine r_aload_n (pc' := 6) C 0 rfl rfl dX8_gather_5 rfl ?_
  refine r_iconst (pc' := 7) C dX8_gather_6 rfl ?_
  refine r_puti (pc' := 10) (k := 22) C fl_X8_126 (by decide) kc_22 (by decide) fr_8_11 (by decide) dX8_gather_7 rfl ?_
  refine r_aload_n (pc' := 11) C 0 rfl rfl dX8_gather_10 rfl ?_
  refine r_getr (pc' := 14) (k := 22) (r := 33) C fl_X8_30 (by decide) kc_22 (by decide) fr_8_3 RV_22_3 dX8_gather_11 rfl ?_
  refine c_Vv (pc' := 17) (mt := mX3_forget) (as := []) (st := []) (k := 33) C h rfl cl_X3_forget ml_X8_129 im_X3_forget sl_X3_forget (by omega) (Nat.le_refl _) (Nat.le_refl _) rfl (by decide) kc_33 (by decide) rfl rfl rfl (Nat.le_of_ble_eq_true rfl) dX8_gather_14 rfl (fun r1 iv2 av3 h => ?_)
  refine r_aload_n (pc' := 18) C 0 rfl rfl dX8_gather_17 rfl ?_
  refine r_getr (pc' := 21) (k := 22) (r := 37) C fl_X8_34 (by decide) kc_22 (by decide) fr_8_4 RV_22_4 dX8_gather_18 rfl ?_
  refine c_Vv (pc' := 24) (mt := mX3_forget) (as := []) (st := []) (k := 37) C h rfl cl_X3_forget ml_X8_129 im_X3_forget sl_X3_forget (by omega) (Nat.le_refl _) (Nat.le_refl _) rfl (by decide) kc_37 (by decide) rfl rfl rfl (Nat.le_of_ble_eq_true rfl) dX8_gather_21 rfl (fun r5 iv6 av7 h => ?_)
  refine r_iconst (pc' := 25) C dX8_gather_24 rfl ?_
  refine r_istore (pc' := 27) (ls' := [(0, .ref (gl_b Y + 22)), (1, .ref (gl_b Y + k1)), (2, .int (i32 x2)), (3, .int (i32 x3)), (4, .int (i32 1))]) C (by decide) rfl dX8_gather_25 rfl ?_
  refine r_iload_n (pc' := 28) C 2 rfl rfl dX8_gather_27 rfl ?_
  refine r_istore (pc' := 30) (ls' := [(0, .ref (gl_b Y + 22)), (1, .ref (gl_b Y + k1)), (2, .int (i32 x2)), (3, .int (i32 x3)), (4, .int (i32 1)), (5, .int (i32 x2))]) C (by decide) rfl dX8_gather_28 rfl ?_
  exact Wa.sub [0, 1, 3, 5] rfl h
set_option maxHeartbeats 4000000 in
set_option maxRecDepth 100000 in
theorem o_X8_addItem {Y : Gl} {e : Nat} {P : PN} {x1 : Int} {x2 : Int} {iv av : IVt} (hx1 : InR x1) (hx2 : InR x2) (h : 
    ((InR (iv 22 10)) →
      (((iv 22 10) < 0) →
        P 0 iv av
      ) ∧
      ((¬ (iv 22 10) < 0) →
        ((4096 ≤ (iv 22 10)) →
          P 0 iv av
        ) ∧
        ((¬ 4096 ≤ (iv 22 10)) →
          ((4096 ≤ (iv 22 10)) →
            P 0 iv av
          ) ∧
          ((¬ 4096 ≤ (iv 22 10)) →
            (0 ≤ (iv 22 10) ∧ (iv 22 10) < 4096) ∧
            (InR ((iv 22 10) + 1)) ∧
            P 0 (up2 iv 22 10 ((iv 22 10) + 1)) (up2 (up2 av 53 ((iv 22 10).toNat) x1) 54 ((iv 22 10).toNat) x2)
          )
        )
      )
    )) : OkN Y e mX8_addItem [.ref (gl_b Y + 22), .int (i32 x1), .int (i32 x2)] RV iv av 116 P := by
  refine OkW.of rfl (by show _ ≤ 3; exact Nat.le_of_ble_eq_true rfl) fun X C0 hR => ?_
  have C : CX Y X RX8 "addItem" cX8_addItem 3 none e 0 0 := C0
  show Wa Y X 3 (g_MQ Y X 0 (g_N RV 116 P) 0 0) 0 0 0 [(0, .ref (gl_b Y + 22)), (1, .int (i32 x1)), (2, .int (i32 x2))] [] RV iv av 116
  refine r_aload_n (pc' := 1) C 0 rfl rfl dX8_addItem_0 rfl ?_
  refine r_geti (pc' := 4) (k := 22) C fl_X8_122 (by decide) kc_22 (by decide) fr_8_10 dX8_addItem_1 rfl (fun f1 => ?_)
  replace h := h f1
  refine r_if_lt (pc' := 7) (tgt := 61) C f1 dX8_addItem_4 (by decide) rfl (fun c2 => ?_) (fun c2 => ?_)
  · replace h := h.1 c2
    exact r_vret C ⟨rfl, rfl, h⟩ dX8_addItem_61
  · replace h := h.2 c2
    refine r_aload_n (pc' := 8) C 0 rfl rfl dX8_addItem_7 rfl ?_
    refine r_geti (pc' := 11) (k := 22) C fl_X8_122 (by decide) kc_22 (by decide) fr_8_10 dX8_addItem_8 rfl (fun f3 => ?_)
    refine r_aload_n (pc' := 12) C 0 rfl rfl dX8_addItem_11 rfl ?_
    refine r_getr (pc' := 15) (k := 22) (r := 53) C fl_X8_46 (by decide) kc_22 (by decide) fr_8_8 RV_22_8 dX8_addItem_12 rfl ?_
    refine r_alen (pc' := 16) (k := 53) (v := 4096) C (by decide) kc_53 (by decide) (by rw [kl_53]; rfl) dX8_addItem_15 rfl ?_
    refine r_icmp_ge (pc' := 19) (tgt := 61) C f1 (by decide) dX8_addItem_16 (by decide) rfl (fun c4 => ?_) (fun c4 => ?_)
    · replace h := h.1 c4
      exact r_vret C ⟨rfl, rfl, h⟩ dX8_addItem_61
    · replace h := h.2 c4
      refine r_aload_n (pc' := 20) C 0 rfl rfl dX8_addItem_19 rfl ?_
      refine r_geti (pc' := 23) (k := 22) C fl_X8_122 (by decide) kc_22 (by decide) fr_8_10 dX8_addItem_20 rfl (fun f5 => ?_)
      refine r_aload_n (pc' := 24) C 0 rfl rfl dX8_addItem_23 rfl ?_
      refine r_getr (pc' := 27) (k := 22) (r := 54) C fl_X8_50 (by decide) kc_22 (by decide) fr_8_9 RV_22_9 dX8_addItem_24 rfl ?_
      refine r_alen (pc' := 28) (k := 54) (v := 4096) C (by decide) kc_54 (by decide) (by rw [kl_54]; rfl) dX8_addItem_27 rfl ?_
      refine r_icmp_ge (pc' := 31) (tgt := 61) C f1 (by decide) dX8_addItem_28 (by decide) rfl (fun c6 => ?_) (fun c6 => ?_)
      · replace h := h.1 c6
        exact r_vret C ⟨rfl, rfl, h⟩ dX8_addItem_61
      · replace h := h.2 c6
        refine r_aload_n (pc' := 32) C 0 rfl rfl dX8_addItem_31 rfl ?_
        refine r_getr (pc' := 35) (k := 22) (r := 53) C fl_X8_46 (by decide) kc_22 (by decide) fr_8_8 RV_22_8 dX8_addItem_32 rfl ?_
        refine r_aload_n (pc' := 36) C 0 rfl rfl dX8_addItem_35 rfl ?_
        refine r_geti (pc' := 39) (k := 22) C fl_X8_122 (by decide) kc_22 (by decide) fr_8_10 dX8_addItem_36 rfl (fun f7 => ?_)
        refine r_iload_n (pc' := 40) C 1 rfl rfl dX8_addItem_39 rfl ?_
        have o8 := h.1
        replace h := h.2
        refine r_iast (pc' := 41) (k := 53) C (by decide) kc_53 (by have := kl_53; omega) hx1 dX8_addItem_40 rfl ?_
        refine r_aload_n (pc' := 42) C 0 rfl rfl dX8_addItem_41 rfl ?_
        refine r_getr (pc' := 45) (k := 22) (r := 54) C fl_X8_50 (by decide) kc_22 (by decide) fr_8_9 RV_22_9 dX8_addItem_42 rfl ?_
        refine r_aload_n (pc' := 46) C 0 rfl rfl dX8_addItem_45 rfl ?_
        refine r_geti (pc' := 49) (k := 22) C fl_X8_122 (by decide) kc_22 (by decide) fr_8_10 dX8_addItem_46 rfl (fun f9 => ?_)
        refine r_iload_n (pc' := 50) C 2 rfl rfl dX8_addItem_49 rfl ?_
        refine r_iast (pc' := 51) (k := 54) C (by decide) kc_54 (by have := kl_54; omega) hx2 dX8_addItem_50 rfl ?_
        refine r_aload_n (pc' := 52) C 0 rfl rfl dX8_addItem_51 rfl ?_
        refine r_dup (pc' := 53) C rfl dX8_addItem_52 rfl ?_
        refine r_geti (pc' := 56) (k := 22) C fl_X8_122 (by decide) kc_22 (by decide) fr_8_10 dX8_addItem_53 rfl (fun f10 => ?_)
        refine r_iconst (pc' := 57) C dX8_addItem_56 rfl ?_
        refine r_iadd (pc' := 58) C dX8_addItem_57 rfl ?_
        have o11 := h.1
        replace h := h.2
        refine r_puti (pc' := 61) (k := 22) C fl_X8_122 (by decide) kc_22 (by decide) fr_8_10 o11 dX8_addItem_58 rfl ?_
        exact r_vret C ⟨rfl, rfl, h⟩ dX8_addItem_61
set_option maxHeartbeats 4000000 in
set_option maxRecDepth 100000 in
theorem o_X8_countMatch {Y : Gl} {e : Nat} {P : PN} {x1 : Int} {x2 : Int} {iv av : IVt} (hx1 : InR x1) (hx2 : InR x2) (h : 
    OkN Y e mX3_count [.ref (gl_b Y + 33), .int (i32 x1)] RV iv av 116 (fun r1 iv2 av3 =>
      OkN Y e mX3_count [.ref (gl_b Y + 37), .int (i32 x2)] RV iv2 av3 116 (fun r5 iv6 av7 =>
        ((InR (iv6 22 11)) →
          OkN Y e mX11_lengthBits [.int (i32 x1)] RV iv6 av7 116 (fun r10 iv11 av12 =>
            (InR r10) →
            OkN Y e mX11_distanceBits [.int (i32 x2)] RV iv11 av12 116 (fun r14 iv15 av16 =>
              (InR r14) →
              (InR ((iv6 22 11) + (r10 + r14))) ∧
              P 0 (up2 iv15 22 11 ((iv6 22 11) + (r10 + r14))) av16
            )
          )
        )
      )
    )) : OkN Y (e + 1) mX8_countMatch [.ref (gl_b Y + 22), .int (i32 x1), .int (i32 x2)] RV iv av 116 P := by
  refine OkW.of rfl (by show _ ≤ 3; exact Nat.le_of_ble_eq_true rfl) fun X C0 hR => ?_
  have C : CX Y X RX8 "countMatch" cX8_countMatch 3 none (e + 1) 0 0 := C0
  show Wa Y X 3 (g_MQ Y X 0 (g_N RV 116 P) 0 0) 0 0 0 [(0, .ref (gl_b Y + 22)), (1, .int (i32 x1)), (2, .int (i32 x2))] [] RV iv av 116
  refine r_aload_n (pc' := 1) C 0 rfl rfl dX8_countMatch_0 rfl ?_
  refine r_getr (pc' := 4) (k := 22) (r := 33) C fl_X8_30 (by decide) kc_22 (by decide) fr_8_3 RV_22_3 dX8_countMatch_1 rfl ?_
  refine r_iload_n (pc' := 5) C 1 rfl rfl dX8_countMatch_4 rfl ?_
  refine c_Vv (pc' := 8) (mt := mX3_count) (as := [.int (i32 x1)]) (st := []) (k := 33) C h rfl cl_X3_count ml_X8_163 im_X3_count sl_X3_count (by omega) (Nat.le_refl _) (Nat.le_refl _) rfl (by decide) kc_33 (by decide) rfl rfl rfl (Nat.le_of_ble_eq_true rfl) dX8_countMatch_5 rfl (fun r1 iv2 av3 h => ?_)
  refine r_aload_n (pc' := 9) C 0 rfl rfl dX8_countMatch_8 rfl ?_
  refine r_getr (pc' := 12) (k := 22) (r := 37) C fl_X8_34 (by decide) kc_22 (by decide) fr_8_4 RV_22_4 dX8_countMatch_9 rfl ?_
  refine r_iload_n (pc' := 13) C 2 rfl rfl dX8_countMatch_12 rfl ?_
  refine c_Vv (pc' := 16) (mt := mX3_count) (as := [.int (i32 x2)]) (st := []) (k := 37) C h rfl cl_X3_count ml_X8_163 im_X3_count sl_X3_count (by omega) (Nat.le_refl _) (Nat.le_refl _) rfl (by decide) kc_37 (by decide) rfl rfl rfl (Nat.le_of_ble_eq_true rfl) dX8_countMatch_13 rfl (fun r5 iv6 av7 h => ?_)
  refine r_aload_n (pc' := 17) C 0 rfl rfl dX8_countMatch_16 rfl ?_
  refine r_dup (pc' := 18) C rfl dX8_countMatch_17 rfl ?_
  refine r_geti (pc' := 21) (k := 22) C fl_X8_126 (by decide) kc_22 (by decide) fr_8_11 dX8_countMatch_18 rfl (fun f9 => ?_)
  replace h := h f9
  refine r_iload_n (pc' := 22) C 1 rfl rfl dX8_countMatch_21 rfl ?_
  refine c_SNi (pc' := 25) (mt := mX11_lengthBits) (as := [.int (i32 x1)]) (st := [.int (i32 (iv6 22 11)), .ref (gl_b Y + 22)]) C h rfl cl_X11_lengthBits nl_X8_170 sm_X11_lengthBits (by omega) (Nat.le_refl _) (Nat.le_refl _) rfl rfl (Nat.le_of_ble_eq_true rfl) dX8_countMatch_22 rfl (fun r10 iv11 av12 f13 h => ?_)
  replace h := h f13
  refine r_iload_n (pc' := 26) C 2 rfl rfl dX8_countMatch_25 rfl ?_
  refine c_SNi (pc' := 29) (mt := mX11_distanceBits) (as := [.int (i32 x2)]) (st := [.int (i32 r10), .int (i32 (iv6 22 11)), .ref (gl_b Y + 22)]) C h rfl cl_X11_distanceBits nl_X8_173 sm_X11_distanceBits (by omega) (Nat.le_refl _) (Nat.le_refl _) rfl rfl (Nat.le_of_ble_eq_true rfl) dX8_countMatch_26 rfl (fun r14 iv15 av16 f17 h => ?_)
  replace h := h f17
  refine r_iadd (pc' := 30) C dX8_countMatch_29 rfl ?_
  refine r_iadd (pc' := 31) C dX8_countMatch_30 rfl ?_
  have o18 := h.1
  replace h := h.2
  refine r_puti (pc' := 34) (k := 22) C fl_X8_126 (by decide) kc_22 (by decide) fr_8_11 o18 dX8_countMatch_31 rfl ?_
  exact r_vret C ⟨rfl, rfl, h⟩ dX8_countMatch_34
set_option maxHeartbeats 4000000 in
set_option maxRecDepth 100000 in
theorem o_X8_makeCodes {Y : Gl} {e : Nat} {P : PN} {iv av : IVt} (h : 
    OkN Y (e + 2) mX6_make [.ref (gl_b Y + 26), .ref (gl_b Y + 33), .int (i32 15)] RV iv av 116 (fun r1 iv2 av3 =>
      OkN Y (e + 2) mX6_make [.ref (gl_b Y + 26), .ref (gl_b Y + 37), .int (i32 15)] RV iv2 av3 116 (fun r5 iv6 av7 =>
        OkN Y (e + 2) mX3_makeCodes [.ref (gl_b Y + 33)] RV iv6 av7 116 (fun r9 iv10 av11 =>
          OkN Y (e + 2) mX3_makeCodes [.ref (gl_b Y + 37)] RV iv10 av11 116 (fun r13 iv14 av15 =>
            P 0 iv14 av15
          )
        )
      )
    )) : OkN Y (e + 3) mX8_makeCodes [.ref (gl_b Y + 22)] RV iv av 116 P := by
  refine OkW.of rfl (by show _ ≤ 1; exact Nat.le_of_ble_eq_true rfl) fun X C0 hR => ?_
  have C : CX Y X RX8 "makeCodes" cX8_makeCodes 1 none (e + 3) 0 0 := C0
  show Wa Y X 1 (g_MQ Y X 0 (g_N RV 116 P) 0 0) 0 0 0 [(0, .ref (gl_b Y + 22))] [] RV iv av 116
  refine r_aload_n (pc' := 1) C 0 rfl rfl dX8_makeCodes_0 rfl ?_
  refine r_getr (pc' := 4) (k := 22) (r := 26) C fl_X8_21 (by decide) kc_22 (by decide) fr_8_2 RV_22_2 dX8_makeCodes_1 rfl ?_
  refine r_aload_n (pc' := 5) C 0 rfl rfl dX8_makeCodes_4 rfl ?_
  refine r_getr (pc' := 8) (k := 22) (r := 33) C fl_X8_30 (by decide) kc_22 (by decide) fr_8_3 RV_22_3 dX8_makeCodes_5 rfl ?_
  refine r_bipush (pc' := 10) C dX8_makeCodes_8 (by decide) rfl ?_
  refine c_Vv (pc' := 13) (mt := mX6_make) (as := [.ref (gl_b Y + 33), .int (i32 15)]) (st := []) (k := 26) C h rfl cl_X6_make ml_X8_176 im_X6_make sl_X6_make (by omega) (Nat.le_refl _) (Nat.le_refl _) rfl (by decide) kc_26 (by decide) rfl rfl rfl (Nat.le_of_ble_eq_true rfl) dX8_makeCodes_10 rfl (fun r1 iv2 av3 h => ?_)
  refine r_aload_n (pc' := 14) C 0 rfl rfl dX8_makeCodes_13 rfl ?_
  refine r_getr (pc' := 17) (k := 22) (r := 26) C fl_X8_21 (by decide) kc_22 (by decide) fr_8_2 RV_22_2 dX8_makeCodes_14 rfl ?_
  refine r_aload_n (pc' := 18) C 0 rfl rfl dX8_makeCodes_17 rfl ?_
  refine r_getr (pc' := 21) (k := 22) (r := 37) C fl_X8_34 (by decide) kc_22 (by decide) fr_8_4 RV_22_4 dX8_makeCodes_18 rfl ?_
  refine r_bipush (pc' := 23) C dX8_makeCodes_21 (by decide) rfl ?_
  refine c_Vv (pc' := 26) (mt := mX6_make) (as := [.ref (gl_b Y + 37), .int (i32 15)]) (st := []) (k := 26) C h rfl cl_X6_make ml_X8_176 im_X6_make sl_X6_make (by omega) (Nat.le_refl _) (Nat.le_refl _) rfl (by decide) kc_26 (by decide) rfl rfl rfl (Nat.le_of_ble_eq_true rfl) dX8_makeCodes_23 rfl (fun r5 iv6 av7 h => ?_)
  refine r_aload_n (pc' := 27) C 0 rfl rfl dX8_makeCodes_26 rfl ?_
  refine r_getr (pc' := 30) (k := 22) (r := 33) C fl_X8_30 (by decide) kc_22 (by decide) fr_8_3 RV_22_3 dX8_makeCodes_27 rfl ?_
  refine c_Vv (pc' := 33) (mt := mX3_makeCodes) (as := []) (st := []) (k := 33) C h rfl cl_X3_makeCodes ml_X8_76 im_X3_makeCodes sl_X3_makeCodes (by omega) (Nat.le_refl _) (Nat.le_refl _) rfl (by decide) kc_33 (by decide) rfl rfl rfl (Nat.le_of_ble_eq_true rfl) dX8_makeCodes_30 rfl (fun r9 iv10 av11 h => ?_)
  refine r_aload_n (pc' := 34) C 0 rfl rfl dX8_makeCodes_33 rfl ?_
  refine r_getr (pc' := 37) (k := 22) (r := 37) C fl_X8_34 (by decide) kc_22 (by decide) fr_8_4 RV_22_4 dX8_makeCodes_34 rfl ?_
  refine c_Vv (pc' := 40) (mt := mX3_makeCodes) (as := []) (st := []) (k := 37) C h rfl cl_X3_makeCodes ml_X8_76 im_X3_makeCodes sl_X3_makeCodes (by omega) (Nat.le_refl _) (Nat.le_refl _) rfl (by decide) kc_37 (by decide) rfl rfl rfl (Nat.le_of_ble_eq_true rfl) dX8_makeCodes_37 rfl (fun r13 iv14 av15 h => ?_)
  exact r_vret C ⟨rfl, rfl, h⟩ dX8_makeCodes_40
def L_X8_makeSizes_9 (Y : Gl) (X : Cx) (P : PN) (x1 : Int) (iv av : IVt) : Prop := Wa Y X 2 (g_MQ Y X 0 (g_N RV 116 P) 0 0) 0 0 9 [(0, .ref (gl_b Y + 22)), (1, .int (i32 x1))] [] RV iv av 116
set_option maxHeartbeats 4000000 in
set_option maxRecDepth 100000 in
theorem w_X8_makeSizes_9 {Y : Gl} {X : Cx} {e : Nat} {P : PN} {x1 : Int} {iv av : IVt} (C : CX Y X RX8 "makeSizes" cX8_makeSizes 2 none (e + 3) 0 0) (hx1 : InR x1) (h :
    ((InR (iv 22 14)) →
      (((iv 22 14) ≤ x1) →
        OkN Y (e + 2) mX6_make [.ref (gl_b Y + 26), .ref (gl_b Y + 41), .int (i32 7)] RV iv av 116 (fun r3 iv4 av5 =>
          OkN Y (e + 2) mX3_makeCodes [.ref (gl_b Y + 41)] RV iv4 av5 116 (fun r7 iv8 av9 =>
            P 0 iv8 av9
          )
        )
      ) ∧
      ((¬ (iv 22 14) ≤ x1) →
        ((320 ≤ x1) →
          OkN Y (e + 2) mX6_make [.ref (gl_b Y + 26), .ref (gl_b Y + 41), .int (i32 7)] RV iv av 116 (fun r12 iv13 av14 =>
            OkN Y (e + 2) mX3_makeCodes [.ref (gl_b Y + 41)] RV iv13 av14 116 (fun r16 iv17 av18 =>
              P 0 iv17 av18
            )
          )
        ) ∧
        ((¬ 320 ≤ x1) →
          (0 ≤ x1 ∧ x1 < 320) ∧
          ((InR (av 55 x1.toNat)) →
            OkN Y (e + 2) mX3_count [.ref (gl_b Y + 41), .int (i32 (av 55 x1.toNat))] RV iv av 116 (fun r22 iv23 av24 =>
              L_X8_makeSizes_9 Y X P (x1 + 1) iv23 av24
            )
          )
        )
      )
    )) : L_X8_makeSizes_9 Y X P x1 iv av := by
  unfold L_X8_makeSizes_9
  refine r_iload_n (pc' := 10) C 1 rfl rfl dX8_makeSizes_9 rfl ?_
  refine r_aload_n (pc' := 11) C 0 rfl rfl dX8_makeSizes_10 rfl ?_
  refine r_geti (pc' := 14) (k := 22) C fl_X8_180 (by decide) kc_22 (by decide) fr_8_14 dX8_makeSizes_11 rfl (fun f1 => ?_)
  replace h := h f1
  refine r_icmp_ge (pc' := 17) (tgt := 45) C hx1 f1 dX8_makeSizes_14 (by decide) rfl (fun c2 => ?_) (fun c2 => ?_)
  · replace h := h.1 c2
    refine r_aload_n (pc' := 46) C 0 rfl rfl dX8_makeSizes_45 rfl ?_
    refine r_getr (pc' := 49) (k := 22) (r := 26) C fl_X8_21 (by decide) kc_22 (by decide) fr_8_2 RV_22_2 dX8_makeSizes_46 rfl ?_
    refine r_aload_n (pc' := 50) C 0 rfl rfl dX8_makeSizes_49 rfl ?_
    refine r_getr (pc' := 53) (k := 22) (r := 41) C fl_X8_37 (by decide) kc_22 (by decide) fr_8_5 RV_22_5 dX8_makeSizes_50 rfl ?_
    refine r_bipush (pc' := 55) C dX8_makeSizes_53 (by decide) rfl ?_
    refine c_Vv (pc' := 58) (mt := mX6_make) (as := [.ref (gl_b Y + 41), .int (i32 7)]) (st := []) (k := 26) C h rfl cl_X6_make ml_X8_176 im_X6_make sl_X6_make (by omega) (Nat.le_refl _) (Nat.le_refl _) rfl (by decide) kc_26 (by decide) rfl rfl rfl (Nat.le_of_ble_eq_true rfl) dX8_makeSizes_55 rfl (fun r3 iv4 av5 h => ?_)
    refine r_aload_n (pc' := 59) C 0 rfl rfl dX8_makeSizes_58 rfl ?_
    refine r_getr (pc' := 62) (k := 22) (r := 41) C fl_X8_37 (by decide) kc_22 (by decide) fr_8_5 RV_22_5 dX8_makeSizes_59 rfl ?_
    refine c_Vv (pc' := 65) (mt := mX3_makeCodes) (as := []) (st := []) (k := 41) C h rfl cl_X3_makeCodes ml_X8_76 im_X3_makeCodes sl_X3_makeCodes (by omega) (Nat.le_refl _) (Nat.le_refl _) rfl (by decide) kc_41 (by decide) rfl rfl rfl (Nat.le_of_ble_eq_true rfl) dX8_makeSizes_62 rfl (fun r7 iv8 av9 h => ?_)
    exact r_vret C ⟨rfl, rfl, h⟩ dX8_makeSizes_65
  · replace h := h.2 c2
    refine r_iload_n (pc' := 18) C 1 rfl rfl dX8_makeSizes_17 rfl ?_
    refine r_aload_n (pc' := 19) C 0 rfl rfl dX8_makeSizes_18 rfl ?_
    refine r_getr (pc' := 22) (k := 22) (r := 55) C fl_X8_53 (by decide) kc_22 (by decide) fr_8_12 RV_22_12 dX8_makeSizes_19 rfl ?_
    refine r_alen (pc' := 23) (k := 55) (v := 320) C (by decide) kc_55 (by decide) (by rw [kl_55]; rfl) dX8_makeSizes_22 rfl ?_
    refine r_icmp_ge (pc' := 26) (tgt := 45) C hx1 (by decide) dX8_makeSizes_23 (by decide) rfl (fun c11 => ?_) (fun c11 => ?_)
    · replace h := h.1 c11
      refine r_aload_n (pc' := 46) C 0 rfl rfl dX8_makeSizes_45 rfl ?_
      refine r_getr (pc' := 49) (k := 22) (r := 26) C fl_X8_21 (by decide) kc_22 (by decide) fr_8_2 RV_22_2 dX8_makeSizes_46 rfl ?_
      refine r_aload_n (pc' := 50) C 0 rfl rfl dX8_makeSizes_49 rfl ?_
      refine r_getr (pc' := 53) (k := 22) (r := 41) C fl_X8_37 (by decide) kc_22 (by decide) fr_8_5 RV_22_5 dX8_makeSizes_50 rfl ?_
      refine r_bipush (pc' := 55) C dX8_makeSizes_53 (by decide) rfl ?_
      refine c_Vv (pc' := 58) (mt := mX6_make) (as := [.ref (gl_b Y + 41), .int (i32 7)]) (st := []) (k := 26) C h rfl cl_X6_make ml_X8_176 im_X6_make sl_X6_make (by omega) (Nat.le_refl _) (Nat.le_refl _) rfl (by decide) kc_26 (by decide) rfl rfl rfl (Nat.le_of_ble_eq_true rfl) dX8_makeSizes_55 rfl (fun r12 iv13 av14 h => ?_)
      refine r_aload_n (pc' := 59) C 0 rfl rfl dX8_makeSizes_58 rfl ?_
      refine r_getr (pc' := 62) (k := 22) (r := 41) C fl_X8_37 (by decide) kc_22 (by decide) fr_8_5 RV_22_5 dX8_makeSizes_59 rfl ?_
      refine c_Vv (pc' := 65) (mt := mX3_makeCodes) (as := []) (st := []) (k := 41) C h rfl cl_X3_makeCodes ml_X8_76 im_X3_makeCodes sl_X3_makeCodes (by omega) (Nat.le_refl _) (Nat.le_refl _) rfl (by decide) kc_41 (by decide) rfl rfl rfl (Nat.le_of_ble_eq_true rfl) dX8_makeSizes_62 rfl (fun r16 iv17 av18 h => ?_)
      exact r_vret C ⟨rfl, rfl, h⟩ dX8_makeSizes_65
    · replace h := h.2 c11
      refine r_aload_n (pc' := 27) C 0 rfl rfl dX8_makeSizes_26 rfl ?_
      refine r_getr (pc' := 30) (k := 22) (r := 41) C fl_X8_37 (by decide) kc_22 (by decide) fr_8_5 RV_22_5 dX8_makeSizes_27 rfl ?_
      refine r_aload_n (pc' := 31) C 0 rfl rfl dX8_makeSizes_30 rfl ?_
      refine r_getr (pc' := 34) (k := 22) (r := 55) C fl_X8_53 (by decide) kc_22 (by decide) fr_8_12 RV_22_12 dX8_makeSizes_31 rfl ?_
      refine r_iload_n (pc' := 35) C 1 rfl rfl dX8_makeSizes_34 rfl ?_
      have o20 := h.1
      replace h := h.2
      refine r_iald (pc' := 36) (k := 55) C (by decide) kc_55 (by have := kl_55; omega) dX8_makeSizes_35 rfl (fun f21 => ?_)
      replace h := h f21
      refine c_Vv (pc' := 39) (mt := mX3_count) (as := [.int (i32 (av 55 x1.toNat))]) (st := []) (k := 41) C h rfl cl_X3_count ml_X8_163 im_X3_count sl_X3_count (by omega) (Nat.le_refl _) (Nat.le_refl _) rfl (by decide) kc_41 (by decide) rfl rfl rfl (Nat.le_of_ble_eq_true rfl) dX8_makeSizes_36 rfl (fun r22 iv23 av24 h => ?_)
      refine r_iinc (pc' := 42) (ls' := [(0, .ref (gl_b Y + 22)), (1, .int (i32 (x1 + 1)))]) C 1 rfl (by decide) rfl dX8_makeSizes_39 rfl ?_
      refine r_goto (tgt := 9) C dX8_makeSizes_42 (by decide) ?_
      exact Wa.sub [0, 1] rfl h
set_option maxHeartbeats 4000000 in
set_option maxRecDepth 100000 in
theorem o_X8_makeSizes {Y : Gl} {e : Nat} {P : PN} {iv av : IVt} (h : ∀ X : Cx, CX Y X RX8 "makeSizes" cX8_makeSizes 2 none (e + 3) 0 0 →
    OkN Y (e + 2) mX3_forget [.ref (gl_b Y + 41)] RV iv av 116 (fun r1 iv2 av3 =>
      L_X8_makeSizes_9 Y X P 0 iv2 av3
    )) : OkN Y (e + 3) mX8_makeSizes [.ref (gl_b Y + 22)] RV iv av 116 P := by
  refine OkW.of rfl (by show _ ≤ 2; exact Nat.le_of_ble_eq_true rfl) fun X C0 hR => ?_
  have C : CX Y X RX8 "makeSizes" cX8_makeSizes 2 none (e + 3) 0 0 := C0
  replace h := h X C
  show Wa Y X 2 (g_MQ Y X 0 (g_N RV 116 P) 0 0) 0 0 0 [(0, .ref (gl_b Y + 22))] [] RV iv av 116
  refine r_aload_n (pc' := 1) C 0 rfl rfl dX8_makeSizes_0 rfl ?_
  refine r_getr (pc' := 4) (k := 22) (r := 41) C fl_X8_37 (by decide) kc_22 (by decide) fr_8_5 RV_22_5 dX8_makeSizes_1 rfl ?_
  refine c_Vv (pc' := 7) (mt := mX3_forget) (as := []) (st := []) (k := 41) C h rfl cl_X3_forget ml_X8_129 im_X3_forget sl_X3_forget (by omega) (Nat.le_refl _) (Nat.le_refl _) rfl (by decide) kc_41 (by decide) rfl rfl rfl (Nat.le_of_ble_eq_true rfl) dX8_makeSizes_4 rfl (fun r1 iv2 av3 h => ?_)
  refine r_iconst (pc' := 8) C dX8_makeSizes_7 rfl ?_
  refine r_istore_n (pc' := 9) (ls' := [(0, .ref (gl_b Y + 22)), (1, .int (i32 0))]) C (by decide) rfl rfl dX8_makeSizes_8 rfl ?_
  exact Wa.sub [0, 1] rfl h
set_option maxHeartbeats 4000000 in
set_option maxRecDepth 100000 in
theorem o_X8_toldSymbols {Y : Gl} {e : Nat} {P : PN} {iv av : IVt} (h : 
    OkN Y e mX3_used [.ref (gl_b Y + 33)] RV iv av 116 (fun r1 iv2 av3 =>
      (InR r1) →
      P (max r1 257) iv2 av3
    )) : OkN Y (e + 1) mX8_toldSymbols [.ref (gl_b Y + 22)] RV iv av 116 P := by
  refine OkW.of rfl (by show _ ≤ 1; exact Nat.le_of_ble_eq_true rfl) fun X C0 hR => ?_
  have C : CX Y X RX8 "toldSymbols" cX8_toldSymbols 1 (some .int) (e + 1) 0 0 := C0
  show Wa Y X 1 (g_MQ Y X 1 (g_N RV 116 P) 0 0) 0 0 0 [(0, .ref (gl_b Y + 22))] [] RV iv av 116
  refine r_aload_n (pc' := 1) C 0 rfl rfl dX8_toldSymbols_0 rfl ?_
  refine r_getr (pc' := 4) (k := 22) (r := 33) C fl_X8_30 (by decide) kc_22 (by decide) fr_8_3 RV_22_3 dX8_toldSymbols_1 rfl ?_
  refine c_Vi (pc' := 7) (mt := mX3_used) (as := []) (st := []) (k := 33) C h rfl cl_X3_used ml_X8_183 im_X3_used sl_X3_used (by omega) (Nat.le_refl _) (Nat.le_refl _) rfl (by decide) kc_33 (by decide) rfl rfl rfl (Nat.le_of_ble_eq_true rfl) dX8_toldSymbols_4 rfl (fun r1 iv2 av3 f4 h => ?_)
  replace h := h f4
  refine r_sipush (pc' := 10) C dX8_toldSymbols_7 (by decide) rfl ?_
  refine r_max (pc' := 13) C ml_X8_140 wd_max_s wd_math wd_max_c (by omega) (Nat.le_of_ble_eq_true rfl) (Nat.le_refl _) (Nat.le_refl _) f4 (by decide) dX8_toldSymbols_10 rfl ?_
  exact r_iret C (by omega) ⟨rfl, rfl, h⟩ dX8_toldSymbols_13
set_option maxHeartbeats 4000000 in
set_option maxRecDepth 100000 in
theorem o_X8_toldDistances {Y : Gl} {e : Nat} {P : PN} {iv av : IVt} (h : 
    OkN Y e mX3_used [.ref (gl_b Y + 37)] RV iv av 116 (fun r1 iv2 av3 =>
      (InR r1) →
      P (max r1 1) iv2 av3
    )) : OkN Y (e + 1) mX8_toldDistances [.ref (gl_b Y + 22)] RV iv av 116 P := by
  refine OkW.of rfl (by show _ ≤ 1; exact Nat.le_of_ble_eq_true rfl) fun X C0 hR => ?_
  have C : CX Y X RX8 "toldDistances" cX8_toldDistances 1 (some .int) (e + 1) 0 0 := C0
  show Wa Y X 1 (g_MQ Y X 1 (g_N RV 116 P) 0 0) 0 0 0 [(0, .ref (gl_b Y + 22))] [] RV iv av 116
  refine r_aload_n (pc' := 1) C 0 rfl rfl dX8_toldDistances_0 rfl ?_
  refine r_getr (pc' := 4) (k := 22) (r := 37) C fl_X8_34 (by decide) kc_22 (by decide) fr_8_4 RV_22_4 dX8_toldDistances_1 rfl ?_
  refine c_Vi (pc' := 7) (mt := mX3_used) (as := []) (st := []) (k := 37) C h rfl cl_X3_used ml_X8_183 im_X3_used sl_X3_used (by omega) (Nat.le_refl _) (Nat.le_refl _) rfl (by decide) kc_37 (by decide) rfl rfl rfl (Nat.le_of_ble_eq_true rfl) dX8_toldDistances_4 rfl (fun r1 iv2 av3 f4 h => ?_)
  replace h := h f4
  refine r_iconst (pc' := 8) C dX8_toldDistances_7 rfl ?_
  refine r_max (pc' := 11) C ml_X8_140 wd_max_s wd_math wd_max_c (by omega) (Nat.le_of_ble_eq_true rfl) (Nat.le_refl _) (Nat.le_refl _) f4 (by decide) dX8_toldDistances_8 rfl ?_
  exact r_iret C (by omega) ⟨rfl, rfl, h⟩ dX8_toldDistances_11
def L_X8_toldSizes_3 (Y : Gl) (X : Cx) (P : PN) (x1 : Int) (iv av : IVt) : Prop := Wa Y X 2 (g_MQ Y X 1 (g_N RV 116 P) 0 0) 0 0 3 [(0, .ref (gl_b Y + 22)), (1, .int (i32 x1))] [] RV iv av 116
set_option maxHeartbeats 4000000 in
set_option maxRecDepth 100000 in
theorem w_X8_toldSizes_3 {Y : Gl} {X : Cx} {e : Nat} {P : PN} {x1 : Int} {iv av : IVt} (C : CX Y X RX8 "toldSizes" cX8_toldSizes 2 (some .int) (e + 1) 0 0) (hx1 : InR x1) (h :
    ((x1 ≤ 4) →
      P x1 iv av
    ) ∧
    ((¬ x1 ≤ 4) →
      (InR (x1 - 1)) ∧
      OkN Y e mX11_ordered [.int (i32 (x1 - 1))] RV iv av 116 (fun r3 iv4 av5 =>
        (InR r3) →
        OkN Y e mX3_lengthOf [.ref (gl_b Y + 41), .int (i32 r3)] RV iv4 av5 116 (fun r7 iv8 av9 =>
          (InR r7) →
          ((¬ r7 = 0) →
            P x1 iv8 av9
          ) ∧
          ((r7 = 0) →
            L_X8_toldSizes_3 Y X P (x1 + (-1)) iv8 av9
          )
        )
      )
    )) : L_X8_toldSizes_3 Y X P x1 iv av := by
  unfold L_X8_toldSizes_3
  refine r_iload_n (pc' := 4) C 1 rfl rfl dX8_toldSizes_3 rfl ?_
  refine r_iconst (pc' := 5) C dX8_toldSizes_4 rfl ?_
  refine r_icmp_le (pc' := 8) (tgt := 30) C hx1 (by decide) dX8_toldSizes_5 (by decide) rfl (fun c1 => ?_) (fun c1 => ?_)
  · replace h := h.1 c1
    refine r_iload_n (pc' := 31) C 1 rfl rfl dX8_toldSizes_30 rfl ?_
    exact r_iret C hx1 ⟨rfl, rfl, h⟩ dX8_toldSizes_31
  · replace h := h.2 c1
    refine r_aload_n (pc' := 9) C 0 rfl rfl dX8_toldSizes_8 rfl ?_
    refine r_getr (pc' := 12) (k := 22) (r := 41) C fl_X8_37 (by decide) kc_22 (by decide) fr_8_5 RV_22_5 dX8_toldSizes_9 rfl ?_
    refine r_iload_n (pc' := 13) C 1 rfl rfl dX8_toldSizes_12 rfl ?_
    refine r_iconst (pc' := 14) C dX8_toldSizes_13 rfl ?_
    refine r_isub (pc' := 15) C dX8_toldSizes_14 rfl ?_
    have o2 := h.1
    replace h := h.2
    refine c_SNi (pc' := 18) (mt := mX11_ordered) (as := [.int (i32 (x1 - 1))]) (st := [.ref (gl_b Y + 41)]) C h rfl cl_X11_ordered nl_X8_186 sm_X11_ordered (by omega) (Nat.le_refl _) (Nat.le_refl _) rfl rfl (Nat.le_of_ble_eq_true rfl) dX8_toldSizes_15 rfl (fun r3 iv4 av5 f6 h => ?_)
    replace h := h f6
    refine c_Vi (pc' := 21) (mt := mX3_lengthOf) (as := [.int (i32 r3)]) (st := []) (k := 41) C h rfl cl_X3_lengthOf ml_X8_189 im_X3_lengthOf sl_X3_lengthOf (by omega) (Nat.le_refl _) (Nat.le_refl _) rfl (by decide) kc_41 (by decide) rfl rfl rfl (Nat.le_of_ble_eq_true rfl) dX8_toldSizes_18 rfl (fun r7 iv8 av9 f10 h => ?_)
    replace h := h f10
    refine r_if_ne (pc' := 24) (tgt := 30) C f10 dX8_toldSizes_21 (by decide) rfl (fun c11 => ?_) (fun c11 => ?_)
    · replace h := h.1 c11
      refine r_iload_n (pc' := 31) C 1 rfl rfl dX8_toldSizes_30 rfl ?_
      exact r_iret C hx1 ⟨rfl, rfl, h⟩ dX8_toldSizes_31
    · replace h := h.2 c11
      refine r_iinc (pc' := 27) (ls' := [(0, .ref (gl_b Y + 22)), (1, .int (i32 (x1 + (-1))))]) C 1 rfl (by decide) rfl dX8_toldSizes_24 rfl ?_
      refine r_goto (tgt := 3) C dX8_toldSizes_27 (by decide) ?_
      exact Wa.sub [0, 1] rfl h
set_option maxHeartbeats 4000000 in
set_option maxRecDepth 100000 in
theorem o_X8_toldSizes {Y : Gl} {e : Nat} {P : PN} {iv av : IVt} (h : ∀ X : Cx, CX Y X RX8 "toldSizes" cX8_toldSizes 2 (some .int) (e + 1) 0 0 →
    L_X8_toldSizes_3 Y X P 19 iv av) : OkN Y (e + 1) mX8_toldSizes [.ref (gl_b Y + 22)] RV iv av 116 P := by
  refine OkW.of rfl (by show _ ≤ 2; exact Nat.le_of_ble_eq_true rfl) fun X C0 hR => ?_
  have C : CX Y X RX8 "toldSizes" cX8_toldSizes 2 (some .int) (e + 1) 0 0 := C0
  replace h := h X C
  show Wa Y X 2 (g_MQ Y X 1 (g_N RV 116 P) 0 0) 0 0 0 [(0, .ref (gl_b Y + 22))] [] RV iv av 116
  refine r_bipush (pc' := 2) C dX8_toldSizes_0 (by decide) rfl ?_
  refine r_istore_n (pc' := 3) (ls' := [(0, .ref (gl_b Y + 22)), (1, .int (i32 19))]) C (by decide) rfl rfl dX8_toldSizes_2 rfl ?_
  exact Wa.sub [0, 1] rfl h
def L_X8_makeTold_25 (Y : Gl) (X : Cx) (P : PN) (x1 : Int) (x2 : Int) (x3 : Int) (x4 : Int) (x5 : Int) (iv av : IVt) : Prop := Wa Y X 7 (g_MQ Y X 0 (g_N RV 116 P) 0 0) 0 0 25 [(0, .ref (gl_b Y + 22)), (1, .int (i32 x1)), (2, .int (i32 x2)), (3, .int (i32 x3)), (4, .int (i32 x4)), (5, .int (i32 x5))] [] RV iv av 116
set_option maxHeartbeats 4000000 in
set_option maxRecDepth 100000 in
theorem w_X8_makeTold_25 {Y : Gl} {X : Cx} {e : Nat} {P : PN} {x1 : Int} {x2 : Int} {x3 : Int} {x4 : Int} {x5 : Int} {iv av : IVt} (C : CX Y X RX8 "makeTold" cX8_makeTold 7 none (e + 2) 0 0) (hx1 : InR x1) (hx2 : InR x2) (hx3 : InR x3) (hx4 : InR x4) (hx5 : InR x5) (h :
    ((x2 ≤ x5) →
      OkN Y (e + 1) mX8_tellSame [.ref (gl_b Y + 22), .int (i32 x3), .int (i32 x4)] RV iv av 116 (fun r2 iv3 av4 =>
        P 0 iv3 av4
      )
    ) ∧
    ((¬ x2 ≤ x5) →
      ((x1 ≤ x5) →
        (InR (x5 - x1)) ∧
        OkN Y (e + 1) mX3_lengthOf [.ref (gl_b Y + 37), .int (i32 (x5 - x1))] RV iv av 116 (fun r8 iv9 av10 =>
          (InR r8) →
          ((r8 = x3) →
            L_X8_makeTold_25 Y X P x1 x2 x3 (x4 + 1) (x5 + 1) iv9 av10
          ) ∧
          ((¬ r8 = x3) →
            OkN Y (e + 1) mX8_tellSame [.ref (gl_b Y + 22), .int (i32 x3), .int (i32 x4)] RV iv9 av10 116 (fun r13 iv14 av15 =>
              L_X8_makeTold_25 Y X P x1 x2 r8 (0 + 1) (x5 + 1) iv14 av15
            )
          )
        )
      ) ∧
      ((¬ x1 ≤ x5) →
        OkN Y (e + 1) mX3_lengthOf [.ref (gl_b Y + 33), .int (i32 x5)] RV iv av 116 (fun r17 iv18 av19 =>
          (InR r17) →
          ((r17 = x3) →
            L_X8_makeTold_25 Y X P x1 x2 x3 (x4 + 1) (x5 + 1) iv18 av19
          ) ∧
          ((¬ r17 = x3) →
            OkN Y (e + 1) mX8_tellSame [.ref (gl_b Y + 22), .int (i32 x3), .int (i32 x4)] RV iv18 av19 116 (fun r22 iv23 av24 =>
              L_X8_makeTold_25 Y X P x1 x2 r17 (0 + 1) (x5 + 1) iv23 av24
            )
          )
        )
      )
    )) : L_X8_makeTold_25 Y X P x1 x2 x3 x4 x5 iv av := by
  unfold L_X8_makeTold_25
  refine r_iload (pc' := 27) C 5 rfl dX8_makeTold_25 rfl ?_
  refine r_iload_n (pc' := 28) C 2 rfl rfl dX8_makeTold_27 rfl ?_
  refine r_icmp_ge (pc' := 31) (tgt := 90) C hx5 hx2 dX8_makeTold_28 (by decide) rfl (fun c1 => ?_) (fun c1 => ?_)
  · replace h := h.1 c1
    refine r_aload_n (pc' := 91) C 0 rfl rfl dX8_makeTold_90 rfl ?_
    refine r_iload_n (pc' := 92) C 3 rfl rfl dX8_makeTold_91 rfl ?_
    refine r_iload (pc' := 94) C 4 rfl dX8_makeTold_92 rfl ?_
    refine c_Vv (pc' := 97) (mt := mX8_tellSame) (as := [.int (i32 x3), .int (i32 x4)]) (st := []) (k := 22) C h rfl cl_X8_tellSame ml_X8_198 im_X8_tellSame sl_X8_tellSame (by omega) (Nat.le_refl _) (Nat.le_refl _) rfl (by decide) kc_22 (by decide) rfl rfl rfl (Nat.le_of_ble_eq_true rfl) dX8_makeTold_94 rfl (fun r2 iv3 av4 h => ?_)
    exact r_vret C ⟨rfl, rfl, h⟩ dX8_makeTold_97
  · replace h := h.2 c1
    refine r_iload (pc' := 33) C 5 rfl dX8_makeTold_31 rfl ?_
    refine r_iload_n (pc' := 34) C 1 rfl rfl dX8_makeTold_33 rfl ?_
    refine r_icmp_ge (pc' := 37) (tgt := 49) C hx5 hx1 dX8_makeTold_34 (by decide) rfl (fun c6 => ?_) (fun c6 => ?_)
    · replace h := h.1 c6
      refine r_aload_n (pc' := 50) C 0 rfl rfl dX8_makeTold_49 rfl ?_
      refine r_getr (pc' := 53) (k := 22) (r := 37) C fl_X8_34 (by decide) kc_22 (by decide) fr_8_4 RV_22_4 dX8_makeTold_50 rfl ?_
      refine r_iload (pc' := 55) C 5 rfl dX8_makeTold_53 rfl ?_
      refine r_iload_n (pc' := 56) C 1 rfl rfl dX8_makeTold_55 rfl ?_
      refine r_isub (pc' := 57) C dX8_makeTold_56 rfl ?_
      have o7 := h.1
      replace h := h.2
      refine c_Vi (pc' := 60) (mt := mX3_lengthOf) (as := [.int (i32 (x5 - x1))]) (st := []) (k := 37) C h rfl cl_X3_lengthOf ml_X8_189 im_X3_lengthOf sl_X3_lengthOf (by omega) (Nat.le_refl _) (Nat.le_refl _) rfl (by decide) kc_37 (by decide) rfl rfl rfl (Nat.le_of_ble_eq_true rfl) dX8_makeTold_57 rfl (fun r8 iv9 av10 f11 h => ?_)
      replace h := h f11
      refine r_istore (pc' := 62) (ls' := [(0, .ref (gl_b Y + 22)), (1, .int (i32 x1)), (2, .int (i32 x2)), (3, .int (i32 x3)), (4, .int (i32 x4)), (5, .int (i32 x5)), (6, .int (i32 r8))]) C (by decide) rfl dX8_makeTold_60 rfl ?_
      refine r_iload (pc' := 64) C 6 rfl dX8_makeTold_62 rfl ?_
      refine r_iload_n (pc' := 65) C 3 rfl rfl dX8_makeTold_64 rfl ?_
      refine r_icmp_eq (pc' := 68) (tgt := 81) C f11 hx3 dX8_makeTold_65 (by decide) rfl (fun c12 => ?_) (fun c12 => ?_)
      · replace h := h.1 c12
        refine r_iinc (pc' := 84) (ls' := [(0, .ref (gl_b Y + 22)), (1, .int (i32 x1)), (2, .int (i32 x2)), (3, .int (i32 x3)), (4, .int (i32 (x4 + 1))), (5, .int (i32 x5)), (6, .int (i32 r8))]) C 4 rfl (by decide) rfl dX8_makeTold_81 rfl ?_
        refine r_iinc (pc' := 87) (ls' := [(0, .ref (gl_b Y + 22)), (1, .int (i32 x1)), (2, .int (i32 x2)), (3, .int (i32 x3)), (4, .int (i32 (x4 + 1))), (5, .int (i32 (x5 + 1))), (6, .int (i32 r8))]) C 5 rfl (by decide) rfl dX8_makeTold_84 rfl ?_
        refine r_goto (tgt := 25) C dX8_makeTold_87 (by decide) ?_
        exact Wa.sub [0, 1, 2, 3, 4, 5] rfl h
      · replace h := h.2 c12
        refine r_aload_n (pc' := 69) C 0 rfl rfl dX8_makeTold_68 rfl ?_
        refine r_iload_n (pc' := 70) C 3 rfl rfl dX8_makeTold_69 rfl ?_
        refine r_iload (pc' := 72) C 4 rfl dX8_makeTold_70 rfl ?_
        refine c_Vv (pc' := 75) (mt := mX8_tellSame) (as := [.int (i32 x3), .int (i32 x4)]) (st := []) (k := 22) C h rfl cl_X8_tellSame ml_X8_198 im_X8_tellSame sl_X8_tellSame (by omega) (Nat.le_refl _) (Nat.le_refl _) rfl (by decide) kc_22 (by decide) rfl rfl rfl (Nat.le_of_ble_eq_true rfl) dX8_makeTold_72 rfl (fun r13 iv14 av15 h => ?_)
        refine r_iload (pc' := 77) C 6 rfl dX8_makeTold_75 rfl ?_
        refine r_istore_n (pc' := 78) (ls' := [(0, .ref (gl_b Y + 22)), (1, .int (i32 x1)), (2, .int (i32 x2)), (3, .int (i32 r8)), (4, .int (i32 x4)), (5, .int (i32 x5)), (6, .int (i32 r8))]) C (by decide) rfl rfl dX8_makeTold_77 rfl ?_
        refine r_iconst (pc' := 79) C dX8_makeTold_78 rfl ?_
        refine r_istore (pc' := 81) (ls' := [(0, .ref (gl_b Y + 22)), (1, .int (i32 x1)), (2, .int (i32 x2)), (3, .int (i32 r8)), (4, .int (i32 0)), (5, .int (i32 x5)), (6, .int (i32 r8))]) C (by decide) rfl dX8_makeTold_79 rfl ?_
        refine r_iinc (pc' := 84) (ls' := [(0, .ref (gl_b Y + 22)), (1, .int (i32 x1)), (2, .int (i32 x2)), (3, .int (i32 r8)), (4, .int (i32 (0 + 1))), (5, .int (i32 x5)), (6, .int (i32 r8))]) C 4 rfl (by decide) rfl dX8_makeTold_81 rfl ?_
        refine r_iinc (pc' := 87) (ls' := [(0, .ref (gl_b Y + 22)), (1, .int (i32 x1)), (2, .int (i32 x2)), (3, .int (i32 r8)), (4, .int (i32 (0 + 1))), (5, .int (i32 (x5 + 1))), (6, .int (i32 r8))]) C 5 rfl (by decide) rfl dX8_makeTold_84 rfl ?_
        refine r_goto (tgt := 25) C dX8_makeTold_87 (by decide) ?_
        exact Wa.sub [0, 1, 2, 3, 4, 5] rfl h
    · replace h := h.2 c6
      refine r_aload_n (pc' := 38) C 0 rfl rfl dX8_makeTold_37 rfl ?_
      refine r_getr (pc' := 41) (k := 22) (r := 33) C fl_X8_30 (by decide) kc_22 (by decide) fr_8_3 RV_22_3 dX8_makeTold_38 rfl ?_
      refine r_iload (pc' := 43) C 5 rfl dX8_makeTold_41 rfl ?_
      refine c_Vi (pc' := 46) (mt := mX3_lengthOf) (as := [.int (i32 x5)]) (st := []) (k := 33) C h rfl cl_X3_lengthOf ml_X8_189 im_X3_lengthOf sl_X3_lengthOf (by omega) (Nat.le_refl _) (Nat.le_refl _) rfl (by decide) kc_33 (by decide) rfl rfl rfl (Nat.le_of_ble_eq_true rfl) dX8_makeTold_43 rfl (fun r17 iv18 av19 f20 h => ?_)
      replace h := h f20
      refine r_goto (tgt := 60) C dX8_makeTold_46 (by decide) ?_
      refine r_istore (pc' := 62) (ls' := [(0, .ref (gl_b Y + 22)), (1, .int (i32 x1)), (2, .int (i32 x2)), (3, .int (i32 x3)), (4, .int (i32 x4)), (5, .int (i32 x5)), (6, .int (i32 r17))]) C (by decide) rfl dX8_makeTold_60 rfl ?_
      refine r_iload (pc' := 64) C 6 rfl dX8_makeTold_62 rfl ?_
      refine r_iload_n (pc' := 65) C 3 rfl rfl dX8_makeTold_64 rfl ?_
      refine r_icmp_eq (pc' := 68) (tgt := 81) C f20 hx3 dX8_makeTold_65 (by decide) rfl (fun c21 => ?_) (fun c21 => ?_)
      · replace h := h.1 c21
        refine r_iinc (pc' := 84) (ls' := [(0, .ref (gl_b Y + 22)), (1, .int (i32 x1)), (2, .int (i32 x2)), (3, .int (i32 x3)), (4, .int (i32 (x4 + 1))), (5, .int (i32 x5)), (6, .int (i32 r17))]) C 4 rfl (by decide) rfl dX8_makeTold_81 rfl ?_
        refine r_iinc (pc' := 87) (ls' := [(0, .ref (gl_b Y + 22)), (1, .int (i32 x1)), (2, .int (i32 x2)), (3, .int (i32 x3)), (4, .int (i32 (x4 + 1))), (5, .int (i32 (x5 + 1))), (6, .int (i32 r17))]) C 5 rfl (by decide) rfl dX8_makeTold_84 rfl ?_
        refine r_goto (tgt := 25) C dX8_makeTold_87 (by decide) ?_
        exact Wa.sub [0, 1, 2, 3, 4, 5] rfl h
      · replace h := h.2 c21
        refine r_aload_n (pc' := 69) C 0 rfl rfl dX8_makeTold_68 rfl ?_
        refine r_iload_n (pc' := 70) C 3 rfl rfl dX8_makeTold_69 rfl ?_
        refine r_iload (pc' := 72) C 4 rfl dX8_makeTold_70 rfl ?_
        refine c_Vv (pc' := 75) (mt := mX8_tellSame) (as := [.int (i32 x3), .int (i32 x4)]) (st := []) (k := 22) C h rfl cl_X8_tellSame ml_X8_198 im_X8_tellSame sl_X8_tellSame (by omega) (Nat.le_refl _) (Nat.le_refl _) rfl (by decide) kc_22 (by decide) rfl rfl rfl (Nat.le_of_ble_eq_true rfl) dX8_makeTold_72 rfl (fun r22 iv23 av24 h => ?_)
        refine r_iload (pc' := 77) C 6 rfl dX8_makeTold_75 rfl ?_
        refine r_istore_n (pc' := 78) (ls' := [(0, .ref (gl_b Y + 22)), (1, .int (i32 x1)), (2, .int (i32 x2)), (3, .int (i32 r17)), (4, .int (i32 x4)), (5, .int (i32 x5)), (6, .int (i32 r17))]) C (by decide) rfl rfl dX8_makeTold_77 rfl ?_
        refine r_iconst (pc' := 79) C dX8_makeTold_78 rfl ?_
        refine r_istore (pc' := 81) (ls' := [(0, .ref (gl_b Y + 22)), (1, .int (i32 x1)), (2, .int (i32 x2)), (3, .int (i32 r17)), (4, .int (i32 0)), (5, .int (i32 x5)), (6, .int (i32 r17))]) C (by decide) rfl dX8_makeTold_79 rfl ?_
        refine r_iinc (pc' := 84) (ls' := [(0, .ref (gl_b Y + 22)), (1, .int (i32 x1)), (2, .int (i32 x2)), (3, .int (i32 r17)), (4, .int (i32 (0 + 1))), (5, .int (i32 x5)), (6, .int (i32 r17))]) C 4 rfl (by decide) rfl dX8_makeTold_81 rfl ?_
        refine r_iinc (pc' := 87) (ls' := [(0, .ref (gl_b Y + 22)), (1, .int (i32 x1)), (2, .int (i32 x2)), (3, .int (i32 r17)), (4, .int (i32 (0 + 1))), (5, .int (i32 (x5 + 1))), (6, .int (i32 r17))]) C 5 rfl (by decide) rfl dX8_makeTold_84 rfl ?_
        refine r_goto (tgt := 25) C dX8_makeTold_87 (by decide) ?_
        exact Wa.sub [0, 1, 2, 3, 4, 5] rfl h
set_option maxHeartbeats 4000000 in
set_option maxRecDepth 100000 in
theorem o_X8_makeTold {Y : Gl} {e : Nat} {P : PN} {iv av : IVt} (h : ∀ X : Cx, CX Y X RX8 "makeTold" cX8_makeTold 7 none (e + 2) 0 0 →
    OkN Y (e + 1) mX8_toldSymbols [.ref (gl_b Y + 22)] RV iv av 116 (fun r1 iv2 av3 =>
      (InR r1) →
      OkN Y (e + 1) mX8_toldDistances [.ref (gl_b Y + 22)] RV iv2 av3 116 (fun r5 iv6 av7 =>
        (InR r5) →
        L_X8_makeTold_25 Y X P r1 (r1 + r5) (-1) 0 0 (up2 iv6 22 14 0) av7
      )
    )) : OkN Y (e + 2) mX8_makeTold [.ref (gl_b Y + 22)] RV iv av 116 P := by
  refine OkW.of rfl (by show _ ≤ 7; exact Nat.le_of_ble_eq_true rfl) fun X C0 hR => ?_
  have C : CX Y X RX8 "makeTold" cX8_makeTold 7 none (e + 2) 0 0 := C0
  replace h := h X C
  show Wa Y X 7 (g_MQ Y X 0 (g_N RV 116 P) 0 0) 0 0 0 [(0, .ref (gl_b Y + 22))] [] RV iv av 116
  refine r_aload_n (pc' := 1) C 0 rfl rfl dX8_makeTold_0 rfl ?_
  refine c_Vi (pc' := 4) (mt := mX8_toldSymbols) (as := []) (st := []) (k := 22) C h rfl cl_X8_toldSymbols ml_X8_192 im_X8_toldSymbols sl_X8_toldSymbols (by omega) (Nat.le_refl _) (Nat.le_refl _) rfl (by decide) kc_22 (by decide) rfl rfl rfl (Nat.le_of_ble_eq_true rfl) dX8_makeTold_1 rfl (fun r1 iv2 av3 f4 h => ?_)
  replace h := h f4
  refine r_istore_n (pc' := 5) (ls' := [(0, .ref (gl_b Y + 22)), (1, .int (i32 r1))]) C (by decide) rfl rfl dX8_makeTold_4 rfl ?_
  refine r_iload_n (pc' := 6) C 1 rfl rfl dX8_makeTold_5 rfl ?_
  refine r_aload_n (pc' := 7) C 0 rfl rfl dX8_makeTold_6 rfl ?_
  refine c_Vi (pc' := 10) (mt := mX8_toldDistances) (as := []) (st := [.int (i32 r1)]) (k := 22) C h rfl cl_X8_toldDistances ml_X8_195 im_X8_toldDistances sl_X8_toldDistances (by omega) (Nat.le_refl _) (Nat.le_refl _) rfl (by decide) kc_22 (by decide) rfl rfl rfl (Nat.le_of_ble_eq_true rfl) dX8_makeTold_7 rfl (fun r5 iv6 av7 f8 h => ?_)
  replace h := h f8
  refine r_iadd (pc' := 11) C dX8_makeTold_10 rfl ?_
  refine r_istore_n (pc' := 12) (ls' := [(0, .ref (gl_b Y + 22)), (1, .int (i32 r1)), (2, .int (i32 (r1 + r5)))]) C (by decide) rfl rfl dX8_makeTold_11 rfl ?_
  refine r_iconst (pc' := 13) C dX8_makeTold_12 rfl ?_
  refine r_istore_n (pc' := 14) (ls' := [(0, .ref (gl_b Y + 22)), (1, .int (i32 r1)), (2, .int (i32 (r1 + r5))), (3, .int (i32 (-1)))]) C (by decide) rfl rfl dX8_makeTold_13 rfl ?_
  refine r_iconst (pc' := 15) C dX8_makeTold_14 rfl ?_
  refine r_istore (pc' := 17) (ls' := [(0, .ref (gl_b Y + 22)), (1, .int (i32 r1)), (2, .int (i32 (r1 + r5))), (3, .int (i32 (-1))), (4, .int (i32 0))]) C (by decide) rfl dX8_makeTold_15 rfl ?_
  refine r_aload_n (pc' := 18) C 0 rfl rfl dX8_makeTold_17 rfl ?_
  refine r_iconst (pc' := 19) C dX8_makeTold_18 rfl ?_
  refine r_puti (pc' := 22) (k := 22) C fl_X8_180 (by decide) kc_22 (by decide) fr_8_14 (by decide) dX8_makeTold_19 rfl ?_
  refine r_iconst (pc' := 23) C dX8_makeTold_22 rfl ?_
  refine r_istore (pc' := 25) (ls' := [(0, .ref (gl_b Y + 22)), (1, .int (i32 r1)), (2, .int (i32 (r1 + r5))), (3, .int (i32 (-1))), (4, .int (i32 0)), (5, .int (i32 0))]) C (by decide) rfl dX8_makeTold_23 rfl ?_
  exact Wa.sub [0, 1, 2, 3, 4, 5] rfl h
def L_X8_tellSame_19 (Y : Gl) (X : Cx) (P : PN) (x1 : Int) (x3 : Int) (iv av : IVt) : Prop := Wa Y X 5 (g_MQ Y X 0 (g_N RV 116 P) 0 0) 0 0 19 [(0, .ref (gl_b Y + 22)), (1, .int (i32 x1)), (3, .int (i32 x3))] [] RV iv av 116
def L_X8_tellSame_77 (Y : Gl) (X : Cx) (P : PN) (x1 : Int) (x3 : Int) (iv av : IVt) : Prop := Wa Y X 5 (g_MQ Y X 0 (g_N RV 116 P) 0 0) 0 0 77 [(0, .ref (gl_b Y + 22)), (1, .int (i32 x1)), (3, .int (i32 x3))] [] RV iv av 116
def L_X8_tellSame_115 (Y : Gl) (X : Cx) (P : PN) (x1 : Int) (x3 : Int) (x4 : Int) (iv av : IVt) : Prop := Wa Y X 5 (g_MQ Y X 0 (g_N RV 116 P) 0 0) 0 0 115 [(0, .ref (gl_b Y + 22)), (1, .int (i32 x1)), (3, .int (i32 x3)), (4, .int (i32 x4))] [] RV iv av 116
set_option maxHeartbeats 4000000 in
set_option maxRecDepth 100000 in
theorem w_X8_tellSame_115 {Y : Gl} {X : Cx} {e : Nat} {P : PN} {x1 : Int} {x3 : Int} {x4 : Int} {iv av : IVt} (C : CX Y X RX8 "tellSame" cX8_tellSame 5 none (e + 1) 0 0) (hx1 : InR x1) (hx3 : InR x3) (hx4 : InR x4) (h :
    ((x3 ≤ x4) →
      P 0 iv av
    ) ∧
    ((¬ x3 ≤ x4) →
      OkN Y e mX8_addTold [.ref (gl_b Y + 22), .int (i32 x1), .int (i32 0)] RV iv av 116 (fun r2 iv3 av4 =>
        L_X8_tellSame_115 Y X P x1 x3 (x4 + 1) iv3 av4
      )
    )) : L_X8_tellSame_115 Y X P x1 x3 x4 iv av := by
  unfold L_X8_tellSame_115
  refine r_iload (pc' := 117) C 3 rfl dX8_tellSame_115 rfl ?_
  refine r_iload_n (pc' := 118) C 2 rfl rfl dX8_tellSame_117 rfl ?_
  refine r_icmp_ge (pc' := 121) (tgt := 133) C hx4 hx3 dX8_tellSame_118 (by decide) rfl (fun c1 => ?_) (fun c1 => ?_)
  · replace h := h.1 c1
    exact r_vret C ⟨rfl, rfl, h⟩ dX8_tellSame_133
  · replace h := h.2 c1
    refine r_aload_n (pc' := 122) C 0 rfl rfl dX8_tellSame_121 rfl ?_
    refine r_iload_n (pc' := 123) C 1 rfl rfl dX8_tellSame_122 rfl ?_
    refine r_iconst (pc' := 124) C dX8_tellSame_123 rfl ?_
    refine c_Vv (pc' := 127) (mt := mX8_addTold) (as := [.int (i32 x1), .int (i32 0)]) (st := []) (k := 22) C h rfl cl_X8_addTold ml_X8_201 im_X8_addTold sl_X8_addTold (by omega) (Nat.le_refl _) (Nat.le_refl _) rfl (by decide) kc_22 (by decide) rfl rfl rfl (Nat.le_of_ble_eq_true rfl) dX8_tellSame_124 rfl (fun r2 iv3 av4 h => ?_)
    refine r_iinc (pc' := 130) (ls' := [(0, .ref (gl_b Y + 22)), (1, .int (i32 x1)), (3, .int (i32 x3)), (4, .int (i32 (x4 + 1)))]) C 3 rfl (by decide) rfl dX8_tellSame_127 rfl ?_
    refine r_goto (tgt := 115) C dX8_tellSame_130 (by decide) ?_
    exact Wa.sub [0, 1, 2, 3] rfl h
set_option maxHeartbeats 4000000 in
set_option maxRecDepth 100000 in
theorem w_X8_tellSame_77 {Y : Gl} {X : Cx} {e : Nat} {P : PN} {x1 : Int} {x3 : Int} {iv av : IVt} (C : CX Y X RX8 "tellSame" cX8_tellSame 5 none (e + 1) 0 0) (hx1 : InR x1) (hx3 : InR x3) (h :
    ((x1 ≤ 0) →
      L_X8_tellSame_115 Y X P x1 x3 0 iv av
    ) ∧
    ((¬ x1 ≤ 0) →
      ((x3 < 3) →
        L_X8_tellSame_115 Y X P x1 x3 0 iv av
      ) ∧
      ((¬ x3 < 3) →
        (InR ((min x3 6) - 3)) ∧
        OkN Y e mX8_addTold [.ref (gl_b Y + 22), .int (i32 16), .int (i32 ((min x3 6) - 3))] RV iv av 116 (fun r4 iv5 av6 =>
          L_X8_tellSame_77 Y X P x1 (x3 - (min x3 6)) iv5 av6
        )
      )
    )) : L_X8_tellSame_77 Y X P x1 x3 iv av := by
  unfold L_X8_tellSame_77
  refine r_iload_n (pc' := 78) C 1 rfl rfl dX8_tellSame_77 rfl ?_
  refine r_if_le (pc' := 81) (tgt := 112) C hx1 dX8_tellSame_78 (by decide) rfl (fun c1 => ?_) (fun c1 => ?_)
  · replace h := h.1 c1
    refine r_iconst (pc' := 113) C dX8_tellSame_112 rfl ?_
    refine r_istore (pc' := 115) (ls' := [(0, .ref (gl_b Y + 22)), (1, .int (i32 x1)), (3, .int (i32 x3)), (4, .int (i32 0))]) C (by decide) rfl dX8_tellSame_113 rfl ?_
    exact Wa.sub [0, 1, 2, 3] rfl h
  · replace h := h.2 c1
    refine r_iload_n (pc' := 82) C 2 rfl rfl dX8_tellSame_81 rfl ?_
    refine r_iconst (pc' := 83) C dX8_tellSame_82 rfl ?_
    refine r_icmp_lt (pc' := 86) (tgt := 112) C hx3 (by decide) dX8_tellSame_83 (by decide) rfl (fun c2 => ?_) (fun c2 => ?_)
    · replace h := h.1 c2
      refine r_iconst (pc' := 113) C dX8_tellSame_112 rfl ?_
      refine r_istore (pc' := 115) (ls' := [(0, .ref (gl_b Y + 22)), (1, .int (i32 x1)), (3, .int (i32 x3)), (4, .int (i32 0))]) C (by decide) rfl dX8_tellSame_113 rfl ?_
      exact Wa.sub [0, 1, 2, 3] rfl h
    · replace h := h.2 c2
      refine r_iload_n (pc' := 87) C 2 rfl rfl dX8_tellSame_86 rfl ?_
      refine r_bipush (pc' := 89) C dX8_tellSame_87 (by decide) rfl ?_
      refine r_min (pc' := 92) C ml_X8_85 wd_min_s wd_math wd_min_c (by omega) (Nat.le_of_ble_eq_true rfl) (Nat.le_refl _) (Nat.le_refl _) hx3 (by decide) dX8_tellSame_89 rfl ?_
      refine r_istore (pc' := 94) (ls' := [(0, .ref (gl_b Y + 22)), (1, .int (i32 x1)), (3, .int (i32 x3)), (4, .int (i32 (min x3 6)))]) C (by decide) rfl dX8_tellSame_92 rfl ?_
      refine r_aload_n (pc' := 95) C 0 rfl rfl dX8_tellSame_94 rfl ?_
      refine r_bipush (pc' := 97) C dX8_tellSame_95 (by decide) rfl ?_
      refine r_iload (pc' := 99) C 3 rfl dX8_tellSame_97 rfl ?_
      refine r_iconst (pc' := 100) C dX8_tellSame_99 rfl ?_
      refine r_isub (pc' := 101) C dX8_tellSame_100 rfl ?_
      have o3 := h.1
      replace h := h.2
      refine c_Vv (pc' := 104) (mt := mX8_addTold) (as := [.int (i32 16), .int (i32 ((min x3 6) - 3))]) (st := []) (k := 22) C h rfl cl_X8_addTold ml_X8_201 im_X8_addTold sl_X8_addTold (by omega) (Nat.le_refl _) (Nat.le_refl _) rfl (by decide) kc_22 (by decide) rfl rfl rfl (Nat.le_of_ble_eq_true rfl) dX8_tellSame_101 rfl (fun r4 iv5 av6 h => ?_)
      refine r_iload_n (pc' := 105) C 2 rfl rfl dX8_tellSame_104 rfl ?_
      refine r_iload (pc' := 107) C 3 rfl dX8_tellSame_105 rfl ?_
      refine r_isub (pc' := 108) C dX8_tellSame_107 rfl ?_
      refine r_istore_n (pc' := 109) (ls' := [(0, .ref (gl_b Y + 22)), (1, .int (i32 x1)), (3, .int (i32 (x3 - (min x3 6)))), (4, .int (i32 (min x3 6)))]) C (by decide) rfl rfl dX8_tellSame_108 rfl ?_
      refine r_goto (tgt := 77) C dX8_tellSame_109 (by decide) ?_
      exact Wa.sub [0, 1, 2] rfl h
set_option maxHeartbeats 4000000 in
set_option maxRecDepth 100000 in
theorem w_X8_tellSame_19 {Y : Gl} {X : Cx} {e : Nat} {P : PN} {x1 : Int} {x3 : Int} {iv av : IVt} (C : CX Y X RX8 "tellSame" cX8_tellSame 5 none (e + 1) 0 0) (hx1 : InR x1) (hx3 : InR x3) (h :
    ((¬ x1 = 0) →
      ((¬ x1 = 0) →
        L_X8_tellSame_77 Y X P x1 x3 iv av
      ) ∧
      ((x1 = 0) →
        ((x3 < 3) →
          L_X8_tellSame_77 Y X P x1 x3 iv av
        ) ∧
        ((¬ x3 < 3) →
          (InR (x3 - 3)) ∧
          OkN Y e mX8_addTold [.ref (gl_b Y + 22), .int (i32 17), .int (i32 (x3 - 3))] RV iv av 116 (fun r5 iv6 av7 =>
            L_X8_tellSame_77 Y X P x1 0 iv6 av7
          )
        )
      )
    ) ∧
    ((x1 = 0) →
      ((x3 < 11) →
        ((¬ x1 = 0) →
          L_X8_tellSame_77 Y X P x1 x3 iv av
        ) ∧
        ((x1 = 0) →
          ((x3 < 3) →
            L_X8_tellSame_77 Y X P x1 x3 iv av
          ) ∧
          ((¬ x3 < 3) →
            (InR (x3 - 3)) ∧
            OkN Y e mX8_addTold [.ref (gl_b Y + 22), .int (i32 17), .int (i32 (x3 - 3))] RV iv av 116 (fun r13 iv14 av15 =>
              L_X8_tellSame_77 Y X P x1 0 iv14 av15
            )
          )
        )
      ) ∧
      ((¬ x3 < 11) →
        (InR ((min x3 138) - 11)) ∧
        OkN Y e mX8_addTold [.ref (gl_b Y + 22), .int (i32 18), .int (i32 ((min x3 138) - 11))] RV iv av 116 (fun r18 iv19 av20 =>
          L_X8_tellSame_19 Y X P x1 (x3 - (min x3 138)) iv19 av20
        )
      )
    )) : L_X8_tellSame_19 Y X P x1 x3 iv av := by
  unfold L_X8_tellSame_19
  refine r_iload_n (pc' := 20) C 1 rfl rfl dX8_tellSame_19 rfl ?_
  refine r_if_ne (pc' := 23) (tgt := 57) C hx1 dX8_tellSame_20 (by decide) rfl (fun c1 => ?_) (fun c1 => ?_)
  · replace h := h.1 c1
    refine r_iload_n (pc' := 58) C 1 rfl rfl dX8_tellSame_57 rfl ?_
    refine r_if_ne (pc' := 61) (tgt := 77) C hx1 dX8_tellSame_58 (by decide) rfl (fun c2 => ?_) (fun c2 => ?_)
    · replace h := h.1 c2
      exact Wa.sub [0, 1, 2] rfl h
    · replace h := h.2 c2
      refine r_iload_n (pc' := 62) C 2 rfl rfl dX8_tellSame_61 rfl ?_
      refine r_iconst (pc' := 63) C dX8_tellSame_62 rfl ?_
      refine r_icmp_lt (pc' := 66) (tgt := 77) C hx3 (by decide) dX8_tellSame_63 (by decide) rfl (fun c3 => ?_) (fun c3 => ?_)
      · replace h := h.1 c3
        exact Wa.sub [0, 1, 2] rfl h
      · replace h := h.2 c3
        refine r_aload_n (pc' := 67) C 0 rfl rfl dX8_tellSame_66 rfl ?_
        refine r_bipush (pc' := 69) C dX8_tellSame_67 (by decide) rfl ?_
        refine r_iload_n (pc' := 70) C 2 rfl rfl dX8_tellSame_69 rfl ?_
        refine r_iconst (pc' := 71) C dX8_tellSame_70 rfl ?_
        refine r_isub (pc' := 72) C dX8_tellSame_71 rfl ?_
        have o4 := h.1
        replace h := h.2
        refine c_Vv (pc' := 75) (mt := mX8_addTold) (as := [.int (i32 17), .int (i32 (x3 - 3))]) (st := []) (k := 22) C h rfl cl_X8_addTold ml_X8_201 im_X8_addTold sl_X8_addTold (by omega) (Nat.le_refl _) (Nat.le_refl _) rfl (by decide) kc_22 (by decide) rfl rfl rfl (Nat.le_of_ble_eq_true rfl) dX8_tellSame_72 rfl (fun r5 iv6 av7 h => ?_)
        refine r_iconst (pc' := 76) C dX8_tellSame_75 rfl ?_
        refine r_istore_n (pc' := 77) (ls' := [(0, .ref (gl_b Y + 22)), (1, .int (i32 x1)), (3, .int (i32 0))]) C (by decide) rfl rfl dX8_tellSame_76 rfl ?_
        exact Wa.sub [0, 1, 2] rfl h
  · replace h := h.2 c1
    refine r_iload_n (pc' := 24) C 2 rfl rfl dX8_tellSame_23 rfl ?_
    refine r_bipush (pc' := 26) C dX8_tellSame_24 (by decide) rfl ?_
    refine r_icmp_lt (pc' := 29) (tgt := 57) C hx3 (by decide) dX8_tellSame_26 (by decide) rfl (fun c9 => ?_) (fun c9 => ?_)
    · replace h := h.1 c9
      refine r_iload_n (pc' := 58) C 1 rfl rfl dX8_tellSame_57 rfl ?_
      refine r_if_ne (pc' := 61) (tgt := 77) C hx1 dX8_tellSame_58 (by decide) rfl (fun c10 => ?_) (fun c10 => ?_)
      · replace h := h.1 c10
        exact Wa.sub [0, 1, 2] rfl h
      · replace h := h.2 c10
        refine r_iload_n (pc' := 62) C 2 rfl rfl dX8_tellSame_61 rfl ?_
        refine r_iconst (pc' := 63) C dX8_tellSame_62 rfl ?_
        refine r_icmp_lt (pc' := 66) (tgt := 77) C hx3 (by decide) dX8_tellSame_63 (by decide) rfl (fun c11 => ?_) (fun c11 => ?_)
        · replace h := h.1 c11
          exact Wa.sub [0, 1, 2] rfl h
        · replace h := h.2 c11
          refine r_aload_n (pc' := 67) C 0 rfl rfl dX8_tellSame_66 rfl ?_
          refine r_bipush (pc' := 69) C dX8_tellSame_67 (by decide) rfl ?_
          refine r_iload_n (pc' := 70) C 2 rfl rfl dX8_tellSame_69 rfl ?_
          refine r_iconst (pc' := 71) C dX8_tellSame_70 rfl ?_
          refine r_isub (pc' := 72) C dX8_tellSame_71 rfl ?_
          have o12 := h.1
          replace h := h.2
          refine c_Vv (pc' := 75) (mt := mX8_addTold) (as := [.int (i32 17), .int (i32 (x3 - 3))]) (st := []) (k := 22) C h rfl cl_X8_addTold ml_X8_201 im_X8_addTold sl_X8_addTold (by omega) (Nat.le_refl _) (Nat.le_refl _) rfl (by decide) kc_22 (by decide) rfl rfl rfl (Nat.le_of_ble_eq_true rfl) dX8_tellSame_72 rfl (fun r13 iv14 av15 h => ?_)
          refine r_iconst (pc' := 76) C dX8_tellSame_75 rfl ?_
          refine r_istore_n (pc' := 77) (ls' := [(0, .ref (gl_b Y + 22)), (1, .int (i32 x1)), (3, .int (i32 0))]) C (by decide) rfl rfl dX8_tellSame_76 rfl ?_
          exact Wa.sub [0, 1, 2] rfl h
    · replace h := h.2 c9
      refine r_iload_n (pc' := 30) C 2 rfl rfl dX8_tellSame_29 rfl ?_
      refine r_sipush (pc' := 33) C dX8_tellSame_30 (by decide) rfl ?_
      refine r_min (pc' := 36) C ml_X8_85 wd_min_s wd_math wd_min_c (by omega) (Nat.le_of_ble_eq_true rfl) (Nat.le_refl _) (Nat.le_refl _) hx3 (by decide) dX8_tellSame_33 rfl ?_
      refine r_istore (pc' := 38) (ls' := [(0, .ref (gl_b Y + 22)), (1, .int (i32 x1)), (3, .int (i32 x3)), (4, .int (i32 (min x3 138)))]) C (by decide) rfl dX8_tellSame_36 rfl ?_
      refine r_aload_n (pc' := 39) C 0 rfl rfl dX8_tellSame_38 rfl ?_
      refine r_bipush (pc' := 41) C dX8_tellSame_39 (by decide) rfl ?_
      refine r_iload (pc' := 43) C 3 rfl dX8_tellSame_41 rfl ?_
      refine r_bipush (pc' := 45) C dX8_tellSame_43 (by decide) rfl ?_
      refine r_isub (pc' := 46) C dX8_tellSame_45 rfl ?_
      have o17 := h.1
      replace h := h.2
      refine c_Vv (pc' := 49) (mt := mX8_addTold) (as := [.int (i32 18), .int (i32 ((min x3 138) - 11))]) (st := []) (k := 22) C h rfl cl_X8_addTold ml_X8_201 im_X8_addTold sl_X8_addTold (by omega) (Nat.le_refl _) (Nat.le_refl _) rfl (by decide) kc_22 (by decide) rfl rfl rfl (Nat.le_of_ble_eq_true rfl) dX8_tellSame_46 rfl (fun r18 iv19 av20 h => ?_)
      refine r_iload_n (pc' := 50) C 2 rfl rfl dX8_tellSame_49 rfl ?_
      refine r_iload (pc' := 52) C 3 rfl dX8_tellSame_50 rfl ?_
      refine r_isub (pc' := 53) C dX8_tellSame_52 rfl ?_
      refine r_istore_n (pc' := 54) (ls' := [(0, .ref (gl_b Y + 22)), (1, .int (i32 x1)), (3, .int (i32 (x3 - (min x3 138)))), (4, .int (i32 (min x3 138)))]) C (by decide) rfl rfl dX8_tellSame_53 rfl ?_
      refine r_goto (tgt := 19) C dX8_tellSame_54 (by decide) ?_
      exact Wa.sub [0, 1, 2] rfl h
set_option maxHeartbeats 4000000 in
set_option maxRecDepth 100000 in
theorem o_X8_tellSame {Y : Gl} {e : Nat} {P : PN} {x1 : Int} {x2 : Int} {iv av : IVt} (hx1 : InR x1) (hx2 : InR x2) (h : ∀ X : Cx, CX Y X RX8 "tellSame" cX8_tellSame 5 none (e + 1) 0 0 →
    ((x1 ≤ 0) →
      L_X8_tellSame_19 Y X P x1 x2 iv av
    ) ∧
    ((¬ x1 ≤ 0) →
      ((x2 ≤ 0) →
        L_X8_tellSame_19 Y X P x1 x2 iv av
      ) ∧
      ((¬ x2 ≤ 0) →
        OkN Y e mX8_addTold [.ref (gl_b Y + 22), .int (i32 x1), .int (i32 0)] RV iv av 116 (fun r3 iv4 av5 =>
          L_X8_tellSame_19 Y X P x1 (x2 + (-1)) iv4 av5
        )
      )
    )) : OkN Y (e + 1) mX8_tellSame [.ref (gl_b Y + 22), .int (i32 x1), .int (i32 x2)] RV iv av 116 P := by
  refine OkW.of rfl (by show _ ≤ 5; exact Nat.le_of_ble_eq_true rfl) fun X C0 hR => ?_
  have C : CX Y X RX8 "tellSame" cX8_tellSame 5 none (e + 1) 0 0 := C0
  replace h := h X C
  show Wa Y X 5 (g_MQ Y X 0 (g_N RV 116 P) 0 0) 0 0 0 [(0, .ref (gl_b Y + 22)), (1, .int (i32 x1)), (2, .int (i32 x2))] [] RV iv av 116
  refine r_iload_n (pc' := 1) C 2 rfl rfl dX8_tellSame_0 rfl ?_
  refine r_istore_n (pc' := 2) (ls' := [(0, .ref (gl_b Y + 22)), (1, .int (i32 x1)), (2, .int (i32 x2)), (3, .int (i32 x2))]) C (by decide) rfl rfl dX8_tellSame_1 rfl ?_
  refine r_iload_n (pc' := 3) C 1 rfl rfl dX8_tellSame_2 rfl ?_
  refine r_if_le (pc' := 6) (tgt := 19) C hx1 dX8_tellSame_3 (by decide) rfl (fun c1 => ?_) (fun c1 => ?_)
  · replace h := h.1 c1
    exact Wa.sub [0, 1, 3] rfl h
  · replace h := h.2 c1
    refine r_iload_n (pc' := 7) C 3 rfl rfl dX8_tellSame_6 rfl ?_
    refine r_if_le (pc' := 10) (tgt := 19) C hx2 dX8_tellSame_7 (by decide) rfl (fun c2 => ?_) (fun c2 => ?_)
    · replace h := h.1 c2
      exact Wa.sub [0, 1, 3] rfl h
    · replace h := h.2 c2
      refine r_aload_n (pc' := 11) C 0 rfl rfl dX8_tellSame_10 rfl ?_
      refine r_iload_n (pc' := 12) C 1 rfl rfl dX8_tellSame_11 rfl ?_
      refine r_iconst (pc' := 13) C dX8_tellSame_12 rfl ?_
      refine c_Vv (pc' := 16) (mt := mX8_addTold) (as := [.int (i32 x1), .int (i32 0)]) (st := []) (k := 22) C h rfl cl_X8_addTold ml_X8_201 im_X8_addTold sl_X8_addTold (by omega) (Nat.le_refl _) (Nat.le_refl _) rfl (by decide) kc_22 (by decide) rfl rfl rfl (Nat.le_of_ble_eq_true rfl) dX8_tellSame_13 rfl (fun r3 iv4 av5 h => ?_)
      refine r_iinc (pc' := 19) (ls' := [(0, .ref (gl_b Y + 22)), (1, .int (i32 x1)), (2, .int (i32 x2)), (3, .int (i32 (x2 + (-1))))]) C 3 rfl (by decide) rfl dX8_tellSame_16 rfl ?_
      exact Wa.sub [0, 1, 3] rfl h
set_option maxHeartbeats 4000000 in
set_option maxRecDepth 100000 in
theorem o_X8_addTold {Y : Gl} {e : Nat} {P : PN} {x1 : Int} {x2 : Int} {iv av : IVt} (hx1 : InR x1) (hx2 : InR x2) (h : 
    ((InR (iv 22 14)) →
      (((iv 22 14) < 0) →
        P 0 iv av
      ) ∧
      ((¬ (iv 22 14) < 0) →
        ((320 ≤ (iv 22 14)) →
          P 0 iv av
        ) ∧
        ((¬ 320 ≤ (iv 22 14)) →
          ((320 ≤ (iv 22 14)) →
            P 0 iv av
          ) ∧
          ((¬ 320 ≤ (iv 22 14)) →
            (0 ≤ (iv 22 14) ∧ (iv 22 14) < 320) ∧
            (InR ((iv 22 14) + 1)) ∧
            P 0 (up2 iv 22 14 ((iv 22 14) + 1)) (up2 (up2 av 55 ((iv 22 14).toNat) x1) 56 ((iv 22 14).toNat) x2)
          )
        )
      )
    )) : OkN Y e mX8_addTold [.ref (gl_b Y + 22), .int (i32 x1), .int (i32 x2)] RV iv av 116 P := by
  refine OkW.of rfl (by show _ ≤ 3; exact Nat.le_of_ble_eq_true rfl) fun X C0 hR => ?_
  have C : CX Y X RX8 "addTold" cX8_addTold 3 none e 0 0 := C0
  show Wa Y X 3 (g_MQ Y X 0 (g_N RV 116 P) 0 0) 0 0 0 [(0, .ref (gl_b Y + 22)), (1, .int (i32 x1)), (2, .int (i32 x2))] [] RV iv av 116
  refine r_aload_n (pc' := 1) C 0 rfl rfl dX8_addTold_0 rfl ?_
  refine r_geti (pc' := 4) (k := 22) C fl_X8_180 (by decide) kc_22 (by decide) fr_8_14 dX8_addTold_1 rfl (fun f1 => ?_)
  replace h := h f1
  refine r_if_lt (pc' := 7) (tgt := 61) C f1 dX8_addTold_4 (by decide) rfl (fun c2 => ?_) (fun c2 => ?_)
  · replace h := h.1 c2
    exact r_vret C ⟨rfl, rfl, h⟩ dX8_addTold_61
  · replace h := h.2 c2
    refine r_aload_n (pc' := 8) C 0 rfl rfl dX8_addTold_7 rfl ?_
    refine r_geti (pc' := 11) (k := 22) C fl_X8_180 (by decide) kc_22 (by decide) fr_8_14 dX8_addTold_8 rfl (fun f3 => ?_)
    refine r_aload_n (pc' := 12) C 0 rfl rfl dX8_addTold_11 rfl ?_
    refine r_getr (pc' := 15) (k := 22) (r := 55) C fl_X8_53 (by decide) kc_22 (by decide) fr_8_12 RV_22_12 dX8_addTold_12 rfl ?_
    refine r_alen (pc' := 16) (k := 55) (v := 320) C (by decide) kc_55 (by decide) (by rw [kl_55]; rfl) dX8_addTold_15 rfl ?_
    refine r_icmp_ge (pc' := 19) (tgt := 61) C f1 (by decide) dX8_addTold_16 (by decide) rfl (fun c4 => ?_) (fun c4 => ?_)
    · replace h := h.1 c4
      exact r_vret C ⟨rfl, rfl, h⟩ dX8_addTold_61
    · replace h := h.2 c4
      refine r_aload_n (pc' := 20) C 0 rfl rfl dX8_addTold_19 rfl ?_
      refine r_geti (pc' := 23) (k := 22) C fl_X8_180 (by decide) kc_22 (by decide) fr_8_14 dX8_addTold_20 rfl (fun f5 => ?_)
      refine r_aload_n (pc' := 24) C 0 rfl rfl dX8_addTold_23 rfl ?_
      refine r_getr (pc' := 27) (k := 22) (r := 56) C fl_X8_56 (by decide) kc_22 (by decide) fr_8_13 RV_22_13 dX8_addTold_24 rfl ?_
      refine r_alen (pc' := 28) (k := 56) (v := 320) C (by decide) kc_56 (by decide) (by rw [kl_56]; rfl) dX8_addTold_27 rfl ?_
      refine r_icmp_ge (pc' := 31) (tgt := 61) C f1 (by decide) dX8_addTold_28 (by decide) rfl (fun c6 => ?_) (fun c6 => ?_)
      · replace h := h.1 c6
        exact r_vret C ⟨rfl, rfl, h⟩ dX8_addTold_61
      · replace h := h.2 c6
        refine r_aload_n (pc' := 32) C 0 rfl rfl dX8_addTold_31 rfl ?_
        refine r_getr (pc' := 35) (k := 22) (r := 55) C fl_X8_53 (by decide) kc_22 (by decide) fr_8_12 RV_22_12 dX8_addTold_32 rfl ?_
        refine r_aload_n (pc' := 36) C 0 rfl rfl dX8_addTold_35 rfl ?_
        refine r_geti (pc' := 39) (k := 22) C fl_X8_180 (by decide) kc_22 (by decide) fr_8_14 dX8_addTold_36 rfl (fun f7 => ?_)
        refine r_iload_n (pc' := 40) C 1 rfl rfl dX8_addTold_39 rfl ?_
        have o8 := h.1
        replace h := h.2
        refine r_iast (pc' := 41) (k := 55) C (by decide) kc_55 (by have := kl_55; omega) hx1 dX8_addTold_40 rfl ?_
        refine r_aload_n (pc' := 42) C 0 rfl rfl dX8_addTold_41 rfl ?_
        refine r_getr (pc' := 45) (k := 22) (r := 56) C fl_X8_56 (by decide) kc_22 (by decide) fr_8_13 RV_22_13 dX8_addTold_42 rfl ?_
        refine r_aload_n (pc' := 46) C 0 rfl rfl dX8_addTold_45 rfl ?_
        refine r_geti (pc' := 49) (k := 22) C fl_X8_180 (by decide) kc_22 (by decide) fr_8_14 dX8_addTold_46 rfl (fun f9 => ?_)
        refine r_iload_n (pc' := 50) C 2 rfl rfl dX8_addTold_49 rfl ?_
        refine r_iast (pc' := 51) (k := 56) C (by decide) kc_56 (by have := kl_56; omega) hx2 dX8_addTold_50 rfl ?_
        refine r_aload_n (pc' := 52) C 0 rfl rfl dX8_addTold_51 rfl ?_
        refine r_dup (pc' := 53) C rfl dX8_addTold_52 rfl ?_
        refine r_geti (pc' := 56) (k := 22) C fl_X8_180 (by decide) kc_22 (by decide) fr_8_14 dX8_addTold_53 rfl (fun f10 => ?_)
        refine r_iconst (pc' := 57) C dX8_addTold_56 rfl ?_
        refine r_iadd (pc' := 58) C dX8_addTold_57 rfl ?_
        have o11 := h.1
        replace h := h.2
        refine r_puti (pc' := 61) (k := 22) C fl_X8_180 (by decide) kc_22 (by decide) fr_8_14 o11 dX8_addTold_58 rfl ?_
        exact r_vret C ⟨rfl, rfl, h⟩ dX8_addTold_61
def L_X8_bestSort_24 (Y : Gl) (X : Cx) (P : PN) (x1 : Int) (x2 : Int) (x3 : Int) (iv av : IVt) : Prop := Wa Y X 6 (g_MQ Y X 1 (g_N RV 116 P) 0 0) 0 0 24 [(0, .ref (gl_b Y + 22)), (1, .int (i32 x1)), (2, .int (i32 x2)), (3, .int (i32 x3))] [] RV iv av 116
def L_X8_bestSort_159 (Y : Gl) (X : Cx) (P : PN) (x3 : Int) (x4 : Int) (iv av : IVt) : Prop := Wa Y X 6 (g_MQ Y X 1 (g_N RV 116 P) 0 0) 0 0 159 [(3, .int (i32 x3)), (4, .int (i32 x4))] [] RV iv av 116
set_option maxHeartbeats 4000000 in
set_option maxRecDepth 100000 in
theorem w_X8_bestSort_159 {Y : Gl} {X : Cx} {e : Nat} {P : PN} {x3 : Int} {x4 : Int} {iv av : IVt} (C : CX Y X RX8 "bestSort" cX8_bestSort 6 (some .int) (e + 2) 0 0) (hx3 : InR x3) (hx4 : InR x4) (h :
    ((x3 < x4) →
      P 2 iv av
    ) ∧
    ((¬ x3 < x4) →
      P 1 iv av
    )) : L_X8_bestSort_159 Y X P x3 x4 iv av := by
  unfold L_X8_bestSort_159
  refine r_iload (pc' := 161) C 1 rfl dX8_bestSort_159 rfl ?_
  refine r_iload_n (pc' := 162) C 0 rfl rfl dX8_bestSort_161 rfl ?_
  refine r_icmp_gt (pc' := 165) (tgt := 169) C hx4 hx3 dX8_bestSort_162 (by decide) rfl (fun c1 => ?_) (fun c1 => ?_)
  · replace h := h.1 c1
    refine r_iconst (pc' := 170) C dX8_bestSort_169 rfl ?_
    exact r_iret C (by decide) ⟨rfl, rfl, h⟩ dX8_bestSort_170
  · replace h := h.2 c1
    refine r_iconst (pc' := 166) C dX8_bestSort_165 rfl ?_
    refine r_goto (tgt := 170) C dX8_bestSort_166 (by decide) ?_
    exact r_iret C (by decide) ⟨rfl, rfl, h⟩ dX8_bestSort_170
set_option maxHeartbeats 4000000 in
set_option maxRecDepth 100000 in
theorem w_X8_bestSort_24 {Y : Gl} {X : Cx} {e : Nat} {P : PN} {x1 : Int} {x2 : Int} {x3 : Int} {iv av : IVt} (C : CX Y X RX8 "bestSort" cX8_bestSort 6 (some .int) (e + 2) 0 0) (hx3 : InR x3) (h :
    ((InR (iv 22 14)) →
      (((iv 22 14) ≤ x3) →
        OkN Y (e + 1) mX3_bitsFor [.ref (gl_b Y + 33), .ref (gl_b Y + 33)] RV iv av 116 (fun r3 iv4 av5 =>
          (InR r3) →
          OkN Y (e + 1) mX3_bitsFor [.ref (gl_b Y + 37), .ref (gl_b Y + 37)] RV iv4 av5 116 (fun r7 iv8 av9 =>
            (InR r7) →
            ((InR (iv8 22 11)) →
              OkN Y (e + 1) mX3_bitsFor [.ref (gl_b Y + 45), .ref (gl_b Y + 33)] RV iv8 av9 116 (fun r12 iv13 av14 =>
                (InR r12) →
                OkN Y (e + 1) mX3_bitsFor [.ref (gl_b Y + 49), .ref (gl_b Y + 37)] RV iv13 av14 116 (fun r16 iv17 av18 =>
                  (InR r16) →
                  ((InR (iv17 22 11)) →
                    OkN Y (e + 1) mX0_bitsToByte [.ref (gl_b Y + 57), .int (i32 3)] RV iv17 av18 116 (fun r21 iv22 av23 =>
                      (InR r21) →
                      (InR (((3 + r21) + 32) + (8 * x1))) ∧
                      (InR (((3 + r12) + r16) + (iv17 22 11))) ∧
                      (((((3 + r12) + r16) + (iv17 22 11)) < (((3 + r21) + 32) + (8 * x1))) →
                        L_X8_bestSort_159 Y X P ((((3 + x2) + r3) + r7) + (iv8 22 11)) (((3 + r12) + r16) + (iv17 22 11)) iv22 av23
                      ) ∧
                      ((¬ (((3 + r12) + r16) + (iv17 22 11)) < (((3 + r21) + 32) + (8 * x1))) →
                        (InR ((((3 + x2) + r3) + r7) + (iv8 22 11))) ∧
                        ((((((3 + x2) + r3) + r7) + (iv8 22 11)) < (((3 + r21) + 32) + (8 * x1))) →
                          L_X8_bestSort_159 Y X P ((((3 + x2) + r3) + r7) + (iv8 22 11)) (((3 + r12) + r16) + (iv17 22 11)) iv22 av23
                        ) ∧
                        ((¬ ((((3 + x2) + r3) + r7) + (iv8 22 11)) < (((3 + r21) + 32) + (8 * x1))) →
                          P 0 iv22 av23
                        )
                      )
                    )
                  )
                )
              )
            )
          )
        )
      ) ∧
      ((¬ (iv 22 14) ≤ x3) →
        ((320 ≤ x3) →
          OkN Y (e + 1) mX3_bitsFor [.ref (gl_b Y + 33), .ref (gl_b Y + 33)] RV iv av 116 (fun r31 iv32 av33 =>
            (InR r31) →
            OkN Y (e + 1) mX3_bitsFor [.ref (gl_b Y + 37), .ref (gl_b Y + 37)] RV iv32 av33 116 (fun r35 iv36 av37 =>
              (InR r35) →
              ((InR (iv36 22 11)) →
                OkN Y (e + 1) mX3_bitsFor [.ref (gl_b Y + 45), .ref (gl_b Y + 33)] RV iv36 av37 116 (fun r40 iv41 av42 =>
                  (InR r40) →
                  OkN Y (e + 1) mX3_bitsFor [.ref (gl_b Y + 49), .ref (gl_b Y + 37)] RV iv41 av42 116 (fun r44 iv45 av46 =>
                    (InR r44) →
                    ((InR (iv45 22 11)) →
                      OkN Y (e + 1) mX0_bitsToByte [.ref (gl_b Y + 57), .int (i32 3)] RV iv45 av46 116 (fun r49 iv50 av51 =>
                        (InR r49) →
                        (InR (((3 + r49) + 32) + (8 * x1))) ∧
                        (InR (((3 + r40) + r44) + (iv45 22 11))) ∧
                        (((((3 + r40) + r44) + (iv45 22 11)) < (((3 + r49) + 32) + (8 * x1))) →
                          L_X8_bestSort_159 Y X P ((((3 + x2) + r31) + r35) + (iv36 22 11)) (((3 + r40) + r44) + (iv45 22 11)) iv50 av51
                        ) ∧
                        ((¬ (((3 + r40) + r44) + (iv45 22 11)) < (((3 + r49) + 32) + (8 * x1))) →
                          (InR ((((3 + x2) + r31) + r35) + (iv36 22 11))) ∧
                          ((((((3 + x2) + r31) + r35) + (iv36 22 11)) < (((3 + r49) + 32) + (8 * x1))) →
                            L_X8_bestSort_159 Y X P ((((3 + x2) + r31) + r35) + (iv36 22 11)) (((3 + r40) + r44) + (iv45 22 11)) iv50 av51
                          ) ∧
                          ((¬ ((((3 + x2) + r31) + r35) + (iv36 22 11)) < (((3 + r49) + 32) + (8 * x1))) →
                            P 0 iv50 av51
                          )
                        )
                      )
                    )
                  )
                )
              )
            )
          )
        ) ∧
        ((¬ 320 ≤ x3) →
          (0 ≤ x3 ∧ x3 < 320) ∧
          ((InR (av 55 x3.toNat)) →
            OkN Y (e + 1) mX11_sizeBits [.int (i32 (av 55 x3.toNat))] RV iv av 116 (fun r60 iv61 av62 =>
              (InR r60) →
              L_X8_bestSort_24 Y X P x1 (x2 + r60) (x3 + 1) iv61 av62
            )
          )
        )
      )
    )) : L_X8_bestSort_24 Y X P x1 x2 x3 iv av := by
  unfold L_X8_bestSort_24
  refine r_iload_n (pc' := 25) C 3 rfl rfl dX8_bestSort_24 rfl ?_
  refine r_aload_n (pc' := 26) C 0 rfl rfl dX8_bestSort_25 rfl ?_
  refine r_geti (pc' := 29) (k := 22) C fl_X8_180 (by decide) kc_22 (by decide) fr_8_14 dX8_bestSort_26 rfl (fun f1 => ?_)
  replace h := h f1
  refine r_icmp_ge (pc' := 32) (tgt := 59) C hx3 f1 dX8_bestSort_29 (by decide) rfl (fun c2 => ?_) (fun c2 => ?_)
  · replace h := h.1 c2
    refine r_iconst (pc' := 60) C dX8_bestSort_59 rfl ?_
    refine r_iload_n (pc' := 61) C 2 rfl rfl dX8_bestSort_60 rfl ?_
    refine r_iadd (pc' := 62) C dX8_bestSort_61 rfl ?_
    refine r_aload_n (pc' := 63) C 0 rfl rfl dX8_bestSort_62 rfl ?_
    refine r_getr (pc' := 66) (k := 22) (r := 33) C fl_X8_30 (by decide) kc_22 (by decide) fr_8_3 RV_22_3 dX8_bestSort_63 rfl ?_
    refine r_aload_n (pc' := 67) C 0 rfl rfl dX8_bestSort_66 rfl ?_
    refine r_getr (pc' := 70) (k := 22) (r := 33) C fl_X8_30 (by decide) kc_22 (by decide) fr_8_3 RV_22_3 dX8_bestSort_67 rfl ?_
    refine c_Vi (pc' := 73) (mt := mX3_bitsFor) (as := [.ref (gl_b Y + 33)]) (st := [.int (i32 (3 + x2))]) (k := 33) C h rfl cl_X3_bitsFor ml_X8_207 im_X3_bitsFor sl_X3_bitsFor (by omega) (Nat.le_refl _) (Nat.le_refl _) rfl (by decide) kc_33 (by decide) rfl rfl rfl (Nat.le_of_ble_eq_true rfl) dX8_bestSort_70 rfl (fun r3 iv4 av5 f6 h => ?_)
    replace h := h f6
    refine r_iadd (pc' := 74) C dX8_bestSort_73 rfl ?_
    refine r_aload_n (pc' := 75) C 0 rfl rfl dX8_bestSort_74 rfl ?_
    refine r_getr (pc' := 78) (k := 22) (r := 37) C fl_X8_34 (by decide) kc_22 (by decide) fr_8_4 RV_22_4 dX8_bestSort_75 rfl ?_
    refine r_aload_n (pc' := 79) C 0 rfl rfl dX8_bestSort_78 rfl ?_
    refine r_getr (pc' := 82) (k := 22) (r := 37) C fl_X8_34 (by decide) kc_22 (by decide) fr_8_4 RV_22_4 dX8_bestSort_79 rfl ?_
    refine c_Vi (pc' := 85) (mt := mX3_bitsFor) (as := [.ref (gl_b Y + 37)]) (st := [.int (i32 ((3 + x2) + r3))]) (k := 37) C h rfl cl_X3_bitsFor ml_X8_207 im_X3_bitsFor sl_X3_bitsFor (by omega) (Nat.le_refl _) (Nat.le_refl _) rfl (by decide) kc_37 (by decide) rfl rfl rfl (Nat.le_of_ble_eq_true rfl) dX8_bestSort_82 rfl (fun r7 iv8 av9 f10 h => ?_)
    replace h := h f10
    refine r_iadd (pc' := 86) C dX8_bestSort_85 rfl ?_
    refine r_aload_n (pc' := 87) C 0 rfl rfl dX8_bestSort_86 rfl ?_
    refine r_geti (pc' := 90) (k := 22) C fl_X8_126 (by decide) kc_22 (by decide) fr_8_11 dX8_bestSort_87 rfl (fun f11 => ?_)
    replace h := h f11
    refine r_iadd (pc' := 91) C dX8_bestSort_90 rfl ?_
    refine r_istore_n (pc' := 92) (ls' := [(0, .ref (gl_b Y + 22)), (1, .int (i32 x1)), (2, .int (i32 x2)), (3, .int (i32 ((((3 + x2) + r3) + r7) + (iv8 22 11))))]) C (by decide) rfl rfl dX8_bestSort_91 rfl ?_
    refine r_iconst (pc' := 93) C dX8_bestSort_92 rfl ?_
    refine r_aload_n (pc' := 94) C 0 rfl rfl dX8_bestSort_93 rfl ?_
    refine r_getr (pc' := 97) (k := 22) (r := 45) C fl_X8_40 (by decide) kc_22 (by decide) fr_8_6 RV_22_6 dX8_bestSort_94 rfl ?_
    refine r_aload_n (pc' := 98) C 0 rfl rfl dX8_bestSort_97 rfl ?_
    refine r_getr (pc' := 101) (k := 22) (r := 33) C fl_X8_30 (by decide) kc_22 (by decide) fr_8_3 RV_22_3 dX8_bestSort_98 rfl ?_
    refine c_Vi (pc' := 104) (mt := mX3_bitsFor) (as := [.ref (gl_b Y + 33)]) (st := [.int (i32 3)]) (k := 45) C h rfl cl_X3_bitsFor ml_X8_207 im_X3_bitsFor sl_X3_bitsFor (by omega) (Nat.le_refl _) (Nat.le_refl _) rfl (by decide) kc_45 (by decide) rfl rfl rfl (Nat.le_of_ble_eq_true rfl) dX8_bestSort_101 rfl (fun r12 iv13 av14 f15 h => ?_)
    replace h := h f15
    refine r_iadd (pc' := 105) C dX8_bestSort_104 rfl ?_
    refine r_aload_n (pc' := 106) C 0 rfl rfl dX8_bestSort_105 rfl ?_
    refine r_getr (pc' := 109) (k := 22) (r := 49) C fl_X8_43 (by decide) kc_22 (by decide) fr_8_7 RV_22_7 dX8_bestSort_106 rfl ?_
    refine r_aload_n (pc' := 110) C 0 rfl rfl dX8_bestSort_109 rfl ?_
    refine r_getr (pc' := 113) (k := 22) (r := 37) C fl_X8_34 (by decide) kc_22 (by decide) fr_8_4 RV_22_4 dX8_bestSort_110 rfl ?_
    refine c_Vi (pc' := 116) (mt := mX3_bitsFor) (as := [.ref (gl_b Y + 37)]) (st := [.int (i32 (3 + r12))]) (k := 49) C h rfl cl_X3_bitsFor ml_X8_207 im_X3_bitsFor sl_X3_bitsFor (by omega) (Nat.le_refl _) (Nat.le_refl _) rfl (by decide) kc_49 (by decide) rfl rfl rfl (Nat.le_of_ble_eq_true rfl) dX8_bestSort_113 rfl (fun r16 iv17 av18 f19 h => ?_)
    replace h := h f19
    refine r_iadd (pc' := 117) C dX8_bestSort_116 rfl ?_
    refine r_aload_n (pc' := 118) C 0 rfl rfl dX8_bestSort_117 rfl ?_
    refine r_geti (pc' := 121) (k := 22) C fl_X8_126 (by decide) kc_22 (by decide) fr_8_11 dX8_bestSort_118 rfl (fun f20 => ?_)
    replace h := h f20
    refine r_iadd (pc' := 122) C dX8_bestSort_121 rfl ?_
    refine r_istore (pc' := 124) (ls' := [(0, .ref (gl_b Y + 22)), (1, .int (i32 x1)), (2, .int (i32 x2)), (3, .int (i32 ((((3 + x2) + r3) + r7) + (iv8 22 11)))), (4, .int (i32 (((3 + r12) + r16) + (iv17 22 11))))]) C (by decide) rfl dX8_bestSort_122 rfl ?_
    refine r_iconst (pc' := 125) C dX8_bestSort_124 rfl ?_
    refine r_aload_n (pc' := 126) C 0 rfl rfl dX8_bestSort_125 rfl ?_
    refine r_getr (pc' := 129) (k := 22) (r := 57) C fl_X8_64 (by decide) kc_22 (by decide) fr_8_0 RV_22_0 dX8_bestSort_126 rfl ?_
    refine r_iconst (pc' := 130) C dX8_bestSort_129 rfl ?_
    refine c_Vi (pc' := 133) (mt := mX0_bitsToByte) (as := [.int (i32 3)]) (st := [.int (i32 3)]) (k := 57) C h rfl cl_X0_bitsToByte ml_X8_214 im_X0_bitsToByte sl_X0_bitsToByte (by omega) (Nat.le_refl _) (Nat.le_refl _) rfl (by decide) kc_57 (by decide) rfl rfl rfl (Nat.le_of_ble_eq_true rfl) dX8_bestSort_130 rfl (fun r21 iv22 av23 f24 h => ?_)
    replace h := h f24
    refine r_iadd (pc' := 134) C dX8_bestSort_133 rfl ?_
    refine r_bipush (pc' := 136) C dX8_bestSort_134 (by decide) rfl ?_
    refine r_iadd (pc' := 137) C dX8_bestSort_136 rfl ?_
    refine r_bipush (pc' := 139) C dX8_bestSort_137 (by decide) rfl ?_
    refine r_iload_n (pc' := 140) C 1 rfl rfl dX8_bestSort_139 rfl ?_
    refine r_imul (pc' := 141) C dX8_bestSort_140 rfl ?_
    refine r_iadd (pc' := 142) C dX8_bestSort_141 rfl ?_
    refine r_istore (pc' := 144) (ls' := [(0, .ref (gl_b Y + 22)), (1, .int (i32 x1)), (2, .int (i32 x2)), (3, .int (i32 ((((3 + x2) + r3) + r7) + (iv8 22 11)))), (4, .int (i32 (((3 + r12) + r16) + (iv17 22 11)))), (5, .int (i32 (((3 + r21) + 32) + (8 * x1))))]) C (by decide) rfl dX8_bestSort_142 rfl ?_
    refine r_iload (pc' := 146) C 5 rfl dX8_bestSort_144 rfl ?_
    refine r_iload (pc' := 148) C 4 rfl dX8_bestSort_146 rfl ?_
    have o25 := h.1
    replace h := h.2
    have o26 := h.1
    replace h := h.2
    refine r_icmp_gt (pc' := 151) (tgt := 159) C o25 o26 dX8_bestSort_148 (by decide) rfl (fun c27 => ?_) (fun c27 => ?_)
    · replace h := h.1 c27
      exact Wa.sub [3, 4] rfl h
    · replace h := h.2 c27
      refine r_iload (pc' := 153) C 5 rfl dX8_bestSort_151 rfl ?_
      refine r_iload_n (pc' := 154) C 3 rfl rfl dX8_bestSort_153 rfl ?_
      have o28 := h.1
      replace h := h.2
      refine r_icmp_gt (pc' := 157) (tgt := 159) C o25 o28 dX8_bestSort_154 (by decide) rfl (fun c29 => ?_) (fun c29 => ?_)
      · replace h := h.1 c29
        exact Wa.sub [3, 4] rfl h
      · replace h := h.2 c29
        refine r_iconst (pc' := 158) C dX8_bestSort_157 rfl ?_
        exact r_iret C (by decide) ⟨rfl, rfl, h⟩ dX8_bestSort_158
  · replace h := h.2 c2
    refine r_iload_n (pc' := 33) C 3 rfl rfl dX8_bestSort_32 rfl ?_
    refine r_aload_n (pc' := 34) C 0 rfl rfl dX8_bestSort_33 rfl ?_
    refine r_getr (pc' := 37) (k := 22) (r := 55) C fl_X8_53 (by decide) kc_22 (by decide) fr_8_12 RV_22_12 dX8_bestSort_34 rfl ?_
    refine r_alen (pc' := 38) (k := 55) (v := 320) C (by decide) kc_55 (by decide) (by rw [kl_55]; rfl) dX8_bestSort_37 rfl ?_
    refine r_icmp_ge (pc' := 41) (tgt := 59) C hx3 (by decide) dX8_bestSort_38 (by decide) rfl (fun c30 => ?_) (fun c30 => ?_)
    · replace h := h.1 c30
      refine r_iconst (pc' := 60) C dX8_bestSort_59 rfl ?_
      refine r_iload_n (pc' := 61) C 2 rfl rfl dX8_bestSort_60 rfl ?_
      refine r_iadd (pc' := 62) C dX8_bestSort_61 rfl ?_
      refine r_aload_n (pc' := 63) C 0 rfl rfl dX8_bestSort_62 rfl ?_
      refine r_getr (pc' := 66) (k := 22) (r := 33) C fl_X8_30 (by decide) kc_22 (by decide) fr_8_3 RV_22_3 dX8_bestSort_63 rfl ?_
      refine r_aload_n (pc' := 67) C 0 rfl rfl dX8_bestSort_66 rfl ?_
      refine r_getr (pc' := 70) (k := 22) (r := 33) C fl_X8_30 (by decide) kc_22 (by decide) fr_8_3 RV_22_3 dX8_bestSort_67 rfl ?_
      refine c_Vi (pc' := 73) (mt := mX3_bitsFor) (as := [.ref (gl_b Y + 33)]) (st := [.int (i32 (3 + x2))]) (k := 33) C h rfl cl_X3_bitsFor ml_X8_207 im_X3_bitsFor sl_X3_bitsFor (by omega) (Nat.le_refl _) (Nat.le_refl _) rfl (by decide) kc_33 (by decide) rfl rfl rfl (Nat.le_of_ble_eq_true rfl) dX8_bestSort_70 rfl (fun r31 iv32 av33 f34 h => ?_)
      replace h := h f34
      refine r_iadd (pc' := 74) C dX8_bestSort_73 rfl ?_
      refine r_aload_n (pc' := 75) C 0 rfl rfl dX8_bestSort_74 rfl ?_
      refine r_getr (pc' := 78) (k := 22) (r := 37) C fl_X8_34 (by decide) kc_22 (by decide) fr_8_4 RV_22_4 dX8_bestSort_75 rfl ?_
      refine r_aload_n (pc' := 79) C 0 rfl rfl dX8_bestSort_78 rfl ?_
      refine r_getr (pc' := 82) (k := 22) (r := 37) C fl_X8_34 (by decide) kc_22 (by decide) fr_8_4 RV_22_4 dX8_bestSort_79 rfl ?_
      refine c_Vi (pc' := 85) (mt := mX3_bitsFor) (as := [.ref (gl_b Y + 37)]) (st := [.int (i32 ((3 + x2) + r31))]) (k := 37) C h rfl cl_X3_bitsFor ml_X8_207 im_X3_bitsFor sl_X3_bitsFor (by omega) (Nat.le_refl _) (Nat.le_refl _) rfl (by decide) kc_37 (by decide) rfl rfl rfl (Nat.le_of_ble_eq_true rfl) dX8_bestSort_82 rfl (fun r35 iv36 av37 f38 h => ?_)
      replace h := h f38
      refine r_iadd (pc' := 86) C dX8_bestSort_85 rfl ?_
      refine r_aload_n (pc' := 87) C 0 rfl rfl dX8_bestSort_86 rfl ?_
      refine r_geti (pc' := 90) (k := 22) C fl_X8_126 (by decide) kc_22 (by decide) fr_8_11 dX8_bestSort_87 rfl (fun f39 => ?_)
      replace h := h f39
      refine r_iadd (pc' := 91) C dX8_bestSort_90 rfl ?_
      refine r_istore_n (pc' := 92) (ls' := [(0, .ref (gl_b Y + 22)), (1, .int (i32 x1)), (2, .int (i32 x2)), (3, .int (i32 ((((3 + x2) + r31) + r35) + (iv36 22 11))))]) C (by decide) rfl rfl dX8_bestSort_91 rfl ?_
      refine r_iconst (pc' := 93) C dX8_bestSort_92 rfl ?_
      refine r_aload_n (pc' := 94) C 0 rfl rfl dX8_bestSort_93 rfl ?_
      refine r_getr (pc' := 97) (k := 22) (r := 45) C fl_X8_40 (by decide) kc_22 (by decide) fr_8_6 RV_22_6 dX8_bestSort_94 rfl ?_
      refine r_aload_n (pc' := 98) C 0 rfl rfl dX8_bestSort_97 rfl ?_
      refine r_getr (pc' := 101) (k := 22) (r := 33) C fl_X8_30 (by decide) kc_22 (by decide) fr_8_3 RV_22_3 dX8_bestSort_98 rfl ?_
      refine c_Vi (pc' := 104) (mt := mX3_bitsFor) (as := [.ref (gl_b Y + 33)]) (st := [.int (i32 3)]) (k := 45) C h rfl cl_X3_bitsFor ml_X8_207 im_X3_bitsFor sl_X3_bitsFor (by omega) (Nat.le_refl _) (Nat.le_refl _) rfl (by decide) kc_45 (by decide) rfl rfl rfl (Nat.le_of_ble_eq_true rfl) dX8_bestSort_101 rfl (fun r40 iv41 av42 f43 h => ?_)
      replace h := h f43
      refine r_iadd (pc' := 105) C dX8_bestSort_104 rfl ?_
      refine r_aload_n (pc' := 106) C 0 rfl rfl dX8_bestSort_105 rfl ?_
      refine r_getr (pc' := 109) (k := 22) (r := 49) C fl_X8_43 (by decide) kc_22 (by decide) fr_8_7 RV_22_7 dX8_bestSort_106 rfl ?_
      refine r_aload_n (pc' := 110) C 0 rfl rfl dX8_bestSort_109 rfl ?_
      refine r_getr (pc' := 113) (k := 22) (r := 37) C fl_X8_34 (by decide) kc_22 (by decide) fr_8_4 RV_22_4 dX8_bestSort_110 rfl ?_
      refine c_Vi (pc' := 116) (mt := mX3_bitsFor) (as := [.ref (gl_b Y + 37)]) (st := [.int (i32 (3 + r40))]) (k := 49) C h rfl cl_X3_bitsFor ml_X8_207 im_X3_bitsFor sl_X3_bitsFor (by omega) (Nat.le_refl _) (Nat.le_refl _) rfl (by decide) kc_49 (by decide) rfl rfl rfl (Nat.le_of_ble_eq_true rfl) dX8_bestSort_113 rfl (fun r44 iv45 av46 f47 h => ?_)
      replace h := h f47
      refine r_iadd (pc' := 117) C dX8_bestSort_116 rfl ?_
      refine r_aload_n (pc' := 118) C 0 rfl rfl dX8_bestSort_117 rfl ?_
      refine r_geti (pc' := 121) (k := 22) C fl_X8_126 (by decide) kc_22 (by decide) fr_8_11 dX8_bestSort_118 rfl (fun f48 => ?_)
      replace h := h f48
      refine r_iadd (pc' := 122) C dX8_bestSort_121 rfl ?_
      refine r_istore (pc' := 124) (ls' := [(0, .ref (gl_b Y + 22)), (1, .int (i32 x1)), (2, .int (i32 x2)), (3, .int (i32 ((((3 + x2) + r31) + r35) + (iv36 22 11)))), (4, .int (i32 (((3 + r40) + r44) + (iv45 22 11))))]) C (by decide) rfl dX8_bestSort_122 rfl ?_
      refine r_iconst (pc' := 125) C dX8_bestSort_124 rfl ?_
      refine r_aload_n (pc' := 126) C 0 rfl rfl dX8_bestSort_125 rfl ?_
      refine r_getr (pc' := 129) (k := 22) (r := 57) C fl_X8_64 (by decide) kc_22 (by decide) fr_8_0 RV_22_0 dX8_bestSort_126 rfl ?_
      refine r_iconst (pc' := 130) C dX8_bestSort_129 rfl ?_
      refine c_Vi (pc' := 133) (mt := mX0_bitsToByte) (as := [.int (i32 3)]) (st := [.int (i32 3)]) (k := 57) C h rfl cl_X0_bitsToByte ml_X8_214 im_X0_bitsToByte sl_X0_bitsToByte (by omega) (Nat.le_refl _) (Nat.le_refl _) rfl (by decide) kc_57 (by decide) rfl rfl rfl (Nat.le_of_ble_eq_true rfl) dX8_bestSort_130 rfl (fun r49 iv50 av51 f52 h => ?_)
      replace h := h f52
      refine r_iadd (pc' := 134) C dX8_bestSort_133 rfl ?_
      refine r_bipush (pc' := 136) C dX8_bestSort_134 (by decide) rfl ?_
      refine r_iadd (pc' := 137) C dX8_bestSort_136 rfl ?_
      refine r_bipush (pc' := 139) C dX8_bestSort_137 (by decide) rfl ?_
      refine r_iload_n (pc' := 140) C 1 rfl rfl dX8_bestSort_139 rfl ?_
      refine r_imul (pc' := 141) C dX8_bestSort_140 rfl ?_
      refine r_iadd (pc' := 142) C dX8_bestSort_141 rfl ?_
      refine r_istore (pc' := 144) (ls' := [(0, .ref (gl_b Y + 22)), (1, .int (i32 x1)), (2, .int (i32 x2)), (3, .int (i32 ((((3 + x2) + r31) + r35) + (iv36 22 11)))), (4, .int (i32 (((3 + r40) + r44) + (iv45 22 11)))), (5, .int (i32 (((3 + r49) + 32) + (8 * x1))))]) C (by decide) rfl dX8_bestSort_142 rfl ?_
      refine r_iload (pc' := 146) C 5 rfl dX8_bestSort_144 rfl ?_
      refine r_iload (pc' := 148) C 4 rfl dX8_bestSort_146 rfl ?_
      have o53 := h.1
      replace h := h.2
      have o54 := h.1
      replace h := h.2
      refine r_icmp_gt (pc' := 151) (tgt := 159) C o53 o54 dX8_bestSort_148 (by decide) rfl (fun c55 => ?_) (fun c55 => ?_)
      · replace h := h.1 c55
        exact Wa.sub [3, 4] rfl h
      · replace h := h.2 c55
        refine r_iload (pc' := 153) C 5 rfl dX8_bestSort_151 rfl ?_
        refine r_iload_n (pc' := 154) C 3 rfl rfl dX8_bestSort_153 rfl ?_
        have o56 := h.1
        replace h := h.2
        refine r_icmp_gt (pc' := 157) (tgt := 159) C o53 o56 dX8_bestSort_154 (by decide) rfl (fun c57 => ?_) (fun c57 => ?_)
        · replace h := h.1 c57
          exact Wa.sub [3, 4] rfl h
        · replace h := h.2 c57
          refine r_iconst (pc' := 158) C dX8_bestSort_157 rfl ?_
          exact r_iret C (by decide) ⟨rfl, rfl, h⟩ dX8_bestSort_158
    · replace h := h.2 c30
      refine r_iload_n (pc' := 42) C 2 rfl rfl dX8_bestSort_41 rfl ?_
      refine r_aload_n (pc' := 43) C 0 rfl rfl dX8_bestSort_42 rfl ?_
      refine r_getr (pc' := 46) (k := 22) (r := 55) C fl_X8_53 (by decide) kc_22 (by decide) fr_8_12 RV_22_12 dX8_bestSort_43 rfl ?_
      refine r_iload_n (pc' := 47) C 3 rfl rfl dX8_bestSort_46 rfl ?_
      have o58 := h.1
      replace h := h.2
      refine r_iald (pc' := 48) (k := 55) C (by decide) kc_55 (by have := kl_55; omega) dX8_bestSort_47 rfl (fun f59 => ?_)
      replace h := h f59
      refine c_SNi (pc' := 51) (mt := mX11_sizeBits) (as := [.int (i32 (av 55 x3.toNat))]) (st := [.int (i32 x2)]) C h rfl cl_X11_sizeBits nl_X8_211 sm_X11_sizeBits (by omega) (Nat.le_refl _) (Nat.le_refl _) rfl rfl (Nat.le_of_ble_eq_true rfl) dX8_bestSort_48 rfl (fun r60 iv61 av62 f63 h => ?_)
      replace h := h f63
      refine r_iadd (pc' := 52) C dX8_bestSort_51 rfl ?_
      refine r_istore_n (pc' := 53) (ls' := [(0, .ref (gl_b Y + 22)), (1, .int (i32 x1)), (2, .int (i32 (x2 + r60))), (3, .int (i32 x3))]) C (by decide) rfl rfl dX8_bestSort_52 rfl ?_
      refine r_iinc (pc' := 56) (ls' := [(0, .ref (gl_b Y + 22)), (1, .int (i32 x1)), (2, .int (i32 (x2 + r60))), (3, .int (i32 (x3 + 1)))]) C 3 rfl (by decide) rfl dX8_bestSort_53 rfl ?_
      refine r_goto (tgt := 24) C dX8_bestSort_56 (by decide) ?_
      exact Wa.sub [0, 1, 2, 3] rfl h
set_option maxHeartbeats 4000000 in
set_option maxRecDepth 100000 in
theorem o_X8_bestSort {Y : Gl} {e : Nat} {P : PN} {x1 : Int} {iv av : IVt} (h : ∀ X : Cx, CX Y X RX8 "bestSort" cX8_bestSort 6 (some .int) (e + 2) 0 0 →
    OkN Y (e + 1) mX8_toldSizes [.ref (gl_b Y + 22)] RV iv av 116 (fun r1 iv2 av3 =>
      (InR r1) →
      OkN Y (e + 1) mX3_bitsFor [.ref (gl_b Y + 41), .ref (gl_b Y + 41)] RV iv2 av3 116 (fun r5 iv6 av7 =>
        (InR r5) →
        L_X8_bestSort_24 Y X P x1 ((14 + (3 * r1)) + r5) 0 iv6 av7
      )
    )) : OkN Y (e + 2) mX8_bestSort [.ref (gl_b Y + 22), .int (i32 x1)] RV iv av 116 P := by
  refine OkW.of rfl (by show _ ≤ 6; exact Nat.le_of_ble_eq_true rfl) fun X C0 hR => ?_
  have C : CX Y X RX8 "bestSort" cX8_bestSort 6 (some .int) (e + 2) 0 0 := C0
  replace h := h X C
  show Wa Y X 6 (g_MQ Y X 1 (g_N RV 116 P) 0 0) 0 0 0 [(0, .ref (gl_b Y + 22)), (1, .int (i32 x1))] [] RV iv av 116
  refine r_bipush (pc' := 2) C dX8_bestSort_0 (by decide) rfl ?_
  refine r_iconst (pc' := 3) C dX8_bestSort_2 rfl ?_
  refine r_aload_n (pc' := 4) C 0 rfl rfl dX8_bestSort_3 rfl ?_
  refine c_Vi (pc' := 7) (mt := mX8_toldSizes) (as := []) (st := [.int (i32 3), .int (i32 14)]) (k := 22) C h rfl cl_X8_toldSizes ml_X8_204 im_X8_toldSizes sl_X8_toldSizes (by omega) (Nat.le_refl _) (Nat.le_refl _) rfl (by decide) kc_22 (by decide) rfl rfl rfl (Nat.le_of_ble_eq_true rfl) dX8_bestSort_4 rfl (fun r1 iv2 av3 f4 h => ?_)
  replace h := h f4
  refine r_imul (pc' := 8) C dX8_bestSort_7 rfl ?_
  refine r_iadd (pc' := 9) C dX8_bestSort_8 rfl ?_
  refine r_aload_n (pc' := 10) C 0 rfl rfl dX8_bestSort_9 rfl ?_
  refine r_getr (pc' := 13) (k := 22) (r := 41) C fl_X8_37 (by decide) kc_22 (by decide) fr_8_5 RV_22_5 dX8_bestSort_10 rfl ?_
  refine r_aload_n (pc' := 14) C 0 rfl rfl dX8_bestSort_13 rfl ?_
  refine r_getr (pc' := 17) (k := 22) (r := 41) C fl_X8_37 (by decide) kc_22 (by decide) fr_8_5 RV_22_5 dX8_bestSort_14 rfl ?_
  refine c_Vi (pc' := 20) (mt := mX3_bitsFor) (as := [.ref (gl_b Y + 41)]) (st := [.int (i32 (14 + (3 * r1)))]) (k := 41) C h rfl cl_X3_bitsFor ml_X8_207 im_X3_bitsFor sl_X3_bitsFor (by omega) (Nat.le_refl _) (Nat.le_refl _) rfl (by decide) kc_41 (by decide) rfl rfl rfl (Nat.le_of_ble_eq_true rfl) dX8_bestSort_17 rfl (fun r5 iv6 av7 f8 h => ?_)
  replace h := h f8
  refine r_iadd (pc' := 21) C dX8_bestSort_20 rfl ?_
  refine r_istore_n (pc' := 22) (ls' := [(0, .ref (gl_b Y + 22)), (1, .int (i32 x1)), (2, .int (i32 ((14 + (3 * r1)) + r5)))]) C (by decide) rfl rfl dX8_bestSort_21 rfl ?_
  refine r_iconst (pc' := 23) C dX8_bestSort_22 rfl ?_
  refine r_istore_n (pc' := 24) (ls' := [(0, .ref (gl_b Y + 22)), (1, .int (i32 x1)), (2, .int (i32 ((14 + (3 * r1)) + r5))), (3, .int (i32 0))]) C (by decide) rfl rfl dX8_bestSort_23 rfl ?_
  exact Wa.sub [0, 1, 2, 3] rfl h
def L_X8_tellStored_30 (Y : Gl) (X : Cx) (P : PN) (k1 : Nat) (x3 : Int) (x4 : Int) (iv av : IVt) : Prop := Wa Y X 5 (g_MQ Y X 0 (g_N RV 116 P) 0 0) 0 0 30 [(0, .ref (gl_b Y + 22)), (1, .ref (gl_b Y + k1)), (3, .int (i32 x3)), (4, .int (i32 x4))] [] RV iv av 116
set_option maxHeartbeats 4000000 in
set_option maxRecDepth 100000 in
theorem w_X8_tellStored_30 {Y : Gl} {X : Cx} {e : Nat} {P : PN} {k1 : Nat} {x3 : Int} {x4 : Int} {iv av : IVt} (C : CX Y X RX8 "tellStored" cX8_tellStored 5 none (e + 2) 0 0) (Kk1 : BytesK k1) (hx3 : InR x3) (hx4 : InR x4) (h :
    ((x3 ≤ x4) →
      P 0 iv av
    ) ∧
    ((¬ x3 ≤ x4) →
      OkN Y (e + 1) mX2_at [.ref (gl_b Y + k1), .int (i32 x4)] RV iv av 116 (fun r2 iv3 av4 =>
        (InR r2) →
        OkN Y (e + 1) mX0_bits [.ref (gl_b Y + 57), .int (i32 r2), .int (i32 8)] RV iv3 av4 116 (fun r6 iv7 av8 =>
          L_X8_tellStored_30 Y X P k1 x3 (x4 + 1) iv7 av8
        )
      )
    )) : L_X8_tellStored_30 Y X P k1 x3 x4 iv av := by
  obtain ⟨hk1c, hk1a, hk1l, hk1r0⟩ := Kk1
  unfold L_X8_tellStored_30
  refine r_iload (pc' := 32) C 3 rfl dX8_tellStored_30 rfl ?_
  refine r_iload_n (pc' := 33) C 2 rfl rfl dX8_tellStored_32 rfl ?_
  refine r_icmp_ge (pc' := 36) (tgt := 57) C hx4 hx3 dX8_tellStored_33 (by decide) rfl (fun c1 => ?_) (fun c1 => ?_)
  · replace h := h.1 c1
    exact r_vret C ⟨rfl, rfl, h⟩ dX8_tellStored_57
  · replace h := h.2 c1
    refine r_aload_n (pc' := 37) C 0 rfl rfl dX8_tellStored_36 rfl ?_
    refine r_getr (pc' := 40) (k := 22) (r := 57) C fl_X8_64 (by decide) kc_22 (by decide) fr_8_0 RV_22_0 dX8_tellStored_37 rfl ?_
    refine r_aload_n (pc' := 41) C 1 rfl rfl dX8_tellStored_40 rfl ?_
    refine r_iload (pc' := 43) C 3 rfl dX8_tellStored_41 rfl ?_
    refine c_Vi (pc' := 46) (mt := mX2_at) (as := [.int (i32 x4)]) (st := [.ref (gl_b Y + 57)]) (k := k1) C h rfl cl_X2_at ml_X8_158 im_X2_at sl_X2_at (by omega) (Nat.le_refl _) (Nat.le_refl _) rfl (by omega) hk1c (by decide) rfl rfl rfl (Nat.le_of_ble_eq_true rfl) dX8_tellStored_43 rfl (fun r2 iv3 av4 f5 h => ?_)
    replace h := h f5
    refine r_bipush (pc' := 48) C dX8_tellStored_46 (by decide) rfl ?_
    refine c_Vv (pc' := 51) (mt := mX0_bits) (as := [.int (i32 r2), .int (i32 8)]) (st := []) (k := 57) C h rfl cl_X0_bits ml_X8_82 im_X0_bits sl_X0_bits (by omega) (Nat.le_refl _) (Nat.le_refl _) rfl (by decide) kc_57 (by decide) rfl rfl rfl (Nat.le_of_ble_eq_true rfl) dX8_tellStored_48 rfl (fun r6 iv7 av8 h => ?_)
    refine r_iinc (pc' := 54) (ls' := [(0, .ref (gl_b Y + 22)), (1, .ref (gl_b Y + k1)), (3, .int (i32 x3)), (4, .int (i32 (x4 + 1)))]) C 3 rfl (by decide) rfl dX8_tellStored_51 rfl ?_
    refine r_goto (tgt := 30) C dX8_tellStored_54 (by decide) ?_
    exact Wa.sub [0, 1, 2, 3] rfl h
set_option maxHeartbeats 4000000 in
set_option maxRecDepth 100000 in
theorem o_X8_tellStored {Y : Gl} {e : Nat} {P : PN} {k1 : Nat} {x2 : Int} {x3 : Int} {iv av : IVt} (Kk1 : BytesK k1) (h : ∀ X : Cx, CX Y X RX8 "tellStored" cX8_tellStored 5 none (e + 2) 0 0 →
    (InR (x3 - x2)) ∧
    OkN Y (e + 1) mX0_bits [.ref (gl_b Y + 57), .int (i32 (x3 - x2)), .int (i32 16)] RV iv av 116 (fun r2 iv3 av4 =>
      (InR (65535 - (x3 - x2))) ∧
      OkN Y (e + 1) mX0_bits [.ref (gl_b Y + 57), .int (i32 (65535 - (x3 - x2))), .int (i32 16)] RV iv3 av4 116 (fun r7 iv8 av9 =>
        L_X8_tellStored_30 Y X P k1 x3 x2 iv8 av9
      )
    )) : OkN Y (e + 2) mX8_tellStored [.ref (gl_b Y + 22), .ref (gl_b Y + k1), .int (i32 x2), .int (i32 x3)] RV iv av 116 P := by
  obtain ⟨hk1c, hk1a, hk1l, hk1r0⟩ := Kk1
  refine OkW.of rfl (by show _ ≤ 5; exact Nat.le_of_ble_eq_true rfl) fun X C0 hR => ?_
  have C : CX Y X RX8 "tellStored" cX8_tellStored 5 none (e + 2) 0 0 := C0
  replace h := h X C
  show Wa Y X 5 (g_MQ Y X 0 (g_N RV 116 P) 0 0) 0 0 0 [(0, .ref (gl_b Y + 22)), (1, .ref (gl_b Y + k1)), (2, .int (i32 x2)), (3, .int (i32 x3))] [] RV iv av 116
  refine r_aload_n (pc' := 1) C 0 rfl rfl dX8_tellStored_0 rfl ?_
  refine r_getr (pc' := 4) (k := 22) (r := 57) C fl_X8_64 (by decide) kc_22 (by decide) fr_8_0 RV_22_0 dX8_tellStored_1 rfl ?_
  refine r_iload_n (pc' := 5) C 3 rfl rfl dX8_tellStored_4 rfl ?_
  refine r_iload_n (pc' := 6) C 2 rfl rfl dX8_tellStored_5 rfl ?_
  refine r_isub (pc' := 7) C dX8_tellStored_6 rfl ?_
  refine r_bipush (pc' := 9) C dX8_tellStored_7 (by decide) rfl ?_
  have o1 := h.1
  replace h := h.2
  refine c_Vv (pc' := 12) (mt := mX0_bits) (as := [.int (i32 (x3 - x2)), .int (i32 16)]) (st := []) (k := 57) C h rfl cl_X0_bits ml_X8_82 im_X0_bits sl_X0_bits (by omega) (Nat.le_refl _) (Nat.le_refl _) rfl (by decide) kc_57 (by decide) rfl rfl rfl (Nat.le_of_ble_eq_true rfl) dX8_tellStored_9 rfl (fun r2 iv3 av4 h => ?_)
  refine r_aload_n (pc' := 13) C 0 rfl rfl dX8_tellStored_12 rfl ?_
  refine r_getr (pc' := 16) (k := 22) (r := 57) C fl_X8_64 (by decide) kc_22 (by decide) fr_8_0 RV_22_0 dX8_tellStored_13 rfl ?_
  refine r_ldc (pc' := 18) (x := 65535) C ct_X8_217 (by decide) dX8_tellStored_16 rfl ?_
  refine r_iload_n (pc' := 19) C 3 rfl rfl dX8_tellStored_18 rfl ?_
  refine r_iload_n (pc' := 20) C 2 rfl rfl dX8_tellStored_19 rfl ?_
  refine r_isub (pc' := 21) C dX8_tellStored_20 rfl ?_
  refine r_isub (pc' := 22) C dX8_tellStored_21 rfl ?_
  refine r_bipush (pc' := 24) C dX8_tellStored_22 (by decide) rfl ?_
  have o6 := h.1
  replace h := h.2
  refine c_Vv (pc' := 27) (mt := mX0_bits) (as := [.int (i32 (65535 - (x3 - x2))), .int (i32 16)]) (st := []) (k := 57) C h rfl cl_X0_bits ml_X8_82 im_X0_bits sl_X0_bits (by omega) (Nat.le_refl _) (Nat.le_refl _) rfl (by decide) kc_57 (by decide) rfl rfl rfl (Nat.le_of_ble_eq_true rfl) dX8_tellStored_24 rfl (fun r7 iv8 av9 h => ?_)
  refine r_iload_n (pc' := 28) C 2 rfl rfl dX8_tellStored_27 rfl ?_
  refine r_istore (pc' := 30) (ls' := [(0, .ref (gl_b Y + 22)), (1, .ref (gl_b Y + k1)), (2, .int (i32 x2)), (3, .int (i32 x3)), (4, .int (i32 x2))]) C (by decide) rfl dX8_tellStored_28 rfl ?_
  exact Wa.sub [0, 1, 3, 4] rfl h
def L_X8_tellHeader_48 (Y : Gl) (X : Cx) (P : PN) (x1 : Int) (x2 : Int) (iv av : IVt) : Prop := Wa Y X 3 (g_MQ Y X 0 (g_N RV 116 P) 0 0) 0 0 48 [(0, .ref (gl_b Y + 22)), (1, .int (i32 x1)), (2, .int (i32 x2))] [] RV iv av 116
def L_X8_tellHeader_80 (Y : Gl) (X : Cx) (P : PN) (x2 : Int) (iv av : IVt) : Prop := Wa Y X 3 (g_MQ Y X 0 (g_N RV 116 P) 0 0) 0 0 80 [(0, .ref (gl_b Y + 22)), (2, .int (i32 x2))] [] RV iv av 116
set_option maxHeartbeats 4000000 in
set_option maxRecDepth 100000 in
theorem w_X8_tellHeader_80 {Y : Gl} {X : Cx} {e : Nat} {P : PN} {x2 : Int} {iv av : IVt} (C : CX Y X RX8 "tellHeader" cX8_tellHeader 3 none (e + 2) 0 0) (hx2 : InR x2) (h :
    ((InR (iv 22 14)) →
      (((iv 22 14) ≤ x2) →
        P 0 iv av
      ) ∧
      ((¬ (iv 22 14) ≤ x2) →
        ((320 ≤ x2) →
          P 0 iv av
        ) ∧
        ((¬ 320 ≤ x2) →
          ((320 ≤ x2) →
            P 0 iv av
          ) ∧
          ((¬ 320 ≤ x2) →
            (0 ≤ x2 ∧ x2 < 320) ∧
            ((InR (av 55 x2.toNat)) →
              OkN Y (e + 1) mX3_turnedOf [.ref (gl_b Y + 41), .int (i32 (av 55 x2.toNat))] RV iv av 116 (fun r7 iv8 av9 =>
                (InR r7) →
                ((InR (av9 55 x2.toNat)) →
                  OkN Y (e + 1) mX3_lengthOf [.ref (gl_b Y + 41), .int (i32 (av9 55 x2.toNat))] RV iv8 av9 116 (fun r12 iv13 av14 =>
                    (InR r12) →
                    OkN Y (e + 1) mX0_bits [.ref (gl_b Y + 57), .int (i32 r7), .int (i32 r12)] RV iv13 av14 116 (fun r16 iv17 av18 =>
                      ((InR (av18 56 x2.toNat)) →
                        ((InR (av18 55 x2.toNat)) →
                          OkN Y (e + 1) mX11_sizeBits [.int (i32 (av18 55 x2.toNat))] RV iv17 av18 116 (fun r22 iv23 av24 =>
                            (InR r22) →
                            OkN Y (e + 1) mX0_bits [.ref (gl_b Y + 57), .int (i32 (av18 56 x2.toNat)), .int (i32 r22)] RV iv23 av24 116 (fun r26 iv27 av28 =>
                              L_X8_tellHeader_80 Y X P (x2 + 1) iv27 av28
                            )
                          )
                        )
                      )
                    )
                  )
                )
              )
            )
          )
        )
      )
    )) : L_X8_tellHeader_80 Y X P x2 iv av := by
  unfold L_X8_tellHeader_80
  refine r_iload_n (pc' := 81) C 1 rfl rfl dX8_tellHeader_80 rfl ?_
  refine r_aload_n (pc' := 82) C 0 rfl rfl dX8_tellHeader_81 rfl ?_
  refine r_geti (pc' := 85) (k := 22) C fl_X8_180 (by decide) kc_22 (by decide) fr_8_14 dX8_tellHeader_82 rfl (fun f1 => ?_)
  replace h := h f1
  refine r_icmp_ge (pc' := 88) (tgt := 167) C hx2 f1 dX8_tellHeader_85 (by decide) rfl (fun c2 => ?_) (fun c2 => ?_)
  · replace h := h.1 c2
    exact r_vret C ⟨rfl, rfl, h⟩ dX8_tellHeader_167
  · replace h := h.2 c2
    refine r_iload_n (pc' := 89) C 1 rfl rfl dX8_tellHeader_88 rfl ?_
    refine r_aload_n (pc' := 90) C 0 rfl rfl dX8_tellHeader_89 rfl ?_
    refine r_getr (pc' := 93) (k := 22) (r := 55) C fl_X8_53 (by decide) kc_22 (by decide) fr_8_12 RV_22_12 dX8_tellHeader_90 rfl ?_
    refine r_alen (pc' := 94) (k := 55) (v := 320) C (by decide) kc_55 (by decide) (by rw [kl_55]; rfl) dX8_tellHeader_93 rfl ?_
    refine r_icmp_ge (pc' := 97) (tgt := 167) C hx2 (by decide) dX8_tellHeader_94 (by decide) rfl (fun c3 => ?_) (fun c3 => ?_)
    · replace h := h.1 c3
      exact r_vret C ⟨rfl, rfl, h⟩ dX8_tellHeader_167
    · replace h := h.2 c3
      refine r_iload_n (pc' := 98) C 1 rfl rfl dX8_tellHeader_97 rfl ?_
      refine r_aload_n (pc' := 99) C 0 rfl rfl dX8_tellHeader_98 rfl ?_
      refine r_getr (pc' := 102) (k := 22) (r := 56) C fl_X8_56 (by decide) kc_22 (by decide) fr_8_13 RV_22_13 dX8_tellHeader_99 rfl ?_
      refine r_alen (pc' := 103) (k := 56) (v := 320) C (by decide) kc_56 (by decide) (by rw [kl_56]; rfl) dX8_tellHeader_102 rfl ?_
      refine r_icmp_ge (pc' := 106) (tgt := 167) C hx2 (by decide) dX8_tellHeader_103 (by decide) rfl (fun c4 => ?_) (fun c4 => ?_)
      · replace h := h.1 c4
        exact r_vret C ⟨rfl, rfl, h⟩ dX8_tellHeader_167
      · replace h := h.2 c4
        refine r_aload_n (pc' := 107) C 0 rfl rfl dX8_tellHeader_106 rfl ?_
        refine r_getr (pc' := 110) (k := 22) (r := 57) C fl_X8_64 (by decide) kc_22 (by decide) fr_8_0 RV_22_0 dX8_tellHeader_107 rfl ?_
        refine r_aload_n (pc' := 111) C 0 rfl rfl dX8_tellHeader_110 rfl ?_
        refine r_getr (pc' := 114) (k := 22) (r := 41) C fl_X8_37 (by decide) kc_22 (by decide) fr_8_5 RV_22_5 dX8_tellHeader_111 rfl ?_
        refine r_aload_n (pc' := 115) C 0 rfl rfl dX8_tellHeader_114 rfl ?_
        refine r_getr (pc' := 118) (k := 22) (r := 55) C fl_X8_53 (by decide) kc_22 (by decide) fr_8_12 RV_22_12 dX8_tellHeader_115 rfl ?_
        refine r_iload_n (pc' := 119) C 1 rfl rfl dX8_tellHeader_118 rfl ?_
        have o5 := h.1
        replace h := h.2
        refine r_iald (pc' := 120) (k := 55) C (by decide) kc_55 (by have := kl_55; omega) dX8_tellHeader_119 rfl (fun f6 => ?_)
        replace h := h f6
        refine c_Vi (pc' := 123) (mt := mX3_turnedOf) (as := [.int (i32 (av 55 x2.toNat))]) (st := [.ref (gl_b Y + 57)]) (k := 41) C h rfl cl_X3_turnedOf ml_X8_218 im_X3_turnedOf sl_X3_turnedOf (by omega) (Nat.le_refl _) (Nat.le_refl _) rfl (by decide) kc_41 (by decide) rfl rfl rfl (Nat.le_of_ble_eq_true rfl) dX8_tellHeader_120 rfl (fun r7 iv8 av9 f10 h => ?_)
        replace h := h f10
        refine r_aload_n (pc' := 124) C 0 rfl rfl dX8_tellHeader_123 rfl ?_
        refine r_getr (pc' := 127) (k := 22) (r := 41) C fl_X8_37 (by decide) kc_22 (by decide) fr_8_5 RV_22_5 dX8_tellHeader_124 rfl ?_
        refine r_aload_n (pc' := 128) C 0 rfl rfl dX8_tellHeader_127 rfl ?_
        refine r_getr (pc' := 131) (k := 22) (r := 55) C fl_X8_53 (by decide) kc_22 (by decide) fr_8_12 RV_22_12 dX8_tellHeader_128 rfl ?_
        refine r_iload_n (pc' := 132) C 1 rfl rfl dX8_tellHeader_131 rfl ?_
        refine r_iald (pc' := 133) (k := 55) C (by decide) kc_55 (by have := kl_55; omega) dX8_tellHeader_132 rfl (fun f11 => ?_)
        replace h := h f11
        refine c_Vi (pc' := 136) (mt := mX3_lengthOf) (as := [.int (i32 (av9 55 x2.toNat))]) (st := [.int (i32 r7), .ref (gl_b Y + 57)]) (k := 41) C h rfl cl_X3_lengthOf ml_X8_189 im_X3_lengthOf sl_X3_lengthOf (by omega) (Nat.le_refl _) (Nat.le_refl _) rfl (by decide) kc_41 (by decide) rfl rfl rfl (Nat.le_of_ble_eq_true rfl) dX8_tellHeader_133 rfl (fun r12 iv13 av14 f15 h => ?_)
        replace h := h f15
        refine c_Vv (pc' := 139) (mt := mX0_bits) (as := [.int (i32 r7), .int (i32 r12)]) (st := []) (k := 57) C h rfl cl_X0_bits ml_X8_82 im_X0_bits sl_X0_bits (by omega) (Nat.le_refl _) (Nat.le_refl _) rfl (by decide) kc_57 (by decide) rfl rfl rfl (Nat.le_of_ble_eq_true rfl) dX8_tellHeader_136 rfl (fun r16 iv17 av18 h => ?_)
        refine r_aload_n (pc' := 140) C 0 rfl rfl dX8_tellHeader_139 rfl ?_
        refine r_getr (pc' := 143) (k := 22) (r := 57) C fl_X8_64 (by decide) kc_22 (by decide) fr_8_0 RV_22_0 dX8_tellHeader_140 rfl ?_
        refine r_aload_n (pc' := 144) C 0 rfl rfl dX8_tellHeader_143 rfl ?_
        refine r_getr (pc' := 147) (k := 22) (r := 56) C fl_X8_56 (by decide) kc_22 (by decide) fr_8_13 RV_22_13 dX8_tellHeader_144 rfl ?_
        refine r_iload_n (pc' := 148) C 1 rfl rfl dX8_tellHeader_147 rfl ?_
        refine r_iald (pc' := 149) (k := 56) C (by decide) kc_56 (by have := kl_56; omega) dX8_tellHeader_148 rfl (fun f20 => ?_)
        replace h := h f20
        refine r_aload_n (pc' := 150) C 0 rfl rfl dX8_tellHeader_149 rfl ?_
        refine r_getr (pc' := 153) (k := 22) (r := 55) C fl_X8_53 (by decide) kc_22 (by decide) fr_8_12 RV_22_12 dX8_tellHeader_150 rfl ?_
        refine r_iload_n (pc' := 154) C 1 rfl rfl dX8_tellHeader_153 rfl ?_
        refine r_iald (pc' := 155) (k := 55) C (by decide) kc_55 (by have := kl_55; omega) dX8_tellHeader_154 rfl (fun f21 => ?_)
        replace h := h f21
        refine c_SNi (pc' := 158) (mt := mX11_sizeBits) (as := [.int (i32 (av18 55 x2.toNat))]) (st := [.int (i32 (av18 56 x2.toNat)), .ref (gl_b Y + 57)]) C h rfl cl_X11_sizeBits nl_X8_211 sm_X11_sizeBits (by omega) (Nat.le_refl _) (Nat.le_refl _) rfl rfl (Nat.le_of_ble_eq_true rfl) dX8_tellHeader_155 rfl (fun r22 iv23 av24 f25 h => ?_)
        replace h := h f25
        refine c_Vv (pc' := 161) (mt := mX0_bits) (as := [.int (i32 (av18 56 x2.toNat)), .int (i32 r22)]) (st := []) (k := 57) C h rfl cl_X0_bits ml_X8_82 im_X0_bits sl_X0_bits (by omega) (Nat.le_refl _) (Nat.le_refl _) rfl (by decide) kc_57 (by decide) rfl rfl rfl (Nat.le_of_ble_eq_true rfl) dX8_tellHeader_158 rfl (fun r26 iv27 av28 h => ?_)
        refine r_iinc (pc' := 164) (ls' := [(0, .ref (gl_b Y + 22)), (2, .int (i32 (x2 + 1)))]) C 1 rfl (by decide) rfl dX8_tellHeader_161 rfl ?_
        refine r_goto (tgt := 80) C dX8_tellHeader_164 (by decide) ?_
        exact Wa.sub [0, 1] rfl h
set_option maxHeartbeats 4000000 in
set_option maxRecDepth 100000 in
theorem w_X8_tellHeader_48 {Y : Gl} {X : Cx} {e : Nat} {P : PN} {x1 : Int} {x2 : Int} {iv av : IVt} (C : CX Y X RX8 "tellHeader" cX8_tellHeader 3 none (e + 2) 0 0) (hx1 : InR x1) (hx2 : InR x2) (h :
    ((x1 ≤ x2) →
      L_X8_tellHeader_80 Y X P 0 iv av
    ) ∧
    ((¬ x1 ≤ x2) →
      OkN Y (e + 1) mX11_ordered [.int (i32 x2)] RV iv av 116 (fun r2 iv3 av4 =>
        (InR r2) →
        OkN Y (e + 1) mX3_lengthOf [.ref (gl_b Y + 41), .int (i32 r2)] RV iv3 av4 116 (fun r6 iv7 av8 =>
          (InR r6) →
          OkN Y (e + 1) mX0_bits [.ref (gl_b Y + 57), .int (i32 r6), .int (i32 3)] RV iv7 av8 116 (fun r10 iv11 av12 =>
            L_X8_tellHeader_48 Y X P x1 (x2 + 1) iv11 av12
          )
        )
      )
    )) : L_X8_tellHeader_48 Y X P x1 x2 iv av := by
  unfold L_X8_tellHeader_48
  refine r_iload_n (pc' := 49) C 2 rfl rfl dX8_tellHeader_48 rfl ?_
  refine r_iload_n (pc' := 50) C 1 rfl rfl dX8_tellHeader_49 rfl ?_
  refine r_icmp_ge (pc' := 53) (tgt := 78) C hx2 hx1 dX8_tellHeader_50 (by decide) rfl (fun c1 => ?_) (fun c1 => ?_)
  · replace h := h.1 c1
    refine r_iconst (pc' := 79) C dX8_tellHeader_78 rfl ?_
    refine r_istore_n (pc' := 80) (ls' := [(0, .ref (gl_b Y + 22)), (1, .int (i32 x1)), (2, .int (i32 0))]) C (by decide) rfl rfl dX8_tellHeader_79 rfl ?_
    exact Wa.sub [0, 2] rfl h
  · replace h := h.2 c1
    refine r_aload_n (pc' := 54) C 0 rfl rfl dX8_tellHeader_53 rfl ?_
    refine r_getr (pc' := 57) (k := 22) (r := 57) C fl_X8_64 (by decide) kc_22 (by decide) fr_8_0 RV_22_0 dX8_tellHeader_54 rfl ?_
    refine r_aload_n (pc' := 58) C 0 rfl rfl dX8_tellHeader_57 rfl ?_
    refine r_getr (pc' := 61) (k := 22) (r := 41) C fl_X8_37 (by decide) kc_22 (by decide) fr_8_5 RV_22_5 dX8_tellHeader_58 rfl ?_
    refine r_iload_n (pc' := 62) C 2 rfl rfl dX8_tellHeader_61 rfl ?_
    refine c_SNi (pc' := 65) (mt := mX11_ordered) (as := [.int (i32 x2)]) (st := [.ref (gl_b Y + 41), .ref (gl_b Y + 57)]) C h rfl cl_X11_ordered nl_X8_186 sm_X11_ordered (by omega) (Nat.le_refl _) (Nat.le_refl _) rfl rfl (Nat.le_of_ble_eq_true rfl) dX8_tellHeader_62 rfl (fun r2 iv3 av4 f5 h => ?_)
    replace h := h f5
    refine c_Vi (pc' := 68) (mt := mX3_lengthOf) (as := [.int (i32 r2)]) (st := [.ref (gl_b Y + 57)]) (k := 41) C h rfl cl_X3_lengthOf ml_X8_189 im_X3_lengthOf sl_X3_lengthOf (by omega) (Nat.le_refl _) (Nat.le_refl _) rfl (by decide) kc_41 (by decide) rfl rfl rfl (Nat.le_of_ble_eq_true rfl) dX8_tellHeader_65 rfl (fun r6 iv7 av8 f9 h => ?_)
    replace h := h f9
    refine r_iconst (pc' := 69) C dX8_tellHeader_68 rfl ?_
    refine c_Vv (pc' := 72) (mt := mX0_bits) (as := [.int (i32 r6), .int (i32 3)]) (st := []) (k := 57) C h rfl cl_X0_bits ml_X8_82 im_X0_bits sl_X0_bits (by omega) (Nat.le_refl _) (Nat.le_refl _) rfl (by decide) kc_57 (by decide) rfl rfl rfl (Nat.le_of_ble_eq_true rfl) dX8_tellHeader_69 rfl (fun r10 iv11 av12 h => ?_)
    refine r_iinc (pc' := 75) (ls' := [(0, .ref (gl_b Y + 22)), (1, .int (i32 x1)), (2, .int (i32 (x2 + 1)))]) C 2 rfl (by decide) rfl dX8_tellHeader_72 rfl ?_
    refine r_goto (tgt := 48) C dX8_tellHeader_75 (by decide) ?_
    exact Wa.sub [0, 1, 2] rfl h
set_option maxHeartbeats 4000000 in
set_option maxRecDepth 100000 in
theorem o_X8_tellHeader {Y : Gl} {e : Nat} {P : PN} {iv av : IVt} (h : ∀ X : Cx, CX Y X RX8 "tellHeader" cX8_tellHeader 3 none (e + 2) 0 0 →
    OkN Y (e + 1) mX8_toldSizes [.ref (gl_b Y + 22)] RV iv av 116 (fun r1 iv2 av3 =>
      (InR r1) →
      OkN Y (e + 1) mX8_toldSymbols [.ref (gl_b Y + 22)] RV iv2 av3 116 (fun r5 iv6 av7 =>
        (InR r5) →
        (InR (r5 - 257)) ∧
        OkN Y (e + 1) mX0_bits [.ref (gl_b Y + 57), .int (i32 (r5 - 257)), .int (i32 5)] RV iv6 av7 116 (fun r10 iv11 av12 =>
          OkN Y (e + 1) mX8_toldDistances [.ref (gl_b Y + 22)] RV iv11 av12 116 (fun r14 iv15 av16 =>
            (InR r14) →
            (InR (r14 - 1)) ∧
            OkN Y (e + 1) mX0_bits [.ref (gl_b Y + 57), .int (i32 (r14 - 1)), .int (i32 5)] RV iv15 av16 116 (fun r19 iv20 av21 =>
              (InR (r1 - 4)) ∧
              OkN Y (e + 1) mX0_bits [.ref (gl_b Y + 57), .int (i32 (r1 - 4)), .int (i32 4)] RV iv20 av21 116 (fun r24 iv25 av26 =>
                L_X8_tellHeader_48 Y X P r1 0 iv25 av26
              )
            )
          )
        )
      )
    )) : OkN Y (e + 2) mX8_tellHeader [.ref (gl_b Y + 22)] RV iv av 116 P := by
  refine OkW.of rfl (by show _ ≤ 3; exact Nat.le_of_ble_eq_true rfl) fun X C0 hR => ?_
  have C : CX Y X RX8 "tellHeader" cX8_tellHeader 3 none (e + 2) 0 0 := C0
  replace h := h X C
  show Wa Y X 3 (g_MQ Y X 0 (g_N RV 116 P) 0 0) 0 0 0 [(0, .ref (gl_b Y + 22))] [] RV iv av 116
  refine r_aload_n (pc' := 1) C 0 rfl rfl dX8_tellHeader_0 rfl ?_
  refine c_Vi (pc' := 4) (mt := mX8_toldSizes) (as := []) (st := []) (k := 22) C h rfl cl_X8_toldSizes ml_X8_204 im_X8_toldSizes sl_X8_toldSizes (by omega) (Nat.le_refl _) (Nat.le_refl _) rfl (by decide) kc_22 (by decide) rfl rfl rfl (Nat.le_of_ble_eq_true rfl) dX8_tellHeader_1 rfl (fun r1 iv2 av3 f4 h => ?_)
  replace h := h f4
  refine r_istore_n (pc' := 5) (ls' := [(0, .ref (gl_b Y + 22)), (1, .int (i32 r1))]) C (by decide) rfl rfl dX8_tellHeader_4 rfl ?_
  refine r_aload_n (pc' := 6) C 0 rfl rfl dX8_tellHeader_5 rfl ?_
  refine r_getr (pc' := 9) (k := 22) (r := 57) C fl_X8_64 (by decide) kc_22 (by decide) fr_8_0 RV_22_0 dX8_tellHeader_6 rfl ?_
  refine r_aload_n (pc' := 10) C 0 rfl rfl dX8_tellHeader_9 rfl ?_
  refine c_Vi (pc' := 13) (mt := mX8_toldSymbols) (as := []) (st := [.ref (gl_b Y + 57)]) (k := 22) C h rfl cl_X8_toldSymbols ml_X8_192 im_X8_toldSymbols sl_X8_toldSymbols (by omega) (Nat.le_refl _) (Nat.le_refl _) rfl (by decide) kc_22 (by decide) rfl rfl rfl (Nat.le_of_ble_eq_true rfl) dX8_tellHeader_10 rfl (fun r5 iv6 av7 f8 h => ?_)
  replace h := h f8
  refine r_sipush (pc' := 16) C dX8_tellHeader_13 (by decide) rfl ?_
  refine r_isub (pc' := 17) C dX8_tellHeader_16 rfl ?_
  refine r_iconst (pc' := 18) C dX8_tellHeader_17 rfl ?_
  have o9 := h.1
  replace h := h.2
  refine c_Vv (pc' := 21) (mt := mX0_bits) (as := [.int (i32 (r5 - 257)), .int (i32 5)]) (st := []) (k := 57) C h rfl cl_X0_bits ml_X8_82 im_X0_bits sl_X0_bits (by omega) (Nat.le_refl _) (Nat.le_refl _) rfl (by decide) kc_57 (by decide) rfl rfl rfl (Nat.le_of_ble_eq_true rfl) dX8_tellHeader_18 rfl (fun r10 iv11 av12 h => ?_)
  refine r_aload_n (pc' := 22) C 0 rfl rfl dX8_tellHeader_21 rfl ?_
  refine r_getr (pc' := 25) (k := 22) (r := 57) C fl_X8_64 (by decide) kc_22 (by decide) fr_8_0 RV_22_0 dX8_tellHeader_22 rfl ?_
  refine r_aload_n (pc' := 26) C 0 rfl rfl dX8_tellHeader_25 rfl ?_
  refine c_Vi (pc' := 29) (mt := mX8_toldDistances) (as := []) (st := [.ref (gl_b Y + 57)]) (k := 22) C h rfl cl_X8_toldDistances ml_X8_195 im_X8_toldDistances sl_X8_toldDistances (by omega) (Nat.le_refl _) (Nat.le_refl _) rfl (by decide) kc_22 (by decide) rfl rfl rfl (Nat.le_of_ble_eq_true rfl) dX8_tellHeader_26 rfl (fun r14 iv15 av16 f17 h => ?_)
  replace h := h f17
  refine r_iconst (pc' := 30) C dX8_tellHeader_29 rfl ?_
  refine r_isub (pc' := 31) C dX8_tellHeader_30 rfl ?_
  refine r_iconst (pc' := 32) C dX8_tellHeader_31 rfl ?_
  have o18 := h.1
  replace h := h.2
  refine c_Vv (pc' := 35) (mt := mX0_bits) (as := [.int (i32 (r14 - 1)), .int (i32 5)]) (st := []) (k := 57) C h rfl cl_X0_bits ml_X8_82 im_X0_bits sl_X0_bits (by omega) (Nat.le_refl _) (Nat.le_refl _) rfl (by decide) kc_57 (by decide) rfl rfl rfl (Nat.le_of_ble_eq_true rfl) dX8_tellHeader_32 rfl (fun r19 iv20 av21 h => ?_)
  refine r_aload_n (pc' := 36) C 0 rfl rfl dX8_tellHeader_35 rfl ?_
  refine r_getr (pc' := 39) (k := 22) (r := 57) C fl_X8_64 (by decide) kc_22 (by decide) fr_8_0 RV_22_0 dX8_tellHeader_36 rfl ?_
  refine r_iload_n (pc' := 40) C 1 rfl rfl dX8_tellHeader_39 rfl ?_
  refine r_iconst (pc' := 41) C dX8_tellHeader_40 rfl ?_
  refine r_isub (pc' := 42) C dX8_tellHeader_41 rfl ?_
  refine r_iconst (pc' := 43) C dX8_tellHeader_42 rfl ?_
  have o23 := h.1
  replace h := h.2
  refine c_Vv (pc' := 46) (mt := mX0_bits) (as := [.int (i32 (r1 - 4)), .int (i32 4)]) (st := []) (k := 57) C h rfl cl_X0_bits ml_X8_82 im_X0_bits sl_X0_bits (by omega) (Nat.le_refl _) (Nat.le_refl _) rfl (by decide) kc_57 (by decide) rfl rfl rfl (Nat.le_of_ble_eq_true rfl) dX8_tellHeader_43 rfl (fun r24 iv25 av26 h => ?_)
  refine r_iconst (pc' := 47) C dX8_tellHeader_46 rfl ?_
  refine r_istore_n (pc' := 48) (ls' := [(0, .ref (gl_b Y + 22)), (1, .int (i32 r1)), (2, .int (i32 0))]) C (by decide) rfl rfl dX8_tellHeader_47 rfl ?_
  exact Wa.sub [0, 1, 2] rfl h
def L_X8_tellItems_2 (Y : Gl) (X : Cx) (P : PN) (k1 : Nat) (k2 : Nat) (x3 : Int) (iv av : IVt) : Prop := Wa Y X 7 (g_MQ Y X 0 (g_N RV 116 P) 0 0) 0 0 2 [(0, .ref (gl_b Y + 22)), (1, .ref (gl_b Y + k1)), (2, .ref (gl_b Y + k2)), (3, .int (i32 x3))] [] RV iv av 116
set_option maxHeartbeats 4000000 in
set_option maxRecDepth 100000 in
theorem w_X8_tellItems_2 {Y : Gl} {X : Cx} {e : Nat} {P : PN} {k1 : Nat} {k2 : Nat} {x3 : Int} {iv av : IVt} (C : CX Y X RX8 "tellItems" cX8_tellItems 7 none (e + 2) 0 0) (Kk1 : CodeK RV 116 k1) (Kk2 : CodeK RV 116 k2) (hx3 : InR x3) (h :
    ((InR (iv 22 10)) →
      (((iv 22 10) ≤ x3) →
        OkN Y (e + 1) mX3_turnedOf [.ref (gl_b Y + k1), .int (i32 256)] RV iv av 116 (fun r3 iv4 av5 =>
          (InR r3) →
          OkN Y (e + 1) mX3_lengthOf [.ref (gl_b Y + k1), .int (i32 256)] RV iv4 av5 116 (fun r7 iv8 av9 =>
            (InR r7) →
            OkN Y (e + 1) mX0_bits [.ref (gl_b Y + 57), .int (i32 r3), .int (i32 r7)] RV iv8 av9 116 (fun r11 iv12 av13 =>
              P 0 iv12 av13
            )
          )
        )
      ) ∧
      ((¬ (iv 22 10) ≤ x3) →
        ((4096 ≤ x3) →
          OkN Y (e + 1) mX3_turnedOf [.ref (gl_b Y + k1), .int (i32 256)] RV iv av 116 (fun r16 iv17 av18 =>
            (InR r16) →
            OkN Y (e + 1) mX3_lengthOf [.ref (gl_b Y + k1), .int (i32 256)] RV iv17 av18 116 (fun r20 iv21 av22 =>
              (InR r20) →
              OkN Y (e + 1) mX0_bits [.ref (gl_b Y + 57), .int (i32 r16), .int (i32 r20)] RV iv21 av22 116 (fun r24 iv25 av26 =>
                P 0 iv25 av26
              )
            )
          )
        ) ∧
        ((¬ 4096 ≤ x3) →
          ((4096 ≤ x3) →
            OkN Y (e + 1) mX3_turnedOf [.ref (gl_b Y + k1), .int (i32 256)] RV iv av 116 (fun r29 iv30 av31 =>
              (InR r29) →
              OkN Y (e + 1) mX3_lengthOf [.ref (gl_b Y + k1), .int (i32 256)] RV iv30 av31 116 (fun r33 iv34 av35 =>
                (InR r33) →
                OkN Y (e + 1) mX0_bits [.ref (gl_b Y + 57), .int (i32 r29), .int (i32 r33)] RV iv34 av35 116 (fun r37 iv38 av39 =>
                  P 0 iv38 av39
                )
              )
            )
          ) ∧
          ((¬ 4096 ≤ x3) →
            (0 ≤ x3 ∧ x3 < 4096) ∧
            ((InR (av 54 x3.toNat)) →
              (((av 54 x3.toNat) ≤ 0) →
                ((InR (av 53 x3.toNat)) →
                  OkN Y (e + 1) mX3_turnedOf [.ref (gl_b Y + k1), .int (i32 (av 53 x3.toNat))] RV iv av 116 (fun r45 iv46 av47 =>
                    (InR r45) →
                    OkN Y (e + 1) mX3_lengthOf [.ref (gl_b Y + k1), .int (i32 (av 53 x3.toNat))] RV iv46 av47 116 (fun r49 iv50 av51 =>
                      (InR r49) →
                      OkN Y (e + 1) mX0_bits [.ref (gl_b Y + 57), .int (i32 r45), .int (i32 r49)] RV iv50 av51 116 (fun r53 iv54 av55 =>
                        L_X8_tellItems_2 Y X P k1 k2 (x3 + 1) iv54 av55
                      )
                    )
                  )
                )
              ) ∧
              ((¬ (av 54 x3.toNat) ≤ 0) →
                ((InR (av 53 x3.toNat)) →
                  OkN Y (e + 1) mX11_lengthSymbol [.int (i32 (av 53 x3.toNat))] RV iv av 116 (fun r58 iv59 av60 =>
                    (InR r58) →
                    OkN Y (e + 1) mX3_turnedOf [.ref (gl_b Y + k1), .int (i32 r58)] RV iv59 av60 116 (fun r62 iv63 av64 =>
                      (InR r62) →
                      OkN Y (e + 1) mX3_lengthOf [.ref (gl_b Y + k1), .int (i32 r58)] RV iv63 av64 116 (fun r66 iv67 av68 =>
                        (InR r66) →
                        OkN Y (e + 1) mX0_bits [.ref (gl_b Y + 57), .int (i32 r62), .int (i32 r66)] RV iv67 av68 116 (fun r70 iv71 av72 =>
                          ((InR (av72 54 x3.toNat)) →
                            OkN Y (e + 1) mX11_distanceSymbol [.int (i32 (av72 54 x3.toNat))] RV iv71 av72 116 (fun r75 iv76 av77 =>
                              (InR r75) →
                              ((InR (av77 53 x3.toNat)) →
                                OkN Y (e + 1) mX11_lengthBase [.int (i32 r58)] RV iv76 av77 116 (fun r80 iv81 av82 =>
                                  (InR r80) →
                                  OkN Y (e + 1) mX11_lengthBits [.int (i32 r58)] RV iv81 av82 116 (fun r84 iv85 av86 =>
                                    (InR r84) →
                                    (InR ((av77 53 x3.toNat) - r80)) ∧
                                    OkN Y (e + 1) mX0_bits [.ref (gl_b Y + 57), .int (i32 ((av77 53 x3.toNat) - r80)), .int (i32 r84)] RV iv85 av86 116 (fun r89 iv90 av91 =>
                                      OkN Y (e + 1) mX3_turnedOf [.ref (gl_b Y + k2), .int (i32 r75)] RV iv90 av91 116 (fun r93 iv94 av95 =>
                                        (InR r93) →
                                        OkN Y (e + 1) mX3_lengthOf [.ref (gl_b Y + k2), .int (i32 r75)] RV iv94 av95 116 (fun r97 iv98 av99 =>
                                          (InR r97) →
                                          OkN Y (e + 1) mX0_bits [.ref (gl_b Y + 57), .int (i32 r93), .int (i32 r97)] RV iv98 av99 116 (fun r101 iv102 av103 =>
                                            ((InR (av103 54 x3.toNat)) →
                                              OkN Y (e + 1) mX11_distanceBase [.int (i32 r75)] RV iv102 av103 116 (fun r106 iv107 av108 =>
                                                (InR r106) →
                                                OkN Y (e + 1) mX11_distanceBits [.int (i32 r75)] RV iv107 av108 116 (fun r110 iv111 av112 =>
                                                  (InR r110) →
                                                  (InR ((av103 54 x3.toNat) - r106)) ∧
                                                  OkN Y (e + 1) mX0_bits [.ref (gl_b Y + 57), .int (i32 ((av103 54 x3.toNat) - r106)), .int (i32 r110)] RV iv111 av112 116 (fun r115 iv116 av117 =>
                                                    L_X8_tellItems_2 Y X P k1 k2 (x3 + 1) iv116 av117
                                                  )
                                                )
                                              )
                                            )
                                          )
                                        )
                                      )
                                    )
                                  )
                                )
                              )
                            )
                          )
                        )
                      )
                    )
                  )
                )
              )
            )
          )
        )
      )
    )) : L_X8_tellItems_2 Y X P k1 k2 x3 iv av := by
  obtain ⟨hk1c, hk1a, hk1b, hk1d, hk1l, hk1r0, hk1r1, hk1r2⟩ := Kk1
  obtain ⟨hk2c, hk2a, hk2b, hk2d, hk2l, hk2r0, hk2r1, hk2r2⟩ := Kk2
  unfold L_X8_tellItems_2
  refine r_iload_n (pc' := 3) C 3 rfl rfl dX8_tellItems_2 rfl ?_
  refine r_aload_n (pc' := 4) C 0 rfl rfl dX8_tellItems_3 rfl ?_
  refine r_geti (pc' := 7) (k := 22) C fl_X8_122 (by decide) kc_22 (by decide) fr_8_10 dX8_tellItems_4 rfl (fun f1 => ?_)
  replace h := h f1
  refine r_icmp_ge (pc' := 10) (tgt := 177) C hx3 f1 dX8_tellItems_7 (by decide) rfl (fun c2 => ?_) (fun c2 => ?_)
  · replace h := h.1 c2
    refine r_aload_n (pc' := 178) C 0 rfl rfl dX8_tellItems_177 rfl ?_
    refine r_getr (pc' := 181) (k := 22) (r := 57) C fl_X8_64 (by decide) kc_22 (by decide) fr_8_0 RV_22_0 dX8_tellItems_178 rfl ?_
    refine r_aload_n (pc' := 182) C 1 rfl rfl dX8_tellItems_181 rfl ?_
    refine r_sipush (pc' := 185) C dX8_tellItems_182 (by decide) rfl ?_
    refine c_Vi (pc' := 188) (mt := mX3_turnedOf) (as := [.int (i32 256)]) (st := [.ref (gl_b Y + 57)]) (k := k1) C h rfl cl_X3_turnedOf ml_X8_218 im_X3_turnedOf sl_X3_turnedOf (by omega) (Nat.le_refl _) (Nat.le_refl _) rfl (by omega) hk1c (by decide) rfl rfl rfl (Nat.le_of_ble_eq_true rfl) dX8_tellItems_185 rfl (fun r3 iv4 av5 f6 h => ?_)
    replace h := h f6
    refine r_aload_n (pc' := 189) C 1 rfl rfl dX8_tellItems_188 rfl ?_
    refine r_sipush (pc' := 192) C dX8_tellItems_189 (by decide) rfl ?_
    refine c_Vi (pc' := 195) (mt := mX3_lengthOf) (as := [.int (i32 256)]) (st := [.int (i32 r3), .ref (gl_b Y + 57)]) (k := k1) C h rfl cl_X3_lengthOf ml_X8_189 im_X3_lengthOf sl_X3_lengthOf (by omega) (Nat.le_refl _) (Nat.le_refl _) rfl (by omega) hk1c (by decide) rfl rfl rfl (Nat.le_of_ble_eq_true rfl) dX8_tellItems_192 rfl (fun r7 iv8 av9 f10 h => ?_)
    replace h := h f10
    refine c_Vv (pc' := 198) (mt := mX0_bits) (as := [.int (i32 r3), .int (i32 r7)]) (st := []) (k := 57) C h rfl cl_X0_bits ml_X8_82 im_X0_bits sl_X0_bits (by omega) (Nat.le_refl _) (Nat.le_refl _) rfl (by decide) kc_57 (by decide) rfl rfl rfl (Nat.le_of_ble_eq_true rfl) dX8_tellItems_195 rfl (fun r11 iv12 av13 h => ?_)
    exact r_vret C ⟨rfl, rfl, h⟩ dX8_tellItems_198
  · replace h := h.2 c2
    refine r_iload_n (pc' := 11) C 3 rfl rfl dX8_tellItems_10 rfl ?_
    refine r_aload_n (pc' := 12) C 0 rfl rfl dX8_tellItems_11 rfl ?_
    refine r_getr (pc' := 15) (k := 22) (r := 53) C fl_X8_46 (by decide) kc_22 (by decide) fr_8_8 RV_22_8 dX8_tellItems_12 rfl ?_
    refine r_alen (pc' := 16) (k := 53) (v := 4096) C (by decide) kc_53 (by decide) (by rw [kl_53]; rfl) dX8_tellItems_15 rfl ?_
    refine r_icmp_ge (pc' := 19) (tgt := 177) C hx3 (by decide) dX8_tellItems_16 (by decide) rfl (fun c15 => ?_) (fun c15 => ?_)
    · replace h := h.1 c15
      refine r_aload_n (pc' := 178) C 0 rfl rfl dX8_tellItems_177 rfl ?_
      refine r_getr (pc' := 181) (k := 22) (r := 57) C fl_X8_64 (by decide) kc_22 (by decide) fr_8_0 RV_22_0 dX8_tellItems_178 rfl ?_
      refine r_aload_n (pc' := 182) C 1 rfl rfl dX8_tellItems_181 rfl ?_
      refine r_sipush (pc' := 185) C dX8_tellItems_182 (by decide) rfl ?_
      refine c_Vi (pc' := 188) (mt := mX3_turnedOf) (as := [.int (i32 256)]) (st := [.ref (gl_b Y + 57)]) (k := k1) C h rfl cl_X3_turnedOf ml_X8_218 im_X3_turnedOf sl_X3_turnedOf (by omega) (Nat.le_refl _) (Nat.le_refl _) rfl (by omega) hk1c (by decide) rfl rfl rfl (Nat.le_of_ble_eq_true rfl) dX8_tellItems_185 rfl (fun r16 iv17 av18 f19 h => ?_)
      replace h := h f19
      refine r_aload_n (pc' := 189) C 1 rfl rfl dX8_tellItems_188 rfl ?_
      refine r_sipush (pc' := 192) C dX8_tellItems_189 (by decide) rfl ?_
      refine c_Vi (pc' := 195) (mt := mX3_lengthOf) (as := [.int (i32 256)]) (st := [.int (i32 r16), .ref (gl_b Y + 57)]) (k := k1) C h rfl cl_X3_lengthOf ml_X8_189 im_X3_lengthOf sl_X3_lengthOf (by omega) (Nat.le_refl _) (Nat.le_refl _) rfl (by omega) hk1c (by decide) rfl rfl rfl (Nat.le_of_ble_eq_true rfl) dX8_tellItems_192 rfl (fun r20 iv21 av22 f23 h => ?_)
      replace h := h f23
      refine c_Vv (pc' := 198) (mt := mX0_bits) (as := [.int (i32 r16), .int (i32 r20)]) (st := []) (k := 57) C h rfl cl_X0_bits ml_X8_82 im_X0_bits sl_X0_bits (by omega) (Nat.le_refl _) (Nat.le_refl _) rfl (by decide) kc_57 (by decide) rfl rfl rfl (Nat.le_of_ble_eq_true rfl) dX8_tellItems_195 rfl (fun r24 iv25 av26 h => ?_)
      exact r_vret C ⟨rfl, rfl, h⟩ dX8_tellItems_198
    · replace h := h.2 c15
      refine r_iload_n (pc' := 20) C 3 rfl rfl dX8_tellItems_19 rfl ?_
      refine r_aload_n (pc' := 21) C 0 rfl rfl dX8_tellItems_20 rfl ?_
      refine r_getr (pc' := 24) (k := 22) (r := 54) C fl_X8_50 (by decide) kc_22 (by decide) fr_8_9 RV_22_9 dX8_tellItems_21 rfl ?_
      refine r_alen (pc' := 25) (k := 54) (v := 4096) C (by decide) kc_54 (by decide) (by rw [kl_54]; rfl) dX8_tellItems_24 rfl ?_
      refine r_icmp_ge (pc' := 28) (tgt := 177) C hx3 (by decide) dX8_tellItems_25 (by decide) rfl (fun c28 => ?_) (fun c28 => ?_)
      · replace h := h.1 c28
        refine r_aload_n (pc' := 178) C 0 rfl rfl dX8_tellItems_177 rfl ?_
        refine r_getr (pc' := 181) (k := 22) (r := 57) C fl_X8_64 (by decide) kc_22 (by decide) fr_8_0 RV_22_0 dX8_tellItems_178 rfl ?_
        refine r_aload_n (pc' := 182) C 1 rfl rfl dX8_tellItems_181 rfl ?_
        refine r_sipush (pc' := 185) C dX8_tellItems_182 (by decide) rfl ?_
        refine c_Vi (pc' := 188) (mt := mX3_turnedOf) (as := [.int (i32 256)]) (st := [.ref (gl_b Y + 57)]) (k := k1) C h rfl cl_X3_turnedOf ml_X8_218 im_X3_turnedOf sl_X3_turnedOf (by omega) (Nat.le_refl _) (Nat.le_refl _) rfl (by omega) hk1c (by decide) rfl rfl rfl (Nat.le_of_ble_eq_true rfl) dX8_tellItems_185 rfl (fun r29 iv30 av31 f32 h => ?_)
        replace h := h f32
        refine r_aload_n (pc' := 189) C 1 rfl rfl dX8_tellItems_188 rfl ?_
        refine r_sipush (pc' := 192) C dX8_tellItems_189 (by decide) rfl ?_
        refine c_Vi (pc' := 195) (mt := mX3_lengthOf) (as := [.int (i32 256)]) (st := [.int (i32 r29), .ref (gl_b Y + 57)]) (k := k1) C h rfl cl_X3_lengthOf ml_X8_189 im_X3_lengthOf sl_X3_lengthOf (by omega) (Nat.le_refl _) (Nat.le_refl _) rfl (by omega) hk1c (by decide) rfl rfl rfl (Nat.le_of_ble_eq_true rfl) dX8_tellItems_192 rfl (fun r33 iv34 av35 f36 h => ?_)
        replace h := h f36
        refine c_Vv (pc' := 198) (mt := mX0_bits) (as := [.int (i32 r29), .int (i32 r33)]) (st := []) (k := 57) C h rfl cl_X0_bits ml_X8_82 im_X0_bits sl_X0_bits (by omega) (Nat.le_refl _) (Nat.le_refl _) rfl (by decide) kc_57 (by decide) rfl rfl rfl (Nat.le_of_ble_eq_true rfl) dX8_tellItems_195 rfl (fun r37 iv38 av39 h => ?_)
        exact r_vret C ⟨rfl, rfl, h⟩ dX8_tellItems_198
      · replace h := h.2 c28
        refine r_aload_n (pc' := 29) C 0 rfl rfl dX8_tellItems_28 rfl ?_
        refine r_getr (pc' := 32) (k := 22) (r := 54) C fl_X8_50 (by decide) kc_22 (by decide) fr_8_9 RV_22_9 dX8_tellItems_29 rfl ?_
        refine r_iload_n (pc' := 33) C 3 rfl rfl dX8_tellItems_32 rfl ?_
        have o41 := h.1
        replace h := h.2
        refine r_iald (pc' := 34) (k := 54) C (by decide) kc_54 (by have := kl_54; omega) dX8_tellItems_33 rfl (fun f42 => ?_)
        replace h := h f42
        refine r_if_le (pc' := 37) (tgt := 41) C f42 dX8_tellItems_34 (by decide) rfl (fun c43 => ?_) (fun c43 => ?_)
        · replace h := h.1 c43
          refine r_iconst (pc' := 42) C dX8_tellItems_41 rfl ?_
          refine r_istore (pc' := 44) (ls' := [(0, .ref (gl_b Y + 22)), (1, .ref (gl_b Y + k1)), (2, .ref (gl_b Y + k2)), (3, .int (i32 x3)), (4, .int (i32 0))]) C (by decide) rfl dX8_tellItems_42 rfl ?_
          refine r_iload (pc' := 46) C 4 rfl dX8_tellItems_44 rfl ?_
          refine r_if_eq (pc' := 49) (tgt := 61) C (by decide) dX8_tellItems_46 (by decide) rfl (fun _ => ?_) (fun z => absurd z (by decide))
          refine r_aload_n (pc' := 62) C 0 rfl rfl dX8_tellItems_61 rfl ?_
          refine r_getr (pc' := 65) (k := 22) (r := 53) C fl_X8_46 (by decide) kc_22 (by decide) fr_8_8 RV_22_8 dX8_tellItems_62 rfl ?_
          refine r_iload_n (pc' := 66) C 3 rfl rfl dX8_tellItems_65 rfl ?_
          refine r_iald (pc' := 67) (k := 53) C (by decide) kc_53 (by have := kl_53; omega) dX8_tellItems_66 rfl (fun f44 => ?_)
          replace h := h f44
          refine r_istore (pc' := 69) (ls' := [(0, .ref (gl_b Y + 22)), (1, .ref (gl_b Y + k1)), (2, .ref (gl_b Y + k2)), (3, .int (i32 x3)), (4, .int (i32 0)), (5, .int (i32 (av 53 x3.toNat)))]) C (by decide) rfl dX8_tellItems_67 rfl ?_
          refine r_aload_n (pc' := 70) C 0 rfl rfl dX8_tellItems_69 rfl ?_
          refine r_getr (pc' := 73) (k := 22) (r := 57) C fl_X8_64 (by decide) kc_22 (by decide) fr_8_0 RV_22_0 dX8_tellItems_70 rfl ?_
          refine r_aload_n (pc' := 74) C 1 rfl rfl dX8_tellItems_73 rfl ?_
          refine r_iload (pc' := 76) C 5 rfl dX8_tellItems_74 rfl ?_
          refine c_Vi (pc' := 79) (mt := mX3_turnedOf) (as := [.int (i32 (av 53 x3.toNat))]) (st := [.ref (gl_b Y + 57)]) (k := k1) C h rfl cl_X3_turnedOf ml_X8_218 im_X3_turnedOf sl_X3_turnedOf (by omega) (Nat.le_refl _) (Nat.le_refl _) rfl (by omega) hk1c (by decide) rfl rfl rfl (Nat.le_of_ble_eq_true rfl) dX8_tellItems_76 rfl (fun r45 iv46 av47 f48 h => ?_)
          replace h := h f48
          refine r_aload_n (pc' := 80) C 1 rfl rfl dX8_tellItems_79 rfl ?_
          refine r_iload (pc' := 82) C 5 rfl dX8_tellItems_80 rfl ?_
          refine c_Vi (pc' := 85) (mt := mX3_lengthOf) (as := [.int (i32 (av 53 x3.toNat))]) (st := [.int (i32 r45), .ref (gl_b Y + 57)]) (k := k1) C h rfl cl_X3_lengthOf ml_X8_189 im_X3_lengthOf sl_X3_lengthOf (by omega) (Nat.le_refl _) (Nat.le_refl _) rfl (by omega) hk1c (by decide) rfl rfl rfl (Nat.le_of_ble_eq_true rfl) dX8_tellItems_82 rfl (fun r49 iv50 av51 f52 h => ?_)
          replace h := h f52
          refine c_Vv (pc' := 88) (mt := mX0_bits) (as := [.int (i32 r45), .int (i32 r49)]) (st := []) (k := 57) C h rfl cl_X0_bits ml_X8_82 im_X0_bits sl_X0_bits (by omega) (Nat.le_refl _) (Nat.le_refl _) rfl (by decide) kc_57 (by decide) rfl rfl rfl (Nat.le_of_ble_eq_true rfl) dX8_tellItems_85 rfl (fun r53 iv54 av55 h => ?_)
          refine r_iload (pc' := 90) C 4 rfl dX8_tellItems_88 rfl ?_
          refine r_if_eq (pc' := 93) (tgt := 171) C (by decide) dX8_tellItems_90 (by decide) rfl (fun _ => ?_) (fun z => absurd z (by decide))
          refine r_iinc (pc' := 174) (ls' := [(0, .ref (gl_b Y + 22)), (1, .ref (gl_b Y + k1)), (2, .ref (gl_b Y + k2)), (3, .int (i32 (x3 + 1))), (4, .int (i32 0)), (5, .int (i32 (av 53 x3.toNat)))]) C 3 rfl (by decide) rfl dX8_tellItems_171 rfl ?_
          refine r_goto (tgt := 2) C dX8_tellItems_174 (by decide) ?_
          exact Wa.sub [0, 1, 2, 3] rfl h
        · replace h := h.2 c43
          refine r_iconst (pc' := 38) C dX8_tellItems_37 rfl ?_
          refine r_goto (tgt := 42) C dX8_tellItems_38 (by decide) ?_
          refine r_istore (pc' := 44) (ls' := [(0, .ref (gl_b Y + 22)), (1, .ref (gl_b Y + k1)), (2, .ref (gl_b Y + k2)), (3, .int (i32 x3)), (4, .int (i32 1))]) C (by decide) rfl dX8_tellItems_42 rfl ?_
          refine r_iload (pc' := 46) C 4 rfl dX8_tellItems_44 rfl ?_
          refine r_if_eq (pc' := 49) (tgt := 61) C (by decide) dX8_tellItems_46 (by decide) rfl (fun z => absurd z (by decide)) (fun _ => ?_)
          refine r_aload_n (pc' := 50) C 0 rfl rfl dX8_tellItems_49 rfl ?_
          refine r_getr (pc' := 53) (k := 22) (r := 53) C fl_X8_46 (by decide) kc_22 (by decide) fr_8_8 RV_22_8 dX8_tellItems_50 rfl ?_
          refine r_iload_n (pc' := 54) C 3 rfl rfl dX8_tellItems_53 rfl ?_
          refine r_iald (pc' := 55) (k := 53) C (by decide) kc_53 (by have := kl_53; omega) dX8_tellItems_54 rfl (fun f57 => ?_)
          replace h := h f57
          refine c_SNi (pc' := 58) (mt := mX11_lengthSymbol) (as := [.int (i32 (av 53 x3.toNat))]) (st := []) C h rfl cl_X11_lengthSymbol nl_X8_149 sm_X11_lengthSymbol (by omega) (Nat.le_refl _) (Nat.le_refl _) rfl rfl (Nat.le_of_ble_eq_true rfl) dX8_tellItems_55 rfl (fun r58 iv59 av60 f61 h => ?_)
          replace h := h f61
          refine r_goto (tgt := 67) C dX8_tellItems_58 (by decide) ?_
          refine r_istore (pc' := 69) (ls' := [(0, .ref (gl_b Y + 22)), (1, .ref (gl_b Y + k1)), (2, .ref (gl_b Y + k2)), (3, .int (i32 x3)), (4, .int (i32 1)), (5, .int (i32 r58))]) C (by decide) rfl dX8_tellItems_67 rfl ?_
          refine r_aload_n (pc' := 70) C 0 rfl rfl dX8_tellItems_69 rfl ?_
          refine r_getr (pc' := 73) (k := 22) (r := 57) C fl_X8_64 (by decide) kc_22 (by decide) fr_8_0 RV_22_0 dX8_tellItems_70 rfl ?_
          refine r_aload_n (pc' := 74) C 1 rfl rfl dX8_tellItems_73 rfl ?_
          refine r_iload (pc' := 76) C 5 rfl dX8_tellItems_74 rfl ?_
          refine c_Vi (pc' := 79) (mt := mX3_turnedOf) (as := [.int (i32 r58)]) (st := [.ref (gl_b Y + 57)]) (k := k1) C h rfl cl_X3_turnedOf ml_X8_218 im_X3_turnedOf sl_X3_turnedOf (by omega) (Nat.le_refl _) (Nat.le_refl _) rfl (by omega) hk1c (by decide) rfl rfl rfl (Nat.le_of_ble_eq_true rfl) dX8_tellItems_76 rfl (fun r62 iv63 av64 f65 h => ?_)
          replace h := h f65
          refine r_aload_n (pc' := 80) C 1 rfl rfl dX8_tellItems_79 rfl ?_
          refine r_iload (pc' := 82) C 5 rfl dX8_tellItems_80 rfl ?_
          refine c_Vi (pc' := 85) (mt := mX3_lengthOf) (as := [.int (i32 r58)]) (st := [.int (i32 r62), .ref (gl_b Y + 57)]) (k := k1) C h rfl cl_X3_lengthOf ml_X8_189 im_X3_lengthOf sl_X3_lengthOf (by omega) (Nat.le_refl _) (Nat.le_refl _) rfl (by omega) hk1c (by decide) rfl rfl rfl (Nat.le_of_ble_eq_true rfl) dX8_tellItems_82 rfl (fun r66 iv67 av68 f69 h => ?_)
          replace h := h f69
          refine c_Vv (pc' := 88) (mt := mX0_bits) (as := [.int (i32 r62), .int (i32 r66)]) (st := []) (k := 57) C h rfl cl_X0_bits ml_X8_82 im_X0_bits sl_X0_bits (by omega) (Nat.le_refl _) (Nat.le_refl _) rfl (by decide) kc_57 (by decide) rfl rfl rfl (Nat.le_of_ble_eq_true rfl) dX8_tellItems_85 rfl (fun r70 iv71 av72 h => ?_)
          refine r_iload (pc' := 90) C 4 rfl dX8_tellItems_88 rfl ?_
          refine r_if_eq (pc' := 93) (tgt := 171) C (by decide) dX8_tellItems_90 (by decide) rfl (fun z => absurd z (by decide)) (fun _ => ?_)
          refine r_aload_n (pc' := 94) C 0 rfl rfl dX8_tellItems_93 rfl ?_
          refine r_getr (pc' := 97) (k := 22) (r := 54) C fl_X8_50 (by decide) kc_22 (by decide) fr_8_9 RV_22_9 dX8_tellItems_94 rfl ?_
          refine r_iload_n (pc' := 98) C 3 rfl rfl dX8_tellItems_97 rfl ?_
          refine r_iald (pc' := 99) (k := 54) C (by decide) kc_54 (by have := kl_54; omega) dX8_tellItems_98 rfl (fun f74 => ?_)
          replace h := h f74
          refine c_SNi (pc' := 102) (mt := mX11_distanceSymbol) (as := [.int (i32 (av72 54 x3.toNat))]) (st := []) C h rfl cl_X11_distanceSymbol nl_X8_152 sm_X11_distanceSymbol (by omega) (Nat.le_refl _) (Nat.le_refl _) rfl rfl (Nat.le_of_ble_eq_true rfl) dX8_tellItems_99 rfl (fun r75 iv76 av77 f78 h => ?_)
          replace h := h f78
          refine r_istore (pc' := 104) (ls' := [(0, .ref (gl_b Y + 22)), (1, .ref (gl_b Y + k1)), (2, .ref (gl_b Y + k2)), (3, .int (i32 x3)), (4, .int (i32 1)), (5, .int (i32 r58)), (6, .int (i32 r75))]) C (by decide) rfl dX8_tellItems_102 rfl ?_
          refine r_aload_n (pc' := 105) C 0 rfl rfl dX8_tellItems_104 rfl ?_
          refine r_getr (pc' := 108) (k := 22) (r := 57) C fl_X8_64 (by decide) kc_22 (by decide) fr_8_0 RV_22_0 dX8_tellItems_105 rfl ?_
          refine r_aload_n (pc' := 109) C 0 rfl rfl dX8_tellItems_108 rfl ?_
          refine r_getr (pc' := 112) (k := 22) (r := 53) C fl_X8_46 (by decide) kc_22 (by decide) fr_8_8 RV_22_8 dX8_tellItems_109 rfl ?_
          refine r_iload_n (pc' := 113) C 3 rfl rfl dX8_tellItems_112 rfl ?_
          refine r_iald (pc' := 114) (k := 53) C (by decide) kc_53 (by have := kl_53; omega) dX8_tellItems_113 rfl (fun f79 => ?_)
          replace h := h f79
          refine r_iload (pc' := 116) C 5 rfl dX8_tellItems_114 rfl ?_
          refine c_SNi (pc' := 119) (mt := mX11_lengthBase) (as := [.int (i32 r58)]) (st := [.int (i32 (av77 53 x3.toNat)), .ref (gl_b Y + 57)]) C h rfl cl_X11_lengthBase nl_X8_221 sm_X11_lengthBase (by omega) (Nat.le_refl _) (Nat.le_refl _) rfl rfl (Nat.le_of_ble_eq_true rfl) dX8_tellItems_116 rfl (fun r80 iv81 av82 f83 h => ?_)
          replace h := h f83
          refine r_isub (pc' := 120) C dX8_tellItems_119 rfl ?_
          refine r_iload (pc' := 122) C 5 rfl dX8_tellItems_120 rfl ?_
          refine c_SNi (pc' := 125) (mt := mX11_lengthBits) (as := [.int (i32 r58)]) (st := [.int (i32 ((av77 53 x3.toNat) - r80)), .ref (gl_b Y + 57)]) C h rfl cl_X11_lengthBits nl_X8_170 sm_X11_lengthBits (by omega) (Nat.le_refl _) (Nat.le_refl _) rfl rfl (Nat.le_of_ble_eq_true rfl) dX8_tellItems_122 rfl (fun r84 iv85 av86 f87 h => ?_)
          replace h := h f87
          have o88 := h.1
          replace h := h.2
          refine c_Vv (pc' := 128) (mt := mX0_bits) (as := [.int (i32 ((av77 53 x3.toNat) - r80)), .int (i32 r84)]) (st := []) (k := 57) C h rfl cl_X0_bits ml_X8_82 im_X0_bits sl_X0_bits (by omega) (Nat.le_refl _) (Nat.le_refl _) rfl (by decide) kc_57 (by decide) rfl rfl rfl (Nat.le_of_ble_eq_true rfl) dX8_tellItems_125 rfl (fun r89 iv90 av91 h => ?_)
          refine r_aload_n (pc' := 129) C 0 rfl rfl dX8_tellItems_128 rfl ?_
          refine r_getr (pc' := 132) (k := 22) (r := 57) C fl_X8_64 (by decide) kc_22 (by decide) fr_8_0 RV_22_0 dX8_tellItems_129 rfl ?_
          refine r_aload_n (pc' := 133) C 2 rfl rfl dX8_tellItems_132 rfl ?_
          refine r_iload (pc' := 135) C 6 rfl dX8_tellItems_133 rfl ?_
          refine c_Vi (pc' := 138) (mt := mX3_turnedOf) (as := [.int (i32 r75)]) (st := [.ref (gl_b Y + 57)]) (k := k2) C h rfl cl_X3_turnedOf ml_X8_218 im_X3_turnedOf sl_X3_turnedOf (by omega) (Nat.le_refl _) (Nat.le_refl _) rfl (by omega) hk2c (by decide) rfl rfl rfl (Nat.le_of_ble_eq_true rfl) dX8_tellItems_135 rfl (fun r93 iv94 av95 f96 h => ?_)
          replace h := h f96
          refine r_aload_n (pc' := 139) C 2 rfl rfl dX8_tellItems_138 rfl ?_
          refine r_iload (pc' := 141) C 6 rfl dX8_tellItems_139 rfl ?_
          refine c_Vi (pc' := 144) (mt := mX3_lengthOf) (as := [.int (i32 r75)]) (st := [.int (i32 r93), .ref (gl_b Y + 57)]) (k := k2) C h rfl cl_X3_lengthOf ml_X8_189 im_X3_lengthOf sl_X3_lengthOf (by omega) (Nat.le_refl _) (Nat.le_refl _) rfl (by omega) hk2c (by decide) rfl rfl rfl (Nat.le_of_ble_eq_true rfl) dX8_tellItems_141 rfl (fun r97 iv98 av99 f100 h => ?_)
          replace h := h f100
          refine c_Vv (pc' := 147) (mt := mX0_bits) (as := [.int (i32 r93), .int (i32 r97)]) (st := []) (k := 57) C h rfl cl_X0_bits ml_X8_82 im_X0_bits sl_X0_bits (by omega) (Nat.le_refl _) (Nat.le_refl _) rfl (by decide) kc_57 (by decide) rfl rfl rfl (Nat.le_of_ble_eq_true rfl) dX8_tellItems_144 rfl (fun r101 iv102 av103 h => ?_)
          refine r_aload_n (pc' := 148) C 0 rfl rfl dX8_tellItems_147 rfl ?_
          refine r_getr (pc' := 151) (k := 22) (r := 57) C fl_X8_64 (by decide) kc_22 (by decide) fr_8_0 RV_22_0 dX8_tellItems_148 rfl ?_
          refine r_aload_n (pc' := 152) C 0 rfl rfl dX8_tellItems_151 rfl ?_
          refine r_getr (pc' := 155) (k := 22) (r := 54) C fl_X8_50 (by decide) kc_22 (by decide) fr_8_9 RV_22_9 dX8_tellItems_152 rfl ?_
          refine r_iload_n (pc' := 156) C 3 rfl rfl dX8_tellItems_155 rfl ?_
          refine r_iald (pc' := 157) (k := 54) C (by decide) kc_54 (by have := kl_54; omega) dX8_tellItems_156 rfl (fun f105 => ?_)
          replace h := h f105
          refine r_iload (pc' := 159) C 6 rfl dX8_tellItems_157 rfl ?_
          refine c_SNi (pc' := 162) (mt := mX11_distanceBase) (as := [.int (i32 r75)]) (st := [.int (i32 (av103 54 x3.toNat)), .ref (gl_b Y + 57)]) C h rfl cl_X11_distanceBase nl_X8_224 sm_X11_distanceBase (by omega) (Nat.le_refl _) (Nat.le_refl _) rfl rfl (Nat.le_of_ble_eq_true rfl) dX8_tellItems_159 rfl (fun r106 iv107 av108 f109 h => ?_)
          replace h := h f109
          refine r_isub (pc' := 163) C dX8_tellItems_162 rfl ?_
          refine r_iload (pc' := 165) C 6 rfl dX8_tellItems_163 rfl ?_
          refine c_SNi (pc' := 168) (mt := mX11_distanceBits) (as := [.int (i32 r75)]) (st := [.int (i32 ((av103 54 x3.toNat) - r106)), .ref (gl_b Y + 57)]) C h rfl cl_X11_distanceBits nl_X8_173 sm_X11_distanceBits (by omega) (Nat.le_refl _) (Nat.le_refl _) rfl rfl (Nat.le_of_ble_eq_true rfl) dX8_tellItems_165 rfl (fun r110 iv111 av112 f113 h => ?_)
          replace h := h f113
          have o114 := h.1
          replace h := h.2
          refine c_Vv (pc' := 171) (mt := mX0_bits) (as := [.int (i32 ((av103 54 x3.toNat) - r106)), .int (i32 r110)]) (st := []) (k := 57) C h rfl cl_X0_bits ml_X8_82 im_X0_bits sl_X0_bits (by omega) (Nat.le_refl _) (Nat.le_refl _) rfl (by decide) kc_57 (by decide) rfl rfl rfl (Nat.le_of_ble_eq_true rfl) dX8_tellItems_168 rfl (fun r115 iv116 av117 h => ?_)
          refine r_iinc (pc' := 174) (ls' := [(0, .ref (gl_b Y + 22)), (1, .ref (gl_b Y + k1)), (2, .ref (gl_b Y + k2)), (3, .int (i32 (x3 + 1))), (4, .int (i32 1)), (5, .int (i32 r58)), (6, .int (i32 r75))]) C 3 rfl (by decide) rfl dX8_tellItems_171 rfl ?_
          refine r_goto (tgt := 2) C dX8_tellItems_174 (by decide) ?_
          exact Wa.sub [0, 1, 2, 3] rfl h
set_option maxHeartbeats 4000000 in
set_option maxRecDepth 100000 in
theorem o_X8_tellItems {Y : Gl} {e : Nat} {P : PN} {k1 : Nat} {k2 : Nat} {iv av : IVt} (Kk1 : CodeK RV 116 k1) (Kk2 : CodeK RV 116 k2) (h : ∀ X : Cx, CX Y X RX8 "tellItems" cX8_tellItems 7 none (e + 2) 0 0 →
    L_X8_tellItems_2 Y X P k1 k2 0 iv av) : OkN Y (e + 2) mX8_tellItems [.ref (gl_b Y + 22), .ref (gl_b Y + k1), .ref (gl_b Y + k2)] RV iv av 116 P := by
  obtain ⟨hk1c, hk1a, hk1b, hk1d, hk1l, hk1r0, hk1r1, hk1r2⟩ := Kk1
  obtain ⟨hk2c, hk2a, hk2b, hk2d, hk2l, hk2r0, hk2r1, hk2r2⟩ := Kk2
  refine OkW.of rfl (by show _ ≤ 7; exact Nat.le_of_ble_eq_true rfl) fun X C0 hR => ?_
  have C : CX Y X RX8 "tellItems" cX8_tellItems 7 none (e + 2) 0 0 := C0
  replace h := h X C
  show Wa Y X 7 (g_MQ Y X 0 (g_N RV 116 P) 0 0) 0 0 0 [(0, .ref (gl_b Y + 22)), (1, .ref (gl_b Y + k1)), (2, .ref (gl_b Y + k2))] [] RV iv av 116
  refine r_iconst (pc' := 1) C dX8_tellItems_0 rfl ?_
  refine r_istore_n (pc' := 2) (ls' := [(0, .ref (gl_b Y + 22)), (1, .ref (gl_b Y + k1)), (2, .ref (gl_b Y + k2)), (3, .int (i32 0))]) C (by decide) rfl rfl dX8_tellItems_1 rfl ?_
  exact Wa.sub [0, 1, 2, 3] rfl h
