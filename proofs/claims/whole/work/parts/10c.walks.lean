/-! Walks, laid by wip/whole/tool/walk.py: each says what is left of a method when its bytecode is run over symbols. -/
def L_X9_make_3 (Y : Gl) (X : Cx) (P : PN) (k : Nat) (a1 : Nat) (x2 : Int) (x3 : Int) (x4 : Int) (x5 : Int) (iv av : IVt) : Prop := Wa Y X 8 (g_MQ Y X 1 (g_N RV 116 P) 0 0) 0 0 3 [(0, .ref (gl_b Y + k)), (1, .ref (gl_b Y + a1)), (2, .int (i32 x2)), (3, .int (i32 x3)), (4, .int (i32 x4)), (5, .int (i32 x5))] [] RV iv av 116
def L_X9_make_33 (Y : Gl) (X : Cx) (P : PN) (k : Nat) (a1 : Nat) (x2 : Int) (x3 : Int) (x4 : Int) (x5 : Int) (x6 : Int) (iv av : IVt) : Prop := Wa Y X 8 (g_MQ Y X 1 (g_N RV 116 P) 0 0) 0 0 33 [(0, .ref (gl_b Y + k)), (1, .ref (gl_b Y + a1)), (2, .int (i32 x2)), (3, .int (i32 x3)), (4, .int (i32 x4)), (5, .int (i32 x5)), (6, .int (i32 x6))] [] RV iv av 116
def L_X9_make_102 (Y : Gl) (X : Cx) (P : PN) (k : Nat) (a1 : Nat) (x4 : Int) (x5 : Int) (x6 : Int) (x7 : Int) (iv av : IVt) : Prop := Wa Y X 8 (g_MQ Y X 1 (g_N RV 116 P) 0 0) 0 0 102 [(0, .ref (gl_b Y + k)), (4, .int (i32 x4)), (5, .int (i32 x5)), (6, .int (i32 x6)), (7, .int (i32 x7))] [] RV iv av 116
set_option maxHeartbeats 4000000 in
set_option maxRecDepth 100000 in
theorem w_X9_make_102 {Y : Gl} {X : Cx} {e : Nat} {P : PN} {k : Nat} {a1 : Nat} {x4 : Int} {x5 : Int} {x6 : Int} {x7 : Int} {iv av : IVt} (C : CX Y X RX9 "make" cX9_make 8 (some .boolean) (e + 2) 0 0) (Kk : ReadCK k) (Ka1 : ArrK 100 a1) (hx4 : InR x4) (hx5 : InR x5) (hx6 : InR x6) (hx7 : InR x7) (h :
    ((16 ≤ x7) →
      ((x6 = 0) →
        P 1 iv av
      ) ∧
      ((¬ x6 = 0) →
        ((¬ x5 = 1) →
          ((¬ x5 = 0) →
            P 0 iv av
          ) ∧
          ((x5 = 0) →
            ((x4 = 0) →
              P 0 iv av
            ) ∧
            ((¬ x4 = 0) →
              P 1 iv av
            )
          )
        ) ∧
        ((x5 = 1) →
          ((InR (av (k + 1) 1)) →
            (((av (k + 1) 1) = 1) →
              P 1 iv av
            ) ∧
            ((¬ (av (k + 1) 1) = 1) →
              ((¬ x5 = 0) →
                P 0 iv av
              ) ∧
              ((x5 = 0) →
                ((x4 = 0) →
                  P 0 iv av
                ) ∧
                ((¬ x4 = 0) →
                  P 1 iv av
                )
              )
            )
          )
        )
      )
    ) ∧
    ((¬ 16 ≤ x7) →
      (0 ≤ x7 ∧ x7 < 16) ∧
      ((InR (av (k + 1) x7.toNat)) →
        (InR ((2 * x6) - (av (k + 1) x7.toNat))) ∧
        ((0 ≤ ((2 * x6) - (av (k + 1) x7.toNat))) →
          L_X9_make_102 Y X P k a1 x4 x5 ((2 * x6) - (av (k + 1) x7.toNat)) (x7 + 1) iv av
        ) ∧
        ((¬ 0 ≤ ((2 * x6) - (av (k + 1) x7.toNat))) →
          P 0 iv av
        )
      )
    )) : L_X9_make_102 Y X P k a1 x4 x5 x6 x7 iv av := by
  obtain ⟨hkc, hka, hkb, hkd, hkl, hkr0, hkr1, hkr2, hkk1, hkk2, hkk3⟩ := Kk
  obtain ⟨ha1c, ha1l⟩ := Ka1
  unfold L_X9_make_102
  refine r_iload (pc' := 104) C 4 rfl dX9_make_102 rfl ?_
  refine r_aload_n (pc' := 105) C 0 rfl rfl dX9_make_104 rfl ?_
  refine r_getr (pc' := 108) (k := k) (r := k + 1) C fl_X9_9 (by omega) hkc (by decide) fr_9_0 hkr0 dX9_make_105 rfl ?_
  refine r_alen (pc' := 109) (k := k + 1) (v := 16) C (by omega) hka (by decide) (by rw [hkk1]; rfl) dX9_make_108 rfl ?_
  refine r_icmp_ge (pc' := 112) (tgt := 139) C hx7 (by decide) dX9_make_109 (by decide) rfl (fun c1 => ?_) (fun c1 => ?_)
  · replace h := h.1 c1
    refine r_iload (pc' := 141) C 3 rfl dX9_make_139 rfl ?_
    refine r_if_eq (pc' := 144) (tgt := 170) C hx6 dX9_make_141 (by decide) rfl (fun c2 => ?_) (fun c2 => ?_)
    · replace h := h.1 c2
      refine r_iconst (pc' := 171) C dX9_make_170 rfl ?_
      refine r_goto (tgt := 175) C dX9_make_171 (by decide) ?_
      exact r_zret C (by decide) ⟨rfl, rfl, h⟩ dX9_make_175
    · replace h := h.2 c2
      refine r_iload (pc' := 146) C 2 rfl dX9_make_144 rfl ?_
      refine r_iconst (pc' := 147) C dX9_make_146 rfl ?_
      refine r_icmp_ne (pc' := 150) (tgt := 160) C hx5 (by decide) dX9_make_147 (by decide) rfl (fun c3 => ?_) (fun c3 => ?_)
      · replace h := h.1 c3
        refine r_iload (pc' := 162) C 2 rfl dX9_make_160 rfl ?_
        refine r_if_ne (pc' := 165) (tgt := 174) C hx5 dX9_make_162 (by decide) rfl (fun c4 => ?_) (fun c4 => ?_)
        · replace h := h.1 c4
          refine r_iconst (pc' := 175) C dX9_make_174 rfl ?_
          exact r_zret C (by decide) ⟨rfl, rfl, h⟩ dX9_make_175
        · replace h := h.2 c4
          refine r_iload (pc' := 167) C 1 rfl dX9_make_165 rfl ?_
          refine r_if_eq (pc' := 170) (tgt := 174) C hx4 dX9_make_167 (by decide) rfl (fun c5 => ?_) (fun c5 => ?_)
          · replace h := h.1 c5
            refine r_iconst (pc' := 175) C dX9_make_174 rfl ?_
            exact r_zret C (by decide) ⟨rfl, rfl, h⟩ dX9_make_175
          · replace h := h.2 c5
            refine r_iconst (pc' := 171) C dX9_make_170 rfl ?_
            refine r_goto (tgt := 175) C dX9_make_171 (by decide) ?_
            exact r_zret C (by decide) ⟨rfl, rfl, h⟩ dX9_make_175
      · replace h := h.2 c3
        refine r_aload_n (pc' := 151) C 0 rfl rfl dX9_make_150 rfl ?_
        refine r_getr (pc' := 154) (k := k) (r := k + 1) C fl_X9_9 (by omega) hkc (by decide) fr_9_0 hkr0 dX9_make_151 rfl ?_
        refine r_iconst (pc' := 155) C dX9_make_154 rfl ?_
        refine r_iald (pc' := 156) (k := k + 1) C (by omega) hka (by rw [hkk1]; decide) dX9_make_155 rfl (fun f6 => ?_)
        replace f6 : InR (av (k + 1) 1) := f6
        rw [show (1 : Int).toNat = 1 from rfl]
        replace h := h f6
        refine r_iconst (pc' := 157) C dX9_make_156 rfl ?_
        refine r_icmp_eq (pc' := 160) (tgt := 170) C f6 (by decide) dX9_make_157 (by decide) rfl (fun c7 => ?_) (fun c7 => ?_)
        · replace h := h.1 c7
          refine r_iconst (pc' := 171) C dX9_make_170 rfl ?_
          refine r_goto (tgt := 175) C dX9_make_171 (by decide) ?_
          exact r_zret C (by decide) ⟨rfl, rfl, h⟩ dX9_make_175
        · replace h := h.2 c7
          refine r_iload (pc' := 162) C 2 rfl dX9_make_160 rfl ?_
          refine r_if_ne (pc' := 165) (tgt := 174) C hx5 dX9_make_162 (by decide) rfl (fun c8 => ?_) (fun c8 => ?_)
          · replace h := h.1 c8
            refine r_iconst (pc' := 175) C dX9_make_174 rfl ?_
            exact r_zret C (by decide) ⟨rfl, rfl, h⟩ dX9_make_175
          · replace h := h.2 c8
            refine r_iload (pc' := 167) C 1 rfl dX9_make_165 rfl ?_
            refine r_if_eq (pc' := 170) (tgt := 174) C hx4 dX9_make_167 (by decide) rfl (fun c9 => ?_) (fun c9 => ?_)
            · replace h := h.1 c9
              refine r_iconst (pc' := 175) C dX9_make_174 rfl ?_
              exact r_zret C (by decide) ⟨rfl, rfl, h⟩ dX9_make_175
            · replace h := h.2 c9
              refine r_iconst (pc' := 171) C dX9_make_170 rfl ?_
              refine r_goto (tgt := 175) C dX9_make_171 (by decide) ?_
              exact r_zret C (by decide) ⟨rfl, rfl, h⟩ dX9_make_175
  · replace h := h.2 c1
    refine r_iconst (pc' := 113) C dX9_make_112 rfl ?_
    refine r_iload (pc' := 115) C 3 rfl dX9_make_113 rfl ?_
    refine r_imul (pc' := 116) C dX9_make_115 rfl ?_
    refine r_aload_n (pc' := 117) C 0 rfl rfl dX9_make_116 rfl ?_
    refine r_getr (pc' := 120) (k := k) (r := k + 1) C fl_X9_9 (by omega) hkc (by decide) fr_9_0 hkr0 dX9_make_117 rfl ?_
    refine r_iload (pc' := 122) C 4 rfl dX9_make_120 rfl ?_
    have o10 := h.1
    replace h := h.2
    refine r_iald (pc' := 123) (k := k + 1) C (by omega) hka (by have := hkk1; omega) dX9_make_122 rfl (fun f11 => ?_)
    replace h := h f11
    refine r_isub (pc' := 124) C dX9_make_123 rfl ?_
    refine r_istore (pc' := 126) (ls' := [(0, .ref (gl_b Y + k)), (4, .int (i32 x4)), (5, .int (i32 x5)), (6, .int (i32 ((2 * x6) - (av (k + 1) x7.toNat)))), (7, .int (i32 x7))]) C (by decide) rfl dX9_make_124 rfl ?_
    refine r_iload (pc' := 128) C 3 rfl dX9_make_126 rfl ?_
    have o12 := h.1
    replace h := h.2
    refine r_if_ge (pc' := 131) (tgt := 133) C o12 dX9_make_128 (by decide) rfl (fun c13 => ?_) (fun c13 => ?_)
    · replace h := h.1 c13
      refine r_iinc (pc' := 136) (ls' := [(0, .ref (gl_b Y + k)), (4, .int (i32 x4)), (5, .int (i32 x5)), (6, .int (i32 ((2 * x6) - (av (k + 1) x7.toNat)))), (7, .int (i32 (x7 + 1)))]) C 4 rfl (by decide) rfl dX9_make_133 rfl ?_
      refine r_goto (tgt := 102) C dX9_make_136 (by decide) ?_
      exact Wa.sub [0, 1, 2, 3, 4] rfl h
    · replace h := h.2 c13
      refine r_iconst (pc' := 132) C dX9_make_131 rfl ?_
      exact r_zret C (by decide) ⟨rfl, rfl, h⟩ dX9_make_132
set_option maxHeartbeats 4000000 in
set_option maxRecDepth 100000 in
theorem w_X9_make_33 {Y : Gl} {X : Cx} {e : Nat} {P : PN} {k : Nat} {a1 : Nat} {x2 : Int} {x3 : Int} {x4 : Int} {x5 : Int} {x6 : Int} {iv av : IVt} (C : CX Y X RX9 "make" cX9_make 8 (some .boolean) (e + 2) 0 0) (Kk : ReadCK k) (Ka1 : ArrK 100 a1) (hx2 : InR x2) (hx3 : InR x3) (hx6 : InR x6) (h :
    ((x3 ≤ x6) →
      OkN Y (e + 1) mX9_sort [.ref (gl_b Y + k), .ref (gl_b Y + a1), .int (i32 x2), .int (i32 x3)] RV iv (up2 av (k + 1) 0 0) 116 (fun r2 iv3 av4 =>
        L_X9_make_102 Y X P k a1 x4 x5 1 1 iv3 av4
      )
    ) ∧
    ((¬ x3 ≤ x6) →
      (InR (x2 + x6)) ∧
      OkN Y (e + 1) mX9_lengthAt [.ref (gl_b Y + k), .ref (gl_b Y + a1), .int (i32 (x2 + x6))] RV iv av 116 (fun r7 iv8 av9 =>
        (InR r7) →
        (0 ≤ r7 ∧ r7 < 16) ∧
        ((InR (av9 (k + 1) r7.toNat)) →
          (InR ((av9 (k + 1) r7.toNat) + 1)) ∧
          ((r7 ≤ 0) →
            L_X9_make_33 Y X P k a1 x2 x3 x4 (x5 + 0) (x6 + 1) iv8 (up2 av9 (k + 1) r7.toNat ((av9 (k + 1) r7.toNat) + 1))
          ) ∧
          ((¬ r7 ≤ 0) →
            L_X9_make_33 Y X P k a1 x2 x3 x4 (x5 + 1) (x6 + 1) iv8 (up2 av9 (k + 1) r7.toNat ((av9 (k + 1) r7.toNat) + 1))
          )
        )
      )
    )) : L_X9_make_33 Y X P k a1 x2 x3 x4 x5 x6 iv av := by
  obtain ⟨hkc, hka, hkb, hkd, hkl, hkr0, hkr1, hkr2, hkk1, hkk2, hkk3⟩ := Kk
  obtain ⟨ha1c, ha1l⟩ := Ka1
  unfold L_X9_make_33
  refine r_iload (pc' := 35) C 6 rfl dX9_make_33 rfl ?_
  refine r_iload_n (pc' := 36) C 3 rfl rfl dX9_make_35 rfl ?_
  refine r_icmp_ge (pc' := 39) (tgt := 82) C hx6 hx3 dX9_make_36 (by decide) rfl (fun c1 => ?_) (fun c1 => ?_)
  · replace h := h.1 c1
    refine r_aload_n (pc' := 83) C 0 rfl rfl dX9_make_82 rfl ?_
    refine r_getr (pc' := 86) (k := k) (r := k + 1) C fl_X9_9 (by omega) hkc (by decide) fr_9_0 hkr0 dX9_make_83 rfl ?_
    refine r_iconst (pc' := 87) C dX9_make_86 rfl ?_
    refine r_iconst (pc' := 88) C dX9_make_87 rfl ?_
    refine r_iast (pc' := 89) (k := k + 1) C (by omega) hka (by rw [hkk1]; decide) (by decide) dX9_make_88 rfl ?_
    rw [show (0 : Int).toNat = 0 from rfl]
    refine r_aload_n (pc' := 90) C 0 rfl rfl dX9_make_89 rfl ?_
    refine r_aload_n (pc' := 91) C 1 rfl rfl dX9_make_90 rfl ?_
    refine r_iload_n (pc' := 92) C 2 rfl rfl dX9_make_91 rfl ?_
    refine r_iload_n (pc' := 93) C 3 rfl rfl dX9_make_92 rfl ?_
    refine c_Vv (pc' := 96) (mt := mX9_sort) (as := [.ref (gl_b Y + a1), .int (i32 x2), .int (i32 x3)]) (st := []) (k := k) C h rfl cl_X9_sort ml_X9_25 im_X9_sort sl_X9_sort (by omega) (Nat.le_refl _) (Nat.le_refl _) rfl (by omega) hkc (by decide) rfl rfl rfl (Nat.le_of_ble_eq_true rfl) dX9_make_93 rfl (fun r2 iv3 av4 h => ?_)
    refine r_iconst (pc' := 97) C dX9_make_96 rfl ?_
    refine r_istore (pc' := 99) (ls' := [(0, .ref (gl_b Y + k)), (1, .ref (gl_b Y + a1)), (2, .int (i32 x2)), (3, .int (i32 x3)), (4, .int (i32 x4)), (5, .int (i32 x5)), (6, .int (i32 1))]) C (by decide) rfl dX9_make_97 rfl ?_
    refine r_iconst (pc' := 100) C dX9_make_99 rfl ?_
    refine r_istore (pc' := 102) (ls' := [(0, .ref (gl_b Y + k)), (1, .ref (gl_b Y + a1)), (2, .int (i32 x2)), (3, .int (i32 x3)), (4, .int (i32 x4)), (5, .int (i32 x5)), (6, .int (i32 1)), (7, .int (i32 1))]) C (by decide) rfl dX9_make_100 rfl ?_
    exact Wa.sub [0, 4, 5, 6, 7] rfl h
  · replace h := h.2 c1
    refine r_aload_n (pc' := 40) C 0 rfl rfl dX9_make_39 rfl ?_
    refine r_aload_n (pc' := 41) C 1 rfl rfl dX9_make_40 rfl ?_
    refine r_iload_n (pc' := 42) C 2 rfl rfl dX9_make_41 rfl ?_
    refine r_iload (pc' := 44) C 6 rfl dX9_make_42 rfl ?_
    refine r_iadd (pc' := 45) C dX9_make_44 rfl ?_
    have o6 := h.1
    replace h := h.2
    refine c_Vi (pc' := 48) (mt := mX9_lengthAt) (as := [.ref (gl_b Y + a1), .int (i32 (x2 + x6))]) (st := []) (k := k) C h rfl cl_X9_lengthAt ml_X9_21 im_X9_lengthAt sl_X9_lengthAt (by omega) (Nat.le_refl _) (Nat.le_refl _) rfl (by omega) hkc (by decide) rfl rfl rfl (Nat.le_of_ble_eq_true rfl) dX9_make_45 rfl (fun r7 iv8 av9 f10 h => ?_)
    replace h := h f10
    refine r_istore (pc' := 50) (ls' := [(0, .ref (gl_b Y + k)), (1, .ref (gl_b Y + a1)), (2, .int (i32 x2)), (3, .int (i32 x3)), (4, .int (i32 x4)), (5, .int (i32 x5)), (6, .int (i32 x6)), (7, .int (i32 r7))]) C (by decide) rfl dX9_make_48 rfl ?_
    refine r_aload_n (pc' := 51) C 0 rfl rfl dX9_make_50 rfl ?_
    refine r_getr (pc' := 54) (k := k) (r := k + 1) C fl_X9_9 (by omega) hkc (by decide) fr_9_0 hkr0 dX9_make_51 rfl ?_
    refine r_iload (pc' := 56) C 7 rfl dX9_make_54 rfl ?_
    refine r_dup2 (pc' := 57) C rfl rfl dX9_make_56 rfl ?_
    have o11 := h.1
    replace h := h.2
    refine r_iald (pc' := 58) (k := k + 1) C (by omega) hka (by have := hkk1; omega) dX9_make_57 rfl (fun f12 => ?_)
    replace h := h f12
    refine r_iconst (pc' := 59) C dX9_make_58 rfl ?_
    refine r_iadd (pc' := 60) C dX9_make_59 rfl ?_
    have o13 := h.1
    replace h := h.2
    refine r_iast (pc' := 61) (k := k + 1) C (by omega) hka (by have := hkk1; omega) o13 dX9_make_60 rfl ?_
    refine r_iload (pc' := 63) C 5 rfl dX9_make_61 rfl ?_
    refine r_iload (pc' := 65) C 7 rfl dX9_make_63 rfl ?_
    refine r_if_le (pc' := 68) (tgt := 72) C f10 dX9_make_65 (by decide) rfl (fun c14 => ?_) (fun c14 => ?_)
    · replace h := h.1 c14
      refine r_iconst (pc' := 73) C dX9_make_72 rfl ?_
      refine r_iadd (pc' := 74) C dX9_make_73 rfl ?_
      refine r_istore (pc' := 76) (ls' := [(0, .ref (gl_b Y + k)), (1, .ref (gl_b Y + a1)), (2, .int (i32 x2)), (3, .int (i32 x3)), (4, .int (i32 x4)), (5, .int (i32 (x5 + 0))), (6, .int (i32 x6)), (7, .int (i32 r7))]) C (by decide) rfl dX9_make_74 rfl ?_
      refine r_iinc (pc' := 79) (ls' := [(0, .ref (gl_b Y + k)), (1, .ref (gl_b Y + a1)), (2, .int (i32 x2)), (3, .int (i32 x3)), (4, .int (i32 x4)), (5, .int (i32 (x5 + 0))), (6, .int (i32 (x6 + 1))), (7, .int (i32 r7))]) C 6 rfl (by decide) rfl dX9_make_76 rfl ?_
      refine r_goto (tgt := 33) C dX9_make_79 (by decide) ?_
      exact Wa.sub [0, 1, 2, 3, 4, 5, 6] rfl h
    · replace h := h.2 c14
      refine r_iconst (pc' := 69) C dX9_make_68 rfl ?_
      refine r_goto (tgt := 73) C dX9_make_69 (by decide) ?_
      refine r_iadd (pc' := 74) C dX9_make_73 rfl ?_
      refine r_istore (pc' := 76) (ls' := [(0, .ref (gl_b Y + k)), (1, .ref (gl_b Y + a1)), (2, .int (i32 x2)), (3, .int (i32 x3)), (4, .int (i32 x4)), (5, .int (i32 (x5 + 1))), (6, .int (i32 x6)), (7, .int (i32 r7))]) C (by decide) rfl dX9_make_74 rfl ?_
      refine r_iinc (pc' := 79) (ls' := [(0, .ref (gl_b Y + k)), (1, .ref (gl_b Y + a1)), (2, .int (i32 x2)), (3, .int (i32 x3)), (4, .int (i32 x4)), (5, .int (i32 (x5 + 1))), (6, .int (i32 (x6 + 1))), (7, .int (i32 r7))]) C 6 rfl (by decide) rfl dX9_make_76 rfl ?_
      refine r_goto (tgt := 33) C dX9_make_79 (by decide) ?_
      exact Wa.sub [0, 1, 2, 3, 4, 5, 6] rfl h
set_option maxHeartbeats 4000000 in
set_option maxRecDepth 100000 in
theorem w_X9_make_3 {Y : Gl} {X : Cx} {e : Nat} {P : PN} {k : Nat} {a1 : Nat} {x2 : Int} {x3 : Int} {x4 : Int} {x5 : Int} {iv av : IVt} (C : CX Y X RX9 "make" cX9_make 8 (some .boolean) (e + 2) 0 0) (Kk : ReadCK k) (Ka1 : ArrK 100 a1) (hx5 : InR x5) (h :
    ((16 ≤ x5) →
      L_X9_make_33 Y X P k a1 x2 x3 x4 0 0 iv av
    ) ∧
    ((¬ 16 ≤ x5) →
      (0 ≤ x5 ∧ x5 < 16) ∧
      L_X9_make_3 Y X P k a1 x2 x3 x4 (x5 + 1) iv (up2 av (k + 1) x5.toNat 0)
    )) : L_X9_make_3 Y X P k a1 x2 x3 x4 x5 iv av := by
  obtain ⟨hkc, hka, hkb, hkd, hkl, hkr0, hkr1, hkr2, hkk1, hkk2, hkk3⟩ := Kk
  obtain ⟨ha1c, ha1l⟩ := Ka1
  unfold L_X9_make_3
  refine r_iload (pc' := 5) C 5 rfl dX9_make_3 rfl ?_
  refine r_aload_n (pc' := 6) C 0 rfl rfl dX9_make_5 rfl ?_
  refine r_getr (pc' := 9) (k := k) (r := k + 1) C fl_X9_9 (by omega) hkc (by decide) fr_9_0 hkr0 dX9_make_6 rfl ?_
  refine r_alen (pc' := 10) (k := k + 1) (v := 16) C (by omega) hka (by decide) (by rw [hkk1]; rfl) dX9_make_9 rfl ?_
  refine r_icmp_ge (pc' := 13) (tgt := 27) C hx5 (by decide) dX9_make_10 (by decide) rfl (fun c1 => ?_) (fun c1 => ?_)
  · replace h := h.1 c1
    refine r_iconst (pc' := 28) C dX9_make_27 rfl ?_
    refine r_istore (pc' := 30) (ls' := [(0, .ref (gl_b Y + k)), (1, .ref (gl_b Y + a1)), (2, .int (i32 x2)), (3, .int (i32 x3)), (4, .int (i32 x4)), (5, .int (i32 0))]) C (by decide) rfl dX9_make_28 rfl ?_
    refine r_iconst (pc' := 31) C dX9_make_30 rfl ?_
    refine r_istore (pc' := 33) (ls' := [(0, .ref (gl_b Y + k)), (1, .ref (gl_b Y + a1)), (2, .int (i32 x2)), (3, .int (i32 x3)), (4, .int (i32 x4)), (5, .int (i32 0)), (6, .int (i32 0))]) C (by decide) rfl dX9_make_31 rfl ?_
    exact Wa.sub [0, 1, 2, 3, 4, 5, 6] rfl h
  · replace h := h.2 c1
    refine r_aload_n (pc' := 14) C 0 rfl rfl dX9_make_13 rfl ?_
    refine r_getr (pc' := 17) (k := k) (r := k + 1) C fl_X9_9 (by omega) hkc (by decide) fr_9_0 hkr0 dX9_make_14 rfl ?_
    refine r_iload (pc' := 19) C 5 rfl dX9_make_17 rfl ?_
    refine r_iconst (pc' := 20) C dX9_make_19 rfl ?_
    have o2 := h.1
    replace h := h.2
    refine r_iast (pc' := 21) (k := k + 1) C (by omega) hka (by have := hkk1; omega) (by decide) dX9_make_20 rfl ?_
    refine r_iinc (pc' := 24) (ls' := [(0, .ref (gl_b Y + k)), (1, .ref (gl_b Y + a1)), (2, .int (i32 x2)), (3, .int (i32 x3)), (4, .int (i32 x4)), (5, .int (i32 (x5 + 1)))]) C 5 rfl (by decide) rfl dX9_make_21 rfl ?_
    refine r_goto (tgt := 3) C dX9_make_24 (by decide) ?_
    exact Wa.sub [0, 1, 2, 3, 4, 5] rfl h
set_option maxHeartbeats 4000000 in
set_option maxRecDepth 100000 in
theorem o_X9_make {Y : Gl} {e : Nat} {P : PN} {k : Nat} {a1 : Nat} {x2 : Int} {x3 : Int} {x4 : Int} {iv av : IVt} (Kk : ReadCK k) (Ka1 : ArrK 100 a1) (h : ∀ X : Cx, CX Y X RX9 "make" cX9_make 8 (some .boolean) (e + 2) 0 0 →
    L_X9_make_3 Y X P k a1 x2 x3 x4 0 iv av) : OkN Y (e + 2) mX9_make [.ref (gl_b Y + k), .ref (gl_b Y + a1), .int (i32 x2), .int (i32 x3), .int (i32 x4)] RV iv av 116 P := by
  obtain ⟨hkc, hka, hkb, hkd, hkl, hkr0, hkr1, hkr2, hkk1, hkk2, hkk3⟩ := Kk
  obtain ⟨ha1c, ha1l⟩ := Ka1
  refine OkW.of rfl (by show _ ≤ 8; exact Nat.le_of_ble_eq_true rfl) fun X C0 hR => ?_
  have C : CX Y X RX9 "make" cX9_make 8 (some .boolean) (e + 2) 0 0 := C0
  replace h := h X C
  show Wa Y X 8 (g_MQ Y X 1 (g_N RV 116 P) 0 0) 0 0 0 [(0, .ref (gl_b Y + k)), (1, .ref (gl_b Y + a1)), (2, .int (i32 x2)), (3, .int (i32 x3)), (4, .int (i32 x4))] [] RV iv av 116
  refine r_iconst (pc' := 1) C dX9_make_0 rfl ?_
  refine r_istore (pc' := 3) (ls' := [(0, .ref (gl_b Y + k)), (1, .ref (gl_b Y + a1)), (2, .int (i32 x2)), (3, .int (i32 x3)), (4, .int (i32 x4)), (5, .int (i32 0))]) C (by decide) rfl dX9_make_1 rfl ?_
  exact Wa.sub [0, 1, 2, 3, 4, 5] rfl h
set_option maxHeartbeats 4000000 in
set_option maxRecDepth 100000 in
theorem o_X9_lengthAt {Y : Gl} {e : Nat} {P : PN} {k : Nat} {a1 : Nat} {x2 : Int} {iv av : IVt} (Kk : ReadCK k) (Ka1 : ArrK 100 a1) (hx2 : InR x2) (h : 
    ((x2 < 0) →
      P 0 iv av
    ) ∧
    ((¬ x2 < 0) →
      (((kl a1 : Int) ≤ x2) →
        P 0 iv av
      ) ∧
      ((¬ (kl a1 : Int) ≤ x2) →
        (0 ≤ x2 ∧ x2 < (kl a1 : Int)) ∧
        ((InR (av a1 x2.toNat)) →
          P ((av a1 x2.toNat) % 16) iv av
        )
      )
    )) : OkN Y e mX9_lengthAt [.ref (gl_b Y + k), .ref (gl_b Y + a1), .int (i32 x2)] RV iv av 116 P := by
  obtain ⟨hkc, hka, hkb, hkd, hkl, hkr0, hkr1, hkr2, hkk1, hkk2, hkk3⟩ := Kk
  obtain ⟨ha1c, ha1l⟩ := Ka1
  refine OkW.of rfl (by show _ ≤ 3; exact Nat.le_of_ble_eq_true rfl) fun X C0 hR => ?_
  have C : CX Y X RX9 "lengthAt" cX9_lengthAt 3 (some .int) e 0 0 := C0
  show Wa Y X 3 (g_MQ Y X 1 (g_N RV 116 P) 0 0) 0 0 0 [(0, .ref (gl_b Y + k)), (1, .ref (gl_b Y + a1)), (2, .int (i32 x2))] [] RV iv av 116
  refine r_iload_n (pc' := 1) C 2 rfl rfl dX9_lengthAt_0 rfl ?_
  refine r_if_lt (pc' := 4) (tgt := 19) C hx2 dX9_lengthAt_1 (by decide) rfl (fun c1 => ?_) (fun c1 => ?_)
  · replace h := h.1 c1
    refine r_iconst (pc' := 20) C dX9_lengthAt_19 rfl ?_
    exact r_iret C (by decide) ⟨rfl, rfl, h⟩ dX9_lengthAt_20
  · replace h := h.2 c1
    refine r_iload_n (pc' := 5) C 2 rfl rfl dX9_lengthAt_4 rfl ?_
    refine r_aload_n (pc' := 6) C 1 rfl rfl dX9_lengthAt_5 rfl ?_
    refine r_alen (pc' := 7) (k := a1) (v := (kl a1 : Int)) C (by omega) ha1c (by decide) rfl dX9_lengthAt_6 rfl ?_
    refine r_icmp_ge (pc' := 10) (tgt := 19) C hx2 (by have := kl_le a1; omega) dX9_lengthAt_7 (by decide) rfl (fun c2 => ?_) (fun c2 => ?_)
    · replace h := h.1 c2
      refine r_iconst (pc' := 20) C dX9_lengthAt_19 rfl ?_
      exact r_iret C (by decide) ⟨rfl, rfl, h⟩ dX9_lengthAt_20
    · replace h := h.2 c2
      refine r_aload_n (pc' := 11) C 1 rfl rfl dX9_lengthAt_10 rfl ?_
      refine r_iload_n (pc' := 12) C 2 rfl rfl dX9_lengthAt_11 rfl ?_
      have o3 := h.1
      replace h := h.2
      refine r_iald (pc' := 13) (k := a1) C (by omega) ha1c o3 dX9_lengthAt_12 rfl (fun f4 => ?_)
      replace h := h f4
      refine r_bipush (pc' := 15) C dX9_lengthAt_13 (by decide) rfl ?_
      refine r_iandM (pc' := 16) (m := 16) C 4 (by decide) (by decide) (by decide) dX9_lengthAt_15 rfl ?_
      refine r_goto (tgt := 20) C dX9_lengthAt_16 (by decide) ?_
      exact r_iret C (by omega) ⟨rfl, rfl, h⟩ dX9_lengthAt_20
def L_X9_sort_6 (Y : Gl) (X : Cx) (P : PN) (k : Nat) (a1 : Nat) (x2 : Int) (x3 : Int) (x4 : Int) (x5 : Int) (iv av : IVt) : Prop := Wa Y X 7 (g_MQ Y X 0 (g_N RV 116 P) 0 0) 0 0 6 [(0, .ref (gl_b Y + k)), (1, .ref (gl_b Y + a1)), (2, .int (i32 x2)), (3, .int (i32 x3)), (4, .int (i32 x4)), (5, .int (i32 x5))] [] RV iv av 116
def L_X9_sort_56 (Y : Gl) (X : Cx) (P : PN) (k : Nat) (a1 : Nat) (x2 : Int) (x3 : Int) (x5 : Int) (iv av : IVt) : Prop := Wa Y X 7 (g_MQ Y X 0 (g_N RV 116 P) 0 0) 0 0 56 [(0, .ref (gl_b Y + k)), (1, .ref (gl_b Y + a1)), (2, .int (i32 x2)), (3, .int (i32 x3)), (5, .int (i32 x5))] [] RV iv av 116
set_option maxHeartbeats 4000000 in
set_option maxRecDepth 100000 in
theorem w_X9_sort_56 {Y : Gl} {X : Cx} {e : Nat} {P : PN} {k : Nat} {a1 : Nat} {x2 : Int} {x3 : Int} {x5 : Int} {iv av : IVt} (C : CX Y X RX9 "sort" cX9_sort 7 none (e + 1) 0 0) (Kk : ReadCK k) (Ka1 : ArrK 100 a1) (hx3 : InR x3) (hx5 : InR x5) (h :
    ((x3 ≤ x5) →
      P 0 iv av
    ) ∧
    ((¬ x3 ≤ x5) →
      (InR (x2 + x5)) ∧
      OkN Y e mX9_lengthAt [.ref (gl_b Y + k), .ref (gl_b Y + a1), .int (i32 (x2 + x5))] RV iv av 116 (fun r3 iv4 av5 =>
        (InR r3) →
        ((r3 ≤ 0) →
          L_X9_sort_56 Y X P k a1 x2 x3 (x5 + 1) iv4 av5
        ) ∧
        ((¬ r3 ≤ 0) →
          ((16 ≤ r3) →
            L_X9_sort_56 Y X P k a1 x2 x3 (x5 + 1) iv4 av5
          ) ∧
          ((¬ 16 ≤ r3) →
            (0 ≤ r3 ∧ r3 < 16) ∧
            ((InR (av5 (k + 3) r3.toNat)) →
              (((av5 (k + 3) r3.toNat) < 0) →
                L_X9_sort_56 Y X P k a1 x2 x3 (x5 + 1) iv4 av5
              ) ∧
              ((¬ (av5 (k + 3) r3.toNat) < 0) →
                ((288 ≤ (av5 (k + 3) r3.toNat)) →
                  L_X9_sort_56 Y X P k a1 x2 x3 (x5 + 1) iv4 av5
                ) ∧
                ((¬ 288 ≤ (av5 (k + 3) r3.toNat)) →
                  (0 ≤ (av5 (k + 3) r3.toNat) ∧ (av5 (k + 3) r3.toNat) < 288) ∧
                  (InR ((av5 (k + 3) r3.toNat) + 1)) ∧
                  L_X9_sort_56 Y X P k a1 x2 x3 (x5 + 1) iv4 (up2 (up2 av5 (k + 2) ((av5 (k + 3) r3.toNat).toNat) x5) (k + 3) r3.toNat ((av5 (k + 3) r3.toNat) + 1))
                )
              )
            )
          )
        )
      )
    )) : L_X9_sort_56 Y X P k a1 x2 x3 x5 iv av := by
  obtain ⟨hkc, hka, hkb, hkd, hkl, hkr0, hkr1, hkr2, hkk1, hkk2, hkk3⟩ := Kk
  obtain ⟨ha1c, ha1l⟩ := Ka1
  unfold L_X9_sort_56
  refine r_iload (pc' := 58) C 4 rfl dX9_sort_56 rfl ?_
  refine r_iload_n (pc' := 59) C 3 rfl rfl dX9_sort_58 rfl ?_
  refine r_icmp_ge (pc' := 62) (tgt := 144) C hx5 hx3 dX9_sort_59 (by decide) rfl (fun c1 => ?_) (fun c1 => ?_)
  · replace h := h.1 c1
    exact r_vret C ⟨rfl, rfl, h⟩ dX9_sort_144
  · replace h := h.2 c1
    refine r_aload_n (pc' := 63) C 0 rfl rfl dX9_sort_62 rfl ?_
    refine r_aload_n (pc' := 64) C 1 rfl rfl dX9_sort_63 rfl ?_
    refine r_iload_n (pc' := 65) C 2 rfl rfl dX9_sort_64 rfl ?_
    refine r_iload (pc' := 67) C 4 rfl dX9_sort_65 rfl ?_
    refine r_iadd (pc' := 68) C dX9_sort_67 rfl ?_
    have o2 := h.1
    replace h := h.2
    refine c_Vi (pc' := 71) (mt := mX9_lengthAt) (as := [.ref (gl_b Y + a1), .int (i32 (x2 + x5))]) (st := []) (k := k) C h rfl cl_X9_lengthAt ml_X9_21 im_X9_lengthAt sl_X9_lengthAt (by omega) (Nat.le_refl _) (Nat.le_refl _) rfl (by omega) hkc (by decide) rfl rfl rfl (Nat.le_of_ble_eq_true rfl) dX9_sort_68 rfl (fun r3 iv4 av5 f6 h => ?_)
    replace h := h f6
    refine r_istore (pc' := 73) (ls' := [(0, .ref (gl_b Y + k)), (1, .ref (gl_b Y + a1)), (2, .int (i32 x2)), (3, .int (i32 x3)), (5, .int (i32 x5)), (6, .int (i32 r3))]) C (by decide) rfl dX9_sort_71 rfl ?_
    refine r_iload (pc' := 75) C 5 rfl dX9_sort_73 rfl ?_
    refine r_if_le (pc' := 78) (tgt := 138) C f6 dX9_sort_75 (by decide) rfl (fun c7 => ?_) (fun c7 => ?_)
    · replace h := h.1 c7
      refine r_iinc (pc' := 141) (ls' := [(0, .ref (gl_b Y + k)), (1, .ref (gl_b Y + a1)), (2, .int (i32 x2)), (3, .int (i32 x3)), (5, .int (i32 (x5 + 1))), (6, .int (i32 r3))]) C 4 rfl (by decide) rfl dX9_sort_138 rfl ?_
      refine r_goto (tgt := 56) C dX9_sort_141 (by decide) ?_
      exact Wa.sub [0, 1, 2, 3, 4] rfl h
    · replace h := h.2 c7
      refine r_iload (pc' := 80) C 5 rfl dX9_sort_78 rfl ?_
      refine r_aload_n (pc' := 81) C 0 rfl rfl dX9_sort_80 rfl ?_
      refine r_getr (pc' := 84) (k := k) (r := k + 3) C fl_X9_18 (by omega) hkc (by decide) fr_9_2 hkr2 dX9_sort_81 rfl ?_
      refine r_alen (pc' := 85) (k := k + 3) (v := 16) C (by omega) hkd (by decide) (by rw [hkk3]; rfl) dX9_sort_84 rfl ?_
      refine r_icmp_ge (pc' := 88) (tgt := 138) C f6 (by decide) dX9_sort_85 (by decide) rfl (fun c8 => ?_) (fun c8 => ?_)
      · replace h := h.1 c8
        refine r_iinc (pc' := 141) (ls' := [(0, .ref (gl_b Y + k)), (1, .ref (gl_b Y + a1)), (2, .int (i32 x2)), (3, .int (i32 x3)), (5, .int (i32 (x5 + 1))), (6, .int (i32 r3))]) C 4 rfl (by decide) rfl dX9_sort_138 rfl ?_
        refine r_goto (tgt := 56) C dX9_sort_141 (by decide) ?_
        exact Wa.sub [0, 1, 2, 3, 4] rfl h
      · replace h := h.2 c8
        refine r_aload_n (pc' := 89) C 0 rfl rfl dX9_sort_88 rfl ?_
        refine r_getr (pc' := 92) (k := k) (r := k + 3) C fl_X9_18 (by omega) hkc (by decide) fr_9_2 hkr2 dX9_sort_89 rfl ?_
        refine r_iload (pc' := 94) C 5 rfl dX9_sort_92 rfl ?_
        have o9 := h.1
        replace h := h.2
        refine r_iald (pc' := 95) (k := k + 3) C (by omega) hkd (by have := hkk3; omega) dX9_sort_94 rfl (fun f10 => ?_)
        replace h := h f10
        refine r_if_lt (pc' := 98) (tgt := 138) C f10 dX9_sort_95 (by decide) rfl (fun c11 => ?_) (fun c11 => ?_)
        · replace h := h.1 c11
          refine r_iinc (pc' := 141) (ls' := [(0, .ref (gl_b Y + k)), (1, .ref (gl_b Y + a1)), (2, .int (i32 x2)), (3, .int (i32 x3)), (5, .int (i32 (x5 + 1))), (6, .int (i32 r3))]) C 4 rfl (by decide) rfl dX9_sort_138 rfl ?_
          refine r_goto (tgt := 56) C dX9_sort_141 (by decide) ?_
          exact Wa.sub [0, 1, 2, 3, 4] rfl h
        · replace h := h.2 c11
          refine r_aload_n (pc' := 99) C 0 rfl rfl dX9_sort_98 rfl ?_
          refine r_getr (pc' := 102) (k := k) (r := k + 3) C fl_X9_18 (by omega) hkc (by decide) fr_9_2 hkr2 dX9_sort_99 rfl ?_
          refine r_iload (pc' := 104) C 5 rfl dX9_sort_102 rfl ?_
          refine r_iald (pc' := 105) (k := k + 3) C (by omega) hkd (by have := hkk3; omega) dX9_sort_104 rfl (fun f12 => ?_)
          refine r_aload_n (pc' := 106) C 0 rfl rfl dX9_sort_105 rfl ?_
          refine r_getr (pc' := 109) (k := k) (r := k + 2) C fl_X9_15 (by omega) hkc (by decide) fr_9_1 hkr1 dX9_sort_106 rfl ?_
          refine r_alen (pc' := 110) (k := k + 2) (v := 288) C (by omega) hkb (by decide) (by rw [hkk2]; rfl) dX9_sort_109 rfl ?_
          refine r_icmp_ge (pc' := 113) (tgt := 138) C f10 (by decide) dX9_sort_110 (by decide) rfl (fun c13 => ?_) (fun c13 => ?_)
          · replace h := h.1 c13
            refine r_iinc (pc' := 141) (ls' := [(0, .ref (gl_b Y + k)), (1, .ref (gl_b Y + a1)), (2, .int (i32 x2)), (3, .int (i32 x3)), (5, .int (i32 (x5 + 1))), (6, .int (i32 r3))]) C 4 rfl (by decide) rfl dX9_sort_138 rfl ?_
            refine r_goto (tgt := 56) C dX9_sort_141 (by decide) ?_
            exact Wa.sub [0, 1, 2, 3, 4] rfl h
          · replace h := h.2 c13
            refine r_aload_n (pc' := 114) C 0 rfl rfl dX9_sort_113 rfl ?_
            refine r_getr (pc' := 117) (k := k) (r := k + 2) C fl_X9_15 (by omega) hkc (by decide) fr_9_1 hkr1 dX9_sort_114 rfl ?_
            refine r_aload_n (pc' := 118) C 0 rfl rfl dX9_sort_117 rfl ?_
            refine r_getr (pc' := 121) (k := k) (r := k + 3) C fl_X9_18 (by omega) hkc (by decide) fr_9_2 hkr2 dX9_sort_118 rfl ?_
            refine r_iload (pc' := 123) C 5 rfl dX9_sort_121 rfl ?_
            refine r_iald (pc' := 124) (k := k + 3) C (by omega) hkd (by have := hkk3; omega) dX9_sort_123 rfl (fun f14 => ?_)
            refine r_iload (pc' := 126) C 4 rfl dX9_sort_124 rfl ?_
            have o15 := h.1
            replace h := h.2
            refine r_iast (pc' := 127) (k := k + 2) C (by omega) hkb (by have := hkk2; omega) hx5 dX9_sort_126 rfl ?_
            refine r_aload_n (pc' := 128) C 0 rfl rfl dX9_sort_127 rfl ?_
            refine r_getr (pc' := 131) (k := k) (r := k + 3) C fl_X9_18 (by omega) hkc (by decide) fr_9_2 hkr2 dX9_sort_128 rfl ?_
            refine r_iload (pc' := 133) C 5 rfl dX9_sort_131 rfl ?_
            refine r_dup2 (pc' := 134) C rfl rfl dX9_sort_133 rfl ?_
            refine r_iald (pc' := 135) (k := k + 3) C (by omega) hkd (by have := hkk3; omega) dX9_sort_134 rfl (fun f16 => ?_)
            have ef16 : (up2 av5 (k + 2) ((av5 (k + 3) r3.toNat).toNat) x5) (k + 3) r3.toNat = (av5 (k + 3) r3.toNat) := by simp [up2]
            rw [ef16] at f16 ⊢
            refine r_iconst (pc' := 136) C dX9_sort_135 rfl ?_
            refine r_iadd (pc' := 137) C dX9_sort_136 rfl ?_
            have o17 := h.1
            replace h := h.2
            refine r_iast (pc' := 138) (k := k + 3) C (by omega) hkd (by have := hkk3; omega) o17 dX9_sort_137 rfl ?_
            refine r_iinc (pc' := 141) (ls' := [(0, .ref (gl_b Y + k)), (1, .ref (gl_b Y + a1)), (2, .int (i32 x2)), (3, .int (i32 x3)), (5, .int (i32 (x5 + 1))), (6, .int (i32 r3))]) C 4 rfl (by decide) rfl dX9_sort_138 rfl ?_
            refine r_goto (tgt := 56) C dX9_sort_141 (by decide) ?_
            exact Wa.sub [0, 1, 2, 3, 4] rfl h
set_option maxHeartbeats 4000000 in
set_option maxRecDepth 100000 in
theorem w_X9_sort_6 {Y : Gl} {X : Cx} {e : Nat} {P : PN} {k : Nat} {a1 : Nat} {x2 : Int} {x3 : Int} {x4 : Int} {x5 : Int} {iv av : IVt} (C : CX Y X RX9 "sort" cX9_sort 7 none (e + 1) 0 0) (Kk : ReadCK k) (Ka1 : ArrK 100 a1) (hx4 : InR x4) (hx5 : InR x5) (h :
    ((16 ≤ x5) →
      L_X9_sort_56 Y X P k a1 x2 x3 0 iv av
    ) ∧
    ((¬ 16 ≤ x5) →
      ((16 ≤ x5) →
        L_X9_sort_56 Y X P k a1 x2 x3 0 iv av
      ) ∧
      ((¬ 16 ≤ x5) →
        (0 ≤ x5 ∧ x5 < 16) ∧
        ((InR (av (k + 1) x5.toNat)) →
          L_X9_sort_6 Y X P k a1 x2 x3 (x4 + (av (k + 1) x5.toNat)) (x5 + 1) iv (up2 av (k + 3) x5.toNat x4)
        )
      )
    )) : L_X9_sort_6 Y X P k a1 x2 x3 x4 x5 iv av := by
  obtain ⟨hkc, hka, hkb, hkd, hkl, hkr0, hkr1, hkr2, hkk1, hkk2, hkk3⟩ := Kk
  obtain ⟨ha1c, ha1l⟩ := Ka1
  unfold L_X9_sort_6
  refine r_iload (pc' := 8) C 5 rfl dX9_sort_6 rfl ?_
  refine r_aload_n (pc' := 9) C 0 rfl rfl dX9_sort_8 rfl ?_
  refine r_getr (pc' := 12) (k := k) (r := k + 3) C fl_X9_18 (by omega) hkc (by decide) fr_9_2 hkr2 dX9_sort_9 rfl ?_
  refine r_alen (pc' := 13) (k := k + 3) (v := 16) C (by omega) hkd (by decide) (by rw [hkk3]; rfl) dX9_sort_12 rfl ?_
  refine r_icmp_ge (pc' := 16) (tgt := 53) C hx5 (by decide) dX9_sort_13 (by decide) rfl (fun c1 => ?_) (fun c1 => ?_)
  · replace h := h.1 c1
    refine r_iconst (pc' := 54) C dX9_sort_53 rfl ?_
    refine r_istore (pc' := 56) (ls' := [(0, .ref (gl_b Y + k)), (1, .ref (gl_b Y + a1)), (2, .int (i32 x2)), (3, .int (i32 x3)), (4, .int (i32 x4)), (5, .int (i32 0))]) C (by decide) rfl dX9_sort_54 rfl ?_
    exact Wa.sub [0, 1, 2, 3, 5] rfl h
  · replace h := h.2 c1
    refine r_iload (pc' := 18) C 5 rfl dX9_sort_16 rfl ?_
    refine r_aload_n (pc' := 19) C 0 rfl rfl dX9_sort_18 rfl ?_
    refine r_getr (pc' := 22) (k := k) (r := k + 1) C fl_X9_9 (by omega) hkc (by decide) fr_9_0 hkr0 dX9_sort_19 rfl ?_
    refine r_alen (pc' := 23) (k := k + 1) (v := 16) C (by omega) hka (by decide) (by rw [hkk1]; rfl) dX9_sort_22 rfl ?_
    refine r_icmp_ge (pc' := 26) (tgt := 53) C hx5 (by decide) dX9_sort_23 (by decide) rfl (fun c2 => ?_) (fun c2 => ?_)
    · replace h := h.1 c2
      refine r_iconst (pc' := 54) C dX9_sort_53 rfl ?_
      refine r_istore (pc' := 56) (ls' := [(0, .ref (gl_b Y + k)), (1, .ref (gl_b Y + a1)), (2, .int (i32 x2)), (3, .int (i32 x3)), (4, .int (i32 x4)), (5, .int (i32 0))]) C (by decide) rfl dX9_sort_54 rfl ?_
      exact Wa.sub [0, 1, 2, 3, 5] rfl h
    · replace h := h.2 c2
      refine r_aload_n (pc' := 27) C 0 rfl rfl dX9_sort_26 rfl ?_
      refine r_getr (pc' := 30) (k := k) (r := k + 3) C fl_X9_18 (by omega) hkc (by decide) fr_9_2 hkr2 dX9_sort_27 rfl ?_
      refine r_iload (pc' := 32) C 5 rfl dX9_sort_30 rfl ?_
      refine r_iload (pc' := 34) C 4 rfl dX9_sort_32 rfl ?_
      have o3 := h.1
      replace h := h.2
      refine r_iast (pc' := 35) (k := k + 3) C (by omega) hkd (by have := hkk3; omega) hx4 dX9_sort_34 rfl ?_
      refine r_iload (pc' := 37) C 4 rfl dX9_sort_35 rfl ?_
      refine r_aload_n (pc' := 38) C 0 rfl rfl dX9_sort_37 rfl ?_
      refine r_getr (pc' := 41) (k := k) (r := k + 1) C fl_X9_9 (by omega) hkc (by decide) fr_9_0 hkr0 dX9_sort_38 rfl ?_
      refine r_iload (pc' := 43) C 5 rfl dX9_sort_41 rfl ?_
      refine r_iald (pc' := 44) (k := k + 1) C (by omega) hka (by have := hkk1; omega) dX9_sort_43 rfl (fun f4 => ?_)
      have ef4 : (up2 av (k + 3) x5.toNat x4) (k + 1) x5.toNat = (av (k + 1) x5.toNat) := by simp [up2]
      rw [ef4] at f4 ⊢
      replace h := h f4
      refine r_iadd (pc' := 45) C dX9_sort_44 rfl ?_
      refine r_istore (pc' := 47) (ls' := [(0, .ref (gl_b Y + k)), (1, .ref (gl_b Y + a1)), (2, .int (i32 x2)), (3, .int (i32 x3)), (4, .int (i32 (x4 + (av (k + 1) x5.toNat)))), (5, .int (i32 x5))]) C (by decide) rfl dX9_sort_45 rfl ?_
      refine r_iinc (pc' := 50) (ls' := [(0, .ref (gl_b Y + k)), (1, .ref (gl_b Y + a1)), (2, .int (i32 x2)), (3, .int (i32 x3)), (4, .int (i32 (x4 + (av (k + 1) x5.toNat)))), (5, .int (i32 (x5 + 1)))]) C 5 rfl (by decide) rfl dX9_sort_47 rfl ?_
      refine r_goto (tgt := 6) C dX9_sort_50 (by decide) ?_
      exact Wa.sub [0, 1, 2, 3, 4, 5] rfl h
set_option maxHeartbeats 4000000 in
set_option maxRecDepth 100000 in
theorem o_X9_sort {Y : Gl} {e : Nat} {P : PN} {k : Nat} {a1 : Nat} {x2 : Int} {x3 : Int} {iv av : IVt} (Kk : ReadCK k) (Ka1 : ArrK 100 a1) (h : ∀ X : Cx, CX Y X RX9 "sort" cX9_sort 7 none (e + 1) 0 0 →
    L_X9_sort_6 Y X P k a1 x2 x3 0 1 iv av) : OkN Y (e + 1) mX9_sort [.ref (gl_b Y + k), .ref (gl_b Y + a1), .int (i32 x2), .int (i32 x3)] RV iv av 116 P := by
  obtain ⟨hkc, hka, hkb, hkd, hkl, hkr0, hkr1, hkr2, hkk1, hkk2, hkk3⟩ := Kk
  obtain ⟨ha1c, ha1l⟩ := Ka1
  refine OkW.of rfl (by show _ ≤ 7; exact Nat.le_of_ble_eq_true rfl) fun X C0 hR => ?_
  have C : CX Y X RX9 "sort" cX9_sort 7 none (e + 1) 0 0 := C0
  replace h := h X C
  show Wa Y X 7 (g_MQ Y X 0 (g_N RV 116 P) 0 0) 0 0 0 [(0, .ref (gl_b Y + k)), (1, .ref (gl_b Y + a1)), (2, .int (i32 x2)), (3, .int (i32 x3))] [] RV iv av 116
  refine r_iconst (pc' := 1) C dX9_sort_0 rfl ?_
  refine r_istore (pc' := 3) (ls' := [(0, .ref (gl_b Y + k)), (1, .ref (gl_b Y + a1)), (2, .int (i32 x2)), (3, .int (i32 x3)), (4, .int (i32 0))]) C (by decide) rfl dX9_sort_1 rfl ?_
  refine r_iconst (pc' := 4) C dX9_sort_3 rfl ?_
  refine r_istore (pc' := 6) (ls' := [(0, .ref (gl_b Y + k)), (1, .ref (gl_b Y + a1)), (2, .int (i32 x2)), (3, .int (i32 x3)), (4, .int (i32 0)), (5, .int (i32 1))]) C (by decide) rfl dX9_sort_4 rfl ?_
  exact Wa.sub [0, 1, 2, 3, 4, 5] rfl h
def L_X9_symbol_10 (Y : Gl) (X : Cx) (P : PN) (k : Nat) (x2 : Int) (x3 : Int) (x4 : Int) (x5 : Int) (iv av : IVt) : Prop := Wa Y X 7 (g_MQ Y X 1 (g_N RV 116 P) 0 0) 0 0 10 [(0, .ref (gl_b Y + k)), (1, .ref (gl_b Y + 72)), (2, .int (i32 x2)), (3, .int (i32 x3)), (4, .int (i32 x4)), (5, .int (i32 x5))] [] RV iv av 116
set_option maxHeartbeats 4000000 in
set_option maxRecDepth 100000 in
theorem w_X9_symbol_10 {Y : Gl} {X : Cx} {e : Nat} {P : PN} {k : Nat} {x2 : Int} {x3 : Int} {x4 : Int} {x5 : Int} {iv av : IVt} (C : CX Y X RX9 "symbol" cX9_symbol 7 (some .int) (e + 2) 0 0) (Kk : ReadCK k) (hx5 : InR x5) (h :
    ((16 ≤ x5) →
      P (-1) iv av
    ) ∧
    ((¬ 16 ≤ x5) →
      OkN Y (e + 1) mX1_bit [.ref (gl_b Y + 72)] RV iv av 116 (fun r2 iv3 av4 =>
        (InR r2) →
        (0 ≤ x5 ∧ x5 < 16) ∧
        ((InR (av4 (k + 1) x5.toNat)) →
          (InR ((g_or x2 r2) - x3)) ∧
          (((av4 (k + 1) x5.toNat) ≤ ((g_or x2 r2) - x3)) →
            L_X9_symbol_10 Y X P k ((g_or x2 r2) * 2) ((x3 + (av4 (k + 1) x5.toNat)) * 2) (x4 + (av4 (k + 1) x5.toNat)) (x5 + 1) iv3 av4
          ) ∧
          ((¬ (av4 (k + 1) x5.toNat) ≤ ((g_or x2 r2) - x3)) →
            (InR (x4 + ((g_or x2 r2) - x3))) ∧
            (((x4 + ((g_or x2 r2) - x3)) < 0) →
              P (-1) iv3 av4
            ) ∧
            ((¬ (x4 + ((g_or x2 r2) - x3)) < 0) →
              ((288 ≤ (x4 + ((g_or x2 r2) - x3))) →
                P (-1) iv3 av4
              ) ∧
              ((¬ 288 ≤ (x4 + ((g_or x2 r2) - x3))) →
                (0 ≤ (x4 + ((g_or x2 r2) - x3)) ∧ (x4 + ((g_or x2 r2) - x3)) < 288) ∧
                ((InR (av4 (k + 2) (x4 + ((g_or x2 r2) - x3)).toNat)) →
                  P (av4 (k + 2) (x4 + ((g_or x2 r2) - x3)).toNat) iv3 av4
                )
              )
            )
          )
        )
      )
    )) : L_X9_symbol_10 Y X P k x2 x3 x4 x5 iv av := by
  obtain ⟨hkc, hka, hkb, hkd, hkl, hkr0, hkr1, hkr2, hkk1, hkk2, hkk3⟩ := Kk
  unfold L_X9_symbol_10
  refine r_iload (pc' := 12) C 5 rfl dX9_symbol_10 rfl ?_
  refine r_aload_n (pc' := 13) C 0 rfl rfl dX9_symbol_12 rfl ?_
  refine r_getr (pc' := 16) (k := k) (r := k + 1) C fl_X9_9 (by omega) hkc (by decide) fr_9_0 hkr0 dX9_symbol_13 rfl ?_
  refine r_alen (pc' := 17) (k := k + 1) (v := 16) C (by omega) hka (by decide) (by rw [hkk1]; rfl) dX9_symbol_16 rfl ?_
  refine r_icmp_ge (pc' := 20) (tgt := 114) C hx5 (by decide) dX9_symbol_17 (by decide) rfl (fun c1 => ?_) (fun c1 => ?_)
  · replace h := h.1 c1
    refine r_iconst (pc' := 115) C dX9_symbol_114 rfl ?_
    exact r_iret C (by decide) ⟨rfl, rfl, h⟩ dX9_symbol_115
  · replace h := h.2 c1
    refine r_iload_n (pc' := 21) C 2 rfl rfl dX9_symbol_20 rfl ?_
    refine r_aload_n (pc' := 22) C 1 rfl rfl dX9_symbol_21 rfl ?_
    refine c_Vi (pc' := 25) (mt := mX1_bit) (as := []) (st := [.int (i32 x2)]) (k := 72) C h rfl cl_X1_bit ml_X9_29 im_X1_bit sl_X1_bit (by omega) (Nat.le_refl _) (Nat.le_refl _) rfl (by decide) kc_72 (by decide) rfl rfl rfl (Nat.le_of_ble_eq_true rfl) dX9_symbol_22 rfl (fun r2 iv3 av4 f5 h => ?_)
    replace h := h f5
    refine r_ior (pc' := 26) C dX9_symbol_25 rfl ?_
    refine r_istore_n (pc' := 27) (ls' := [(0, .ref (gl_b Y + k)), (1, .ref (gl_b Y + 72)), (2, .int (i32 (g_or x2 r2))), (3, .int (i32 x3)), (4, .int (i32 x4)), (5, .int (i32 x5))]) C (by decide) rfl rfl dX9_symbol_26 rfl ?_
    refine r_iload_n (pc' := 28) C 2 rfl rfl dX9_symbol_27 rfl ?_
    refine r_iload_n (pc' := 29) C 3 rfl rfl dX9_symbol_28 rfl ?_
    refine r_isub (pc' := 30) C dX9_symbol_29 rfl ?_
    refine r_istore (pc' := 32) (ls' := [(0, .ref (gl_b Y + k)), (1, .ref (gl_b Y + 72)), (2, .int (i32 (g_or x2 r2))), (3, .int (i32 x3)), (4, .int (i32 x4)), (5, .int (i32 x5)), (6, .int (i32 ((g_or x2 r2) - x3)))]) C (by decide) rfl dX9_symbol_30 rfl ?_
    refine r_iload (pc' := 34) C 6 rfl dX9_symbol_32 rfl ?_
    refine r_aload_n (pc' := 35) C 0 rfl rfl dX9_symbol_34 rfl ?_
    refine r_getr (pc' := 38) (k := k) (r := k + 1) C fl_X9_9 (by omega) hkc (by decide) fr_9_0 hkr0 dX9_symbol_35 rfl ?_
    refine r_iload (pc' := 40) C 5 rfl dX9_symbol_38 rfl ?_
    have o6 := h.1
    replace h := h.2
    refine r_iald (pc' := 41) (k := k + 1) C (by omega) hka (by have := hkk1; omega) dX9_symbol_40 rfl (fun f7 => ?_)
    replace h := h f7
    have o8 := h.1
    replace h := h.2
    refine r_icmp_ge (pc' := 44) (tgt := 80) C o8 f7 dX9_symbol_41 (by decide) rfl (fun c9 => ?_) (fun c9 => ?_)
    · replace h := h.1 c9
      refine r_iload (pc' := 82) C 4 rfl dX9_symbol_80 rfl ?_
      refine r_aload_n (pc' := 83) C 0 rfl rfl dX9_symbol_82 rfl ?_
      refine r_getr (pc' := 86) (k := k) (r := k + 1) C fl_X9_9 (by omega) hkc (by decide) fr_9_0 hkr0 dX9_symbol_83 rfl ?_
      refine r_iload (pc' := 88) C 5 rfl dX9_symbol_86 rfl ?_
      refine r_iald (pc' := 89) (k := k + 1) C (by omega) hka (by have := hkk1; omega) dX9_symbol_88 rfl (fun f10 => ?_)
      refine r_iadd (pc' := 90) C dX9_symbol_89 rfl ?_
      refine r_istore (pc' := 92) (ls' := [(0, .ref (gl_b Y + k)), (1, .ref (gl_b Y + 72)), (2, .int (i32 (g_or x2 r2))), (3, .int (i32 x3)), (4, .int (i32 (x4 + (av4 (k + 1) x5.toNat)))), (5, .int (i32 x5)), (6, .int (i32 ((g_or x2 r2) - x3)))]) C (by decide) rfl dX9_symbol_90 rfl ?_
      refine r_iload_n (pc' := 93) C 3 rfl rfl dX9_symbol_92 rfl ?_
      refine r_aload_n (pc' := 94) C 0 rfl rfl dX9_symbol_93 rfl ?_
      refine r_getr (pc' := 97) (k := k) (r := k + 1) C fl_X9_9 (by omega) hkc (by decide) fr_9_0 hkr0 dX9_symbol_94 rfl ?_
      refine r_iload (pc' := 99) C 5 rfl dX9_symbol_97 rfl ?_
      refine r_iald (pc' := 100) (k := k + 1) C (by omega) hka (by have := hkk1; omega) dX9_symbol_99 rfl (fun f11 => ?_)
      refine r_iadd (pc' := 101) C dX9_symbol_100 rfl ?_
      refine r_iconst (pc' := 102) C dX9_symbol_101 rfl ?_
      refine r_ishlC (pc' := 103) (m := 2) C (by decide) (by decide) dX9_symbol_102 rfl ?_
      refine r_istore_n (pc' := 104) (ls' := [(0, .ref (gl_b Y + k)), (1, .ref (gl_b Y + 72)), (2, .int (i32 (g_or x2 r2))), (3, .int (i32 ((x3 + (av4 (k + 1) x5.toNat)) * 2))), (4, .int (i32 (x4 + (av4 (k + 1) x5.toNat)))), (5, .int (i32 x5)), (6, .int (i32 ((g_or x2 r2) - x3)))]) C (by decide) rfl rfl dX9_symbol_103 rfl ?_
      refine r_iload_n (pc' := 105) C 2 rfl rfl dX9_symbol_104 rfl ?_
      refine r_iconst (pc' := 106) C dX9_symbol_105 rfl ?_
      refine r_ishlC (pc' := 107) (m := 2) C (by decide) (by decide) dX9_symbol_106 rfl ?_
      refine r_istore_n (pc' := 108) (ls' := [(0, .ref (gl_b Y + k)), (1, .ref (gl_b Y + 72)), (2, .int (i32 ((g_or x2 r2) * 2))), (3, .int (i32 ((x3 + (av4 (k + 1) x5.toNat)) * 2))), (4, .int (i32 (x4 + (av4 (k + 1) x5.toNat)))), (5, .int (i32 x5)), (6, .int (i32 ((g_or x2 r2) - x3)))]) C (by decide) rfl rfl dX9_symbol_107 rfl ?_
      refine r_iinc (pc' := 111) (ls' := [(0, .ref (gl_b Y + k)), (1, .ref (gl_b Y + 72)), (2, .int (i32 ((g_or x2 r2) * 2))), (3, .int (i32 ((x3 + (av4 (k + 1) x5.toNat)) * 2))), (4, .int (i32 (x4 + (av4 (k + 1) x5.toNat)))), (5, .int (i32 (x5 + 1))), (6, .int (i32 ((g_or x2 r2) - x3)))]) C 5 rfl (by decide) rfl dX9_symbol_108 rfl ?_
      refine r_goto (tgt := 10) C dX9_symbol_111 (by decide) ?_
      exact Wa.sub [0, 1, 2, 3, 4, 5] rfl h
    · replace h := h.2 c9
      refine r_iload (pc' := 46) C 4 rfl dX9_symbol_44 rfl ?_
      refine r_iload (pc' := 48) C 6 rfl dX9_symbol_46 rfl ?_
      refine r_iadd (pc' := 49) C dX9_symbol_48 rfl ?_
      have o12 := h.1
      replace h := h.2
      refine r_if_lt (pc' := 52) (tgt := 78) C o12 dX9_symbol_49 (by decide) rfl (fun c13 => ?_) (fun c13 => ?_)
      · replace h := h.1 c13
        refine r_iconst (pc' := 79) C dX9_symbol_78 rfl ?_
        exact r_iret C (by decide) ⟨rfl, rfl, h⟩ dX9_symbol_79
      · replace h := h.2 c13
        refine r_iload (pc' := 54) C 4 rfl dX9_symbol_52 rfl ?_
        refine r_iload (pc' := 56) C 6 rfl dX9_symbol_54 rfl ?_
        refine r_iadd (pc' := 57) C dX9_symbol_56 rfl ?_
        refine r_aload_n (pc' := 58) C 0 rfl rfl dX9_symbol_57 rfl ?_
        refine r_getr (pc' := 61) (k := k) (r := k + 2) C fl_X9_15 (by omega) hkc (by decide) fr_9_1 hkr1 dX9_symbol_58 rfl ?_
        refine r_alen (pc' := 62) (k := k + 2) (v := 288) C (by omega) hkb (by decide) (by rw [hkk2]; rfl) dX9_symbol_61 rfl ?_
        refine r_icmp_ge (pc' := 65) (tgt := 78) C o12 (by decide) dX9_symbol_62 (by decide) rfl (fun c14 => ?_) (fun c14 => ?_)
        · replace h := h.1 c14
          refine r_iconst (pc' := 79) C dX9_symbol_78 rfl ?_
          exact r_iret C (by decide) ⟨rfl, rfl, h⟩ dX9_symbol_79
        · replace h := h.2 c14
          refine r_aload_n (pc' := 66) C 0 rfl rfl dX9_symbol_65 rfl ?_
          refine r_getr (pc' := 69) (k := k) (r := k + 2) C fl_X9_15 (by omega) hkc (by decide) fr_9_1 hkr1 dX9_symbol_66 rfl ?_
          refine r_iload (pc' := 71) C 4 rfl dX9_symbol_69 rfl ?_
          refine r_iload (pc' := 73) C 6 rfl dX9_symbol_71 rfl ?_
          refine r_iadd (pc' := 74) C dX9_symbol_73 rfl ?_
          have o15 := h.1
          replace h := h.2
          refine r_iald (pc' := 75) (k := k + 2) C (by omega) hkb (by have := hkk2; omega) dX9_symbol_74 rfl (fun f16 => ?_)
          replace h := h f16
          refine r_goto (tgt := 79) C dX9_symbol_75 (by decide) ?_
          exact r_iret C f16 ⟨rfl, rfl, h⟩ dX9_symbol_79
set_option maxHeartbeats 4000000 in
set_option maxRecDepth 100000 in
theorem o_X9_symbol {Y : Gl} {e : Nat} {P : PN} {k : Nat} {iv av : IVt} (Kk : ReadCK k) (h : ∀ X : Cx, CX Y X RX9 "symbol" cX9_symbol 7 (some .int) (e + 2) 0 0 →
    L_X9_symbol_10 Y X P k 0 0 0 1 iv av) : OkN Y (e + 2) mX9_symbol [.ref (gl_b Y + k), .ref (gl_b Y + 72)] RV iv av 116 P := by
  obtain ⟨hkc, hka, hkb, hkd, hkl, hkr0, hkr1, hkr2, hkk1, hkk2, hkk3⟩ := Kk
  refine OkW.of rfl (by show _ ≤ 7; exact Nat.le_of_ble_eq_true rfl) fun X C0 hR => ?_
  have C : CX Y X RX9 "symbol" cX9_symbol 7 (some .int) (e + 2) 0 0 := C0
  replace h := h X C
  show Wa Y X 7 (g_MQ Y X 1 (g_N RV 116 P) 0 0) 0 0 0 [(0, .ref (gl_b Y + k)), (1, .ref (gl_b Y + 72))] [] RV iv av 116
  refine r_iconst (pc' := 1) C dX9_symbol_0 rfl ?_
  refine r_istore_n (pc' := 2) (ls' := [(0, .ref (gl_b Y + k)), (1, .ref (gl_b Y + 72)), (2, .int (i32 0))]) C (by decide) rfl rfl dX9_symbol_1 rfl ?_
  refine r_iconst (pc' := 3) C dX9_symbol_2 rfl ?_
  refine r_istore_n (pc' := 4) (ls' := [(0, .ref (gl_b Y + k)), (1, .ref (gl_b Y + 72)), (2, .int (i32 0)), (3, .int (i32 0))]) C (by decide) rfl rfl dX9_symbol_3 rfl ?_
  refine r_iconst (pc' := 5) C dX9_symbol_4 rfl ?_
  refine r_istore (pc' := 7) (ls' := [(0, .ref (gl_b Y + k)), (1, .ref (gl_b Y + 72)), (2, .int (i32 0)), (3, .int (i32 0)), (4, .int (i32 0))]) C (by decide) rfl dX9_symbol_5 rfl ?_
  refine r_iconst (pc' := 8) C dX9_symbol_7 rfl ?_
  refine r_istore (pc' := 10) (ls' := [(0, .ref (gl_b Y + k)), (1, .ref (gl_b Y + 72)), (2, .int (i32 0)), (3, .int (i32 0)), (4, .int (i32 0)), (5, .int (i32 1))]) C (by decide) rfl dX9_symbol_8 rfl ?_
  exact Wa.sub [0, 1, 2, 3, 4, 5] rfl h
def L_X10_unpack_34 (Y : Gl) (X : Cx) (P : PN) (x4 : Int) (iv av : IVt) : Prop := Wa Y X 8 (g_MQ Y X 1 (g_N RV 116 P) 0 0) 0 0 34 [(0, .ref (gl_b Y + 58)), (4, .int (i32 x4))] [] RV iv av 116
def L_X10_unpack_59 (Y : Gl) (X : Cx) (P : PN) (x4 : Int) (x5 : Int) (iv av : IVt) : Prop := Wa Y X 8 (g_MQ Y X 1 (g_N RV 116 P) 0 0) 0 0 59 [(0, .ref (gl_b Y + 58)), (4, .int (i32 x4)), (5, .int (i32 x5))] [] RV iv av 116
def L_X10_unpack_110 (Y : Gl) (X : Cx) (P : PN) (x4 : Int) (x5 : Int) (iv av : IVt) : Prop := Wa Y X 8 (g_MQ Y X 1 (g_N RV 116 P) 0 0) 0 0 110 [(0, .ref (gl_b Y + 58)), (4, .int (i32 x4)), (5, .int (i32 x5))] [] RV iv av 116
def L_X10_unpack_113 (Y : Gl) (X : Cx) (P : PN) (x4 : Int) (x5 : Int) (x7 : Int) (iv av : IVt) : Prop := Wa Y X 8 (g_MQ Y X 1 (g_N RV 116 P) 0 0) 0 0 113 [(0, .ref (gl_b Y + 58)), (4, .int (i32 x4)), (5, .int (i32 x5)), (7, .int (i32 x7))] [] RV iv av 116
def L_X10_unpack_154 (Y : Gl) (X : Cx) (P : PN) (x4 : Int) (x5 : Int) (iv av : IVt) : Prop := Wa Y X 8 (g_MQ Y X 1 (g_N RV 116 P) 0 0) 0 0 154 [(0, .ref (gl_b Y + 58)), (4, .int (i32 x4)), (5, .int (i32 x5))] [] RV iv av 116
def L_X10_unpack_157 (Y : Gl) (X : Cx) (P : PN) (x4 : Int) (x5 : Int) (x7 : Int) (iv av : IVt) : Prop := Wa Y X 8 (g_MQ Y X 1 (g_N RV 116 P) 0 0) 0 0 157 [(0, .ref (gl_b Y + 58)), (4, .int (i32 x4)), (5, .int (i32 x5)), (7, .int (i32 x7))] [] RV iv av 116
def L_X10_unpack_172 (Y : Gl) (X : Cx) (P : PN) (iv av : IVt) : Prop := Wa Y X 8 (g_MQ Y X 1 (g_N RV 116 P) 0 0) 0 0 172 [] [] RV iv av 116
set_option maxHeartbeats 4000000 in
set_option maxRecDepth 100000 in
theorem w_X10_unpack_172 {Y : Gl} {X : Cx} {e : Nat} {P : PN} {iv av : IVt} (C : CX Y X RX10 "unpack" cX10_unpack 8 (some .boolean) (e + 4) 0 0) (h :
    P 0 iv av) : L_X10_unpack_172 Y X P iv av := by
  unfold L_X10_unpack_172
  refine r_iconst (pc' := 173) C dX10_unpack_172 rfl ?_
  exact r_zret C (by decide) ⟨rfl, rfl, h⟩ dX10_unpack_173
set_option maxHeartbeats 4000000 in
set_option maxRecDepth 100000 in
theorem w_X10_unpack_157 {Y : Gl} {X : Cx} {e : Nat} {P : PN} {x4 : Int} {x5 : Int} {x7 : Int} {iv av : IVt} (C : CX Y X RX10 "unpack" cX10_unpack 8 (some .boolean) (e + 4) 0 0) (hx5 : InR x5) (hx7 : InR x7) (h :
    ((x7 = 0) →
      L_X10_unpack_172 Y X P iv av
    ) ∧
    ((¬ x7 = 0) →
      OkN Y (e + 3) mX1_isMissing [.ref (gl_b Y + 72)] RV iv av 116 (fun r2 iv3 av4 =>
        (InR r2) →
        ((r2 = 0) →
          ((x5 = 0) →
            L_X10_unpack_34 Y X P (x4 + 1) iv3 av4
          ) ∧
          ((¬ x5 = 0) →
            OkN Y (e + 3) mX10_readCheck [.ref (gl_b Y + 58)] RV iv3 av4 116 (fun r8 iv9 av10 =>
              (InR r8) →
              (0 ≤ r8 ∧ r8 ≤ 1) ∧
              P r8 iv9 av10
            )
          )
        ) ∧
        ((¬ r2 = 0) →
          L_X10_unpack_172 Y X P iv3 av4
        )
      )
    )) : L_X10_unpack_157 Y X P x4 x5 x7 iv av := by
  unfold L_X10_unpack_157
  refine r_iload (pc' := 159) C 3 rfl dX10_unpack_157 rfl ?_
  refine r_if_eq (pc' := 162) (tgt := 172) C hx7 dX10_unpack_159 (by decide) rfl (fun c1 => ?_) (fun c1 => ?_)
  · replace h := h.1 c1
    exact Wa.sub [] rfl h
  · replace h := h.2 c1
    refine r_aload_n (pc' := 163) C 0 rfl rfl dX10_unpack_162 rfl ?_
    refine r_getr (pc' := 166) (k := 58) (r := 72) C fl_X10_33 (by decide) kc_58 (by decide) fr_10_0 RV_58_0 dX10_unpack_163 rfl ?_
    refine c_Vi (pc' := 169) (mt := mX1_isMissing) (as := []) (st := []) (k := 72) C h rfl cl_X1_isMissing ml_X10_86 im_X1_isMissing sl_X1_isMissing (by omega) (Nat.le_refl _) (Nat.le_refl _) rfl (by decide) kc_72 (by decide) rfl rfl rfl (Nat.le_of_ble_eq_true rfl) dX10_unpack_166 rfl (fun r2 iv3 av4 f5 h => ?_)
    replace h := h f5
    refine r_if_eq (pc' := 172) (tgt := 174) C f5 dX10_unpack_169 (by decide) rfl (fun c6 => ?_) (fun c6 => ?_)
    · replace h := h.1 c6
      refine r_iload (pc' := 176) C 2 rfl dX10_unpack_174 rfl ?_
      refine r_if_eq (pc' := 179) (tgt := 184) C hx5 dX10_unpack_176 (by decide) rfl (fun c7 => ?_) (fun c7 => ?_)
      · replace h := h.1 c7
        refine r_iinc (pc' := 187) (ls' := [(0, .ref (gl_b Y + 58)), (4, .int (i32 (x4 + 1))), (5, .int (i32 x5)), (7, .int (i32 x7))]) C 1 rfl (by decide) rfl dX10_unpack_184 rfl ?_
        refine r_goto (tgt := 34) C dX10_unpack_187 (by decide) ?_
        exact Wa.sub [0, 1] rfl h
      · replace h := h.2 c7
        refine r_aload_n (pc' := 180) C 0 rfl rfl dX10_unpack_179 rfl ?_
        refine c_Vi (pc' := 183) (mt := mX10_readCheck) (as := []) (st := []) (k := 58) C h rfl cl_X10_readCheck ml_X10_89 im_X10_readCheck sl_X10_readCheck (by omega) (Nat.le_refl _) (Nat.le_refl _) rfl (by decide) kc_58 (by decide) rfl rfl rfl (Nat.le_of_ble_eq_true rfl) dX10_unpack_180 rfl (fun r8 iv9 av10 f11 h => ?_)
        replace h := h f11
        have o12 := h.1
        replace h := h.2
        exact r_zret C o12 ⟨rfl, rfl, h⟩ dX10_unpack_183
    · replace h := h.2 c6
      exact Wa.sub [] rfl h
set_option maxHeartbeats 4000000 in
set_option maxRecDepth 100000 in
theorem w_X10_unpack_154 {Y : Gl} {X : Cx} {e : Nat} {P : PN} {x4 : Int} {x5 : Int} {iv av : IVt} (C : CX Y X RX10 "unpack" cX10_unpack 8 (some .boolean) (e + 4) 0 0) (h :
    L_X10_unpack_157 Y X P x4 x5 0 iv av) : L_X10_unpack_154 Y X P x4 x5 iv av := by
  unfold L_X10_unpack_154
  refine r_iconst (pc' := 155) C dX10_unpack_154 rfl ?_
  refine r_istore (pc' := 157) (ls' := [(0, .ref (gl_b Y + 58)), (4, .int (i32 x4)), (5, .int (i32 x5)), (7, .int (i32 0))]) C (by decide) rfl dX10_unpack_155 rfl ?_
  exact Wa.sub [0, 1, 2, 3] rfl h
set_option maxHeartbeats 4000000 in
set_option maxRecDepth 100000 in
theorem w_X10_unpack_113 {Y : Gl} {X : Cx} {e : Nat} {P : PN} {x4 : Int} {x5 : Int} {x7 : Int} {iv av : IVt} (C : CX Y X RX10 "unpack" cX10_unpack 8 (some .boolean) (e + 4) 0 0) (h :
    L_X10_unpack_157 Y X P x4 x5 x7 iv av) : L_X10_unpack_113 Y X P x4 x5 x7 iv av := by
  unfold L_X10_unpack_113
  refine r_goto (tgt := 157) C dX10_unpack_113 (by decide) ?_
  exact Wa.sub [0, 1, 2, 3] rfl h
set_option maxHeartbeats 4000000 in
set_option maxRecDepth 100000 in
theorem w_X10_unpack_110 {Y : Gl} {X : Cx} {e : Nat} {P : PN} {x4 : Int} {x5 : Int} {iv av : IVt} (C : CX Y X RX10 "unpack" cX10_unpack 8 (some .boolean) (e + 4) 0 0) (h :
    L_X10_unpack_113 Y X P x4 x5 0 iv av) : L_X10_unpack_110 Y X P x4 x5 iv av := by
  unfold L_X10_unpack_110
  refine r_iconst (pc' := 111) C dX10_unpack_110 rfl ?_
  refine r_istore (pc' := 113) (ls' := [(0, .ref (gl_b Y + 58)), (4, .int (i32 x4)), (5, .int (i32 x5)), (7, .int (i32 0))]) C (by decide) rfl dX10_unpack_111 rfl ?_
  exact Wa.sub [0, 1, 2, 3] rfl h
set_option maxHeartbeats 4000000 in
set_option maxRecDepth 100000 in
theorem w_X10_unpack_59 {Y : Gl} {X : Cx} {e : Nat} {P : PN} {x4 : Int} {x5 : Int} {iv av : IVt} (C : CX Y X RX10 "unpack" cX10_unpack 8 (some .boolean) (e + 4) 0 0) (h :
    OkN Y (e + 3) mX1_bits [.ref (gl_b Y + 72), .int (i32 2)] RV iv av 116 (fun r1 iv2 av3 =>
      (InR r1) →
      ((¬ r1 = 0) →
        ((¬ r1 = 1) →
          ((¬ r1 = 2) →
            L_X10_unpack_157 Y X P x4 x5 0 iv2 av3
          ) ∧
          ((r1 = 2) →
            OkN Y (e + 3) mX10_readSizes [.ref (gl_b Y + 58)] RV iv2 av3 116 (fun r8 iv9 av10 =>
              (InR r8) →
              ((r8 = 0) →
                L_X10_unpack_154 Y X P x4 x5 iv9 av10
              ) ∧
              ((¬ r8 = 0) →
                OkN Y (e + 3) mX10_readLengths [.ref (gl_b Y + 58)] RV iv9 av10 116 (fun r13 iv14 av15 =>
                  (InR r13) →
                  ((r13 = 0) →
                    L_X10_unpack_154 Y X P x4 x5 iv14 av15
                  ) ∧
                  ((¬ r13 = 0) →
                    OkN Y (e + 3) mX10_makeCodes [.ref (gl_b Y + 58)] RV iv14 av15 116 (fun r18 iv19 av20 =>
                      (InR r18) →
                      ((r18 = 0) →
                        L_X10_unpack_154 Y X P x4 x5 iv19 av20
                      ) ∧
                      ((¬ r18 = 0) →
                        OkN Y (e + 3) mX10_readSymbols [.ref (gl_b Y + 58)] RV iv19 av20 116 (fun r23 iv24 av25 =>
                          (InR r23) →
                          ((r23 = 0) →
                            L_X10_unpack_154 Y X P x4 x5 iv24 av25
                          ) ∧
                          ((¬ r23 = 0) →
                            L_X10_unpack_157 Y X P x4 x5 1 iv24 av25
                          )
                        )
                      )
                    )
                  )
                )
              )
            )
          )
        ) ∧
        ((r1 = 1) →
          OkN Y (e + 3) mX10_makeFixed [.ref (gl_b Y + 58)] RV iv2 av3 116 (fun r28 iv29 av30 =>
            (InR r28) →
            ((r28 = 0) →
              L_X10_unpack_110 Y X P x4 x5 iv29 av30
            ) ∧
            ((¬ r28 = 0) →
              OkN Y (e + 3) mX10_readSymbols [.ref (gl_b Y + 58)] RV iv29 av30 116 (fun r33 iv34 av35 =>
                (InR r33) →
                ((r33 = 0) →
                  L_X10_unpack_110 Y X P x4 x5 iv34 av35
                ) ∧
                ((¬ r33 = 0) →
                  L_X10_unpack_113 Y X P x4 x5 1 iv34 av35
                )
              )
            )
          )
        )
      ) ∧
      ((r1 = 0) →
        OkN Y (e + 3) mX10_readStored [.ref (gl_b Y + 58)] RV iv2 av3 116 (fun r38 iv39 av40 =>
          (InR r38) →
          L_X10_unpack_157 Y X P x4 x5 r38 iv39 av40
        )
      )
    )) : L_X10_unpack_59 Y X P x4 x5 iv av := by
  unfold L_X10_unpack_59
  refine r_aload_n (pc' := 60) C 0 rfl rfl dX10_unpack_59 rfl ?_
  refine r_getr (pc' := 63) (k := 58) (r := 72) C fl_X10_33 (by decide) kc_58 (by decide) fr_10_0 RV_58_0 dX10_unpack_60 rfl ?_
  refine r_iconst (pc' := 64) C dX10_unpack_63 rfl ?_
  refine c_Vi (pc' := 67) (mt := mX1_bits) (as := [.int (i32 2)]) (st := []) (k := 72) C h rfl cl_X1_bits ml_X10_64 im_X1_bits sl_X1_bits (by omega) (Nat.le_refl _) (Nat.le_refl _) rfl (by decide) kc_72 (by decide) rfl rfl rfl (Nat.le_of_ble_eq_true rfl) dX10_unpack_64 rfl (fun r1 iv2 av3 f4 h => ?_)
  replace h := h f4
  refine r_istore (pc' := 69) (ls' := [(0, .ref (gl_b Y + 58)), (4, .int (i32 x4)), (5, .int (i32 x5)), (6, .int (i32 r1))]) C (by decide) rfl dX10_unpack_67 rfl ?_
  refine r_iconst (pc' := 70) C dX10_unpack_69 rfl ?_
  refine r_istore (pc' := 72) (ls' := [(0, .ref (gl_b Y + 58)), (4, .int (i32 x4)), (5, .int (i32 x5)), (6, .int (i32 r1)), (7, .int (i32 0))]) C (by decide) rfl dX10_unpack_70 rfl ?_
  refine r_iload (pc' := 74) C 3 rfl dX10_unpack_72 rfl ?_
  refine r_if_ne (pc' := 77) (tgt := 86) C f4 dX10_unpack_74 (by decide) rfl (fun c5 => ?_) (fun c5 => ?_)
  · replace h := h.1 c5
    refine r_iload (pc' := 88) C 3 rfl dX10_unpack_86 rfl ?_
    refine r_iconst (pc' := 89) C dX10_unpack_88 rfl ?_
    refine r_icmp_ne (pc' := 92) (tgt := 116) C f4 (by decide) dX10_unpack_89 (by decide) rfl (fun c6 => ?_) (fun c6 => ?_)
    · replace h := h.1 c6
      refine r_iload (pc' := 118) C 3 rfl dX10_unpack_116 rfl ?_
      refine r_iconst (pc' := 119) C dX10_unpack_118 rfl ?_
      refine r_icmp_ne (pc' := 122) (tgt := 157) C f4 (by decide) dX10_unpack_119 (by decide) rfl (fun c7 => ?_) (fun c7 => ?_)
      · replace h := h.1 c7
        exact Wa.sub [0, 1, 2, 4] rfl h
      · replace h := h.2 c7
        refine r_aload_n (pc' := 123) C 0 rfl rfl dX10_unpack_122 rfl ?_
        refine c_Vi (pc' := 126) (mt := mX10_readSizes) (as := []) (st := []) (k := 58) C h rfl cl_X10_readSizes ml_X10_77 im_X10_readSizes sl_X10_readSizes (by omega) (Nat.le_refl _) (Nat.le_refl _) rfl (by decide) kc_58 (by decide) rfl rfl rfl (Nat.le_of_ble_eq_true rfl) dX10_unpack_123 rfl (fun r8 iv9 av10 f11 h => ?_)
        replace h := h f11
        refine r_if_eq (pc' := 129) (tgt := 154) C f11 dX10_unpack_126 (by decide) rfl (fun c12 => ?_) (fun c12 => ?_)
        · replace h := h.1 c12
          exact Wa.sub [0, 1, 2] rfl h
        · replace h := h.2 c12
          refine r_aload_n (pc' := 130) C 0 rfl rfl dX10_unpack_129 rfl ?_
          refine c_Vi (pc' := 133) (mt := mX10_readLengths) (as := []) (st := []) (k := 58) C h rfl cl_X10_readLengths ml_X10_80 im_X10_readLengths sl_X10_readLengths (by omega) (Nat.le_refl _) (Nat.le_refl _) rfl (by decide) kc_58 (by decide) rfl rfl rfl (Nat.le_of_ble_eq_true rfl) dX10_unpack_130 rfl (fun r13 iv14 av15 f16 h => ?_)
          replace h := h f16
          refine r_if_eq (pc' := 136) (tgt := 154) C f16 dX10_unpack_133 (by decide) rfl (fun c17 => ?_) (fun c17 => ?_)
          · replace h := h.1 c17
            exact Wa.sub [0, 1, 2] rfl h
          · replace h := h.2 c17
            refine r_aload_n (pc' := 137) C 0 rfl rfl dX10_unpack_136 rfl ?_
            refine c_Vi (pc' := 140) (mt := mX10_makeCodes) (as := []) (st := []) (k := 58) C h rfl cl_X10_makeCodes ml_X10_83 im_X10_makeCodes sl_X10_makeCodes (by omega) (Nat.le_refl _) (Nat.le_refl _) rfl (by decide) kc_58 (by decide) rfl rfl rfl (Nat.le_of_ble_eq_true rfl) dX10_unpack_137 rfl (fun r18 iv19 av20 f21 h => ?_)
            replace h := h f21
            refine r_if_eq (pc' := 143) (tgt := 154) C f21 dX10_unpack_140 (by decide) rfl (fun c22 => ?_) (fun c22 => ?_)
            · replace h := h.1 c22
              exact Wa.sub [0, 1, 2] rfl h
            · replace h := h.2 c22
              refine r_aload_n (pc' := 144) C 0 rfl rfl dX10_unpack_143 rfl ?_
              refine c_Vi (pc' := 147) (mt := mX10_readSymbols) (as := []) (st := []) (k := 58) C h rfl cl_X10_readSymbols ml_X10_74 im_X10_readSymbols sl_X10_readSymbols (by omega) (Nat.le_refl _) (Nat.le_refl _) rfl (by decide) kc_58 (by decide) rfl rfl rfl (Nat.le_of_ble_eq_true rfl) dX10_unpack_144 rfl (fun r23 iv24 av25 f26 h => ?_)
              replace h := h f26
              refine r_if_eq (pc' := 150) (tgt := 154) C f26 dX10_unpack_147 (by decide) rfl (fun c27 => ?_) (fun c27 => ?_)
              · replace h := h.1 c27
                exact Wa.sub [0, 1, 2] rfl h
              · replace h := h.2 c27
                refine r_iconst (pc' := 151) C dX10_unpack_150 rfl ?_
                refine r_goto (tgt := 155) C dX10_unpack_151 (by decide) ?_
                refine r_istore (pc' := 157) (ls' := [(0, .ref (gl_b Y + 58)), (4, .int (i32 x4)), (5, .int (i32 x5)), (6, .int (i32 r1)), (7, .int (i32 1))]) C (by decide) rfl dX10_unpack_155 rfl ?_
                exact Wa.sub [0, 1, 2, 4] rfl h
    · replace h := h.2 c6
      refine r_aload_n (pc' := 93) C 0 rfl rfl dX10_unpack_92 rfl ?_
      refine c_Vi (pc' := 96) (mt := mX10_makeFixed) (as := []) (st := []) (k := 58) C h rfl cl_X10_makeFixed ml_X10_71 im_X10_makeFixed sl_X10_makeFixed (by omega) (Nat.le_refl _) (Nat.le_refl _) rfl (by decide) kc_58 (by decide) rfl rfl rfl (Nat.le_of_ble_eq_true rfl) dX10_unpack_93 rfl (fun r28 iv29 av30 f31 h => ?_)
      replace h := h f31
      refine r_if_eq (pc' := 99) (tgt := 110) C f31 dX10_unpack_96 (by decide) rfl (fun c32 => ?_) (fun c32 => ?_)
      · replace h := h.1 c32
        exact Wa.sub [0, 1, 2] rfl h
      · replace h := h.2 c32
        refine r_aload_n (pc' := 100) C 0 rfl rfl dX10_unpack_99 rfl ?_
        refine c_Vi (pc' := 103) (mt := mX10_readSymbols) (as := []) (st := []) (k := 58) C h rfl cl_X10_readSymbols ml_X10_74 im_X10_readSymbols sl_X10_readSymbols (by omega) (Nat.le_refl _) (Nat.le_refl _) rfl (by decide) kc_58 (by decide) rfl rfl rfl (Nat.le_of_ble_eq_true rfl) dX10_unpack_100 rfl (fun r33 iv34 av35 f36 h => ?_)
        replace h := h f36
        refine r_if_eq (pc' := 106) (tgt := 110) C f36 dX10_unpack_103 (by decide) rfl (fun c37 => ?_) (fun c37 => ?_)
        · replace h := h.1 c37
          exact Wa.sub [0, 1, 2] rfl h
        · replace h := h.2 c37
          refine r_iconst (pc' := 107) C dX10_unpack_106 rfl ?_
          refine r_goto (tgt := 111) C dX10_unpack_107 (by decide) ?_
          refine r_istore (pc' := 113) (ls' := [(0, .ref (gl_b Y + 58)), (4, .int (i32 x4)), (5, .int (i32 x5)), (6, .int (i32 r1)), (7, .int (i32 1))]) C (by decide) rfl dX10_unpack_111 rfl ?_
          exact Wa.sub [0, 1, 2, 4] rfl h
  · replace h := h.2 c5
    refine r_aload_n (pc' := 78) C 0 rfl rfl dX10_unpack_77 rfl ?_
    refine c_Vi (pc' := 81) (mt := mX10_readStored) (as := []) (st := []) (k := 58) C h rfl cl_X10_readStored ml_X10_68 im_X10_readStored sl_X10_readStored (by omega) (Nat.le_refl _) (Nat.le_refl _) rfl (by decide) kc_58 (by decide) rfl rfl rfl (Nat.le_of_ble_eq_true rfl) dX10_unpack_78 rfl (fun r38 iv39 av40 f41 h => ?_)
    replace h := h f41
    refine r_istore (pc' := 83) (ls' := [(0, .ref (gl_b Y + 58)), (4, .int (i32 x4)), (5, .int (i32 x5)), (6, .int (i32 r1)), (7, .int (i32 r38))]) C (by decide) rfl dX10_unpack_81 rfl ?_
    refine r_goto (tgt := 157) C dX10_unpack_83 (by decide) ?_
    exact Wa.sub [0, 1, 2, 4] rfl h
set_option maxHeartbeats 4000000 in
set_option maxRecDepth 100000 in
theorem w_X10_unpack_34 {Y : Gl} {X : Cx} {e : Nat} {P : PN} {x4 : Int} {iv av : IVt} (C : CX Y X RX10 "unpack" cX10_unpack 8 (some .boolean) (e + 4) 0 0) (hx4 : InR x4) (h :
    ((1048576 ≤ x4) →
      P 0 iv av
    ) ∧
    ((¬ 1048576 ≤ x4) →
      OkN Y (e + 3) mX1_bit [.ref (gl_b Y + 72)] RV iv av 116 (fun r2 iv3 av4 =>
        (InR r2) →
        ((¬ r2 = 1) →
          L_X10_unpack_59 Y X P x4 0 iv3 av4
        ) ∧
        ((r2 = 1) →
          L_X10_unpack_59 Y X P x4 1 iv3 av4
        )
      )
    )) : L_X10_unpack_34 Y X P x4 iv av := by
  unfold L_X10_unpack_34
  refine r_iload (pc' := 36) C 1 rfl dX10_unpack_34 rfl ?_
  refine r_ldc (pc' := 38) (x := 1048576) C ct_X10_59 (by decide) dX10_unpack_36 rfl ?_
  refine r_icmp_ge (pc' := 41) (tgt := 190) C hx4 (by decide) dX10_unpack_38 (by decide) rfl (fun c1 => ?_) (fun c1 => ?_)
  · replace h := h.1 c1
    refine r_iconst (pc' := 191) C dX10_unpack_190 rfl ?_
    exact r_zret C (by decide) ⟨rfl, rfl, h⟩ dX10_unpack_191
  · replace h := h.2 c1
    refine r_aload_n (pc' := 42) C 0 rfl rfl dX10_unpack_41 rfl ?_
    refine r_getr (pc' := 45) (k := 58) (r := 72) C fl_X10_33 (by decide) kc_58 (by decide) fr_10_0 RV_58_0 dX10_unpack_42 rfl ?_
    refine c_Vi (pc' := 48) (mt := mX1_bit) (as := []) (st := []) (k := 72) C h rfl cl_X1_bit ml_X10_60 im_X1_bit sl_X1_bit (by omega) (Nat.le_refl _) (Nat.le_refl _) rfl (by decide) kc_72 (by decide) rfl rfl rfl (Nat.le_of_ble_eq_true rfl) dX10_unpack_45 rfl (fun r2 iv3 av4 f5 h => ?_)
    replace h := h f5
    refine r_iconst (pc' := 49) C dX10_unpack_48 rfl ?_
    refine r_icmp_ne (pc' := 52) (tgt := 56) C f5 (by decide) dX10_unpack_49 (by decide) rfl (fun c6 => ?_) (fun c6 => ?_)
    · replace h := h.1 c6
      refine r_iconst (pc' := 57) C dX10_unpack_56 rfl ?_
      refine r_istore (pc' := 59) (ls' := [(0, .ref (gl_b Y + 58)), (4, .int (i32 x4)), (5, .int (i32 0))]) C (by decide) rfl dX10_unpack_57 rfl ?_
      exact Wa.sub [0, 1, 2] rfl h
    · replace h := h.2 c6
      refine r_iconst (pc' := 53) C dX10_unpack_52 rfl ?_
      refine r_goto (tgt := 57) C dX10_unpack_53 (by decide) ?_
      refine r_istore (pc' := 59) (ls' := [(0, .ref (gl_b Y + 58)), (4, .int (i32 x4)), (5, .int (i32 1))]) C (by decide) rfl dX10_unpack_57 rfl ?_
      exact Wa.sub [0, 1, 2] rfl h
set_option maxHeartbeats 4000000 in
set_option maxRecDepth 100000 in
theorem o_X10_unpack {Y : Gl} {e : Nat} {P : PN} {x1 : Int} {x2 : Int} {x3 : Int} {iv av : IVt} (hx1 : InR x1) (hx2 : InR x2) (hx3 : InR x3) (h : ∀ X : Cx, CX Y X RX10 "unpack" cX10_unpack 8 (some .boolean) (e + 4) 0 0 →
    OkN Y (e + 3) mX2_keep [.ref (gl_b Y + 16), .int (i32 0)] RV iv av 116 (fun r1 iv2 av3 =>
      OkN Y (e + 3) mX1_begin [.ref (gl_b Y + 72), .int (i32 x1), .int (i32 x2)] RV (up2 iv2 58 8 x3) av3 116 (fun r5 iv6 av7 =>
        OkN Y (e + 3) mX10_readBeginning [.ref (gl_b Y + 58)] RV iv6 av7 116 (fun r9 iv10 av11 =>
          (InR r9) →
          ((¬ r9 = 0) →
            L_X10_unpack_34 Y X P 0 iv10 av11
          ) ∧
          ((r9 = 0) →
            P 0 iv10 av11
          )
        )
      )
    )) : OkN Y (e + 4) mX10_unpack [.ref (gl_b Y + 58), .int (i32 x1), .int (i32 x2), .int (i32 x3)] RV iv av 116 P := by
  refine OkW.of rfl (by show _ ≤ 8; exact Nat.le_of_ble_eq_true rfl) fun X C0 hR => ?_
  have C : CX Y X RX10 "unpack" cX10_unpack 8 (some .boolean) (e + 4) 0 0 := C0
  replace h := h X C
  show Wa Y X 8 (g_MQ Y X 1 (g_N RV 116 P) 0 0) 0 0 0 [(0, .ref (gl_b Y + 58)), (1, .int (i32 x1)), (2, .int (i32 x2)), (3, .int (i32 x3))] [] RV iv av 116
  refine r_aload_n (pc' := 1) C 0 rfl rfl dX10_unpack_0 rfl ?_
  refine r_getr (pc' := 4) (k := 58) (r := 16) C fl_X10_37 (by decide) kc_58 (by decide) fr_10_1 RV_58_1 dX10_unpack_1 rfl ?_
  refine r_iconst (pc' := 5) C dX10_unpack_4 rfl ?_
  refine c_Vv (pc' := 8) (mt := mX2_keep) (as := [.int (i32 0)]) (st := []) (k := 16) C h rfl cl_X2_keep ml_X10_41 im_X2_keep sl_X2_keep (by omega) (Nat.le_refl _) (Nat.le_refl _) rfl (by decide) kc_16 (by decide) rfl rfl rfl (Nat.le_of_ble_eq_true rfl) dX10_unpack_5 rfl (fun r1 iv2 av3 h => ?_)
  refine r_aload_n (pc' := 9) C 0 rfl rfl dX10_unpack_8 rfl ?_
  refine r_iload_n (pc' := 10) C 3 rfl rfl dX10_unpack_9 rfl ?_
  refine r_puti (pc' := 13) (k := 58) C fl_X10_47 (by decide) kc_58 (by decide) fr_10_8 hx3 dX10_unpack_10 rfl ?_
  refine r_aload_n (pc' := 14) C 0 rfl rfl dX10_unpack_13 rfl ?_
  refine r_getr (pc' := 17) (k := 58) (r := 72) C fl_X10_33 (by decide) kc_58 (by decide) fr_10_0 RV_58_0 dX10_unpack_14 rfl ?_
  refine r_iload_n (pc' := 18) C 1 rfl rfl dX10_unpack_17 rfl ?_
  refine r_iload_n (pc' := 19) C 2 rfl rfl dX10_unpack_18 rfl ?_
  refine c_Vv (pc' := 22) (mt := mX1_begin) (as := [.int (i32 x1), .int (i32 x2)]) (st := []) (k := 72) C h rfl cl_X1_begin ml_X10_51 im_X1_begin sl_X1_begin (by omega) (Nat.le_refl _) (Nat.le_refl _) rfl (by decide) kc_72 (by decide) rfl rfl rfl (Nat.le_of_ble_eq_true rfl) dX10_unpack_19 rfl (fun r5 iv6 av7 h => ?_)
  refine r_aload_n (pc' := 23) C 0 rfl rfl dX10_unpack_22 rfl ?_
  refine c_Vi (pc' := 26) (mt := mX10_readBeginning) (as := []) (st := []) (k := 58) C h rfl cl_X10_readBeginning ml_X10_55 im_X10_readBeginning sl_X10_readBeginning (by omega) (Nat.le_refl _) (Nat.le_refl _) rfl (by decide) kc_58 (by decide) rfl rfl rfl (Nat.le_of_ble_eq_true rfl) dX10_unpack_23 rfl (fun r9 iv10 av11 f12 h => ?_)
  replace h := h f12
  refine r_if_ne (pc' := 29) (tgt := 31) C f12 dX10_unpack_26 (by decide) rfl (fun c13 => ?_) (fun c13 => ?_)
  · replace h := h.1 c13
    refine r_iconst (pc' := 32) C dX10_unpack_31 rfl ?_
    refine r_istore (pc' := 34) (ls' := [(0, .ref (gl_b Y + 58)), (1, .int (i32 x1)), (2, .int (i32 x2)), (3, .int (i32 x3)), (4, .int (i32 0))]) C (by decide) rfl dX10_unpack_32 rfl ?_
    exact Wa.sub [0, 4] rfl h
  · replace h := h.2 c13
    refine r_iconst (pc' := 30) C dX10_unpack_29 rfl ?_
    exact r_zret C (by decide) ⟨rfl, rfl, h⟩ dX10_unpack_30
set_option maxHeartbeats 4000000 in
set_option maxRecDepth 100000 in
theorem o_X10_readBeginning {Y : Gl} {e : Nat} {P : PN} {iv av : IVt} (h : 
    OkN Y (e + 2) mX1_bits [.ref (gl_b Y + 72), .int (i32 8)] RV iv av 116 (fun r1 iv2 av3 =>
      (InR r1) →
      OkN Y (e + 2) mX1_bits [.ref (gl_b Y + 72), .int (i32 8)] RV iv2 av3 116 (fun r5 iv6 av7 =>
        (InR r5) →
        (0 ≤ (r1 / 16) ∧ (r1 / 16) ≤ 31) ∧
        (InR (256 * 2 ^ (r1 / 16).toNat)) ∧
        OkN Y (e + 2) mX1_isMissing [.ref (gl_b Y + 72)] RV (up2 iv6 58 9 (256 * 2 ^ (r1 / 16).toNat)) av7 116 (fun r11 iv12 av13 =>
          (InR r11) →
          ((¬ r11 = 0) →
            P 0 iv12 av13
          ) ∧
          ((r11 = 0) →
            (InR ((256 * r1) + r5)) ∧
            (0 ≤ ((256 * r1) + r5)) ∧
            ((¬ (((256 * r1) + r5) % 31) = 0) →
              P 0 iv12 av13
            ) ∧
            (((((256 * r1) + r5) % 31) = 0) →
              ((¬ (r1 % 16) = 8) →
                P 0 iv12 av13
              ) ∧
              (((r1 % 16) = 8) →
                ((7 < (r1 / 16)) →
                  P 0 iv12 av13
                ) ∧
                ((¬ 7 < (r1 / 16)) →
                  ((¬ (g_and r5 32) = 0) →
                    P 0 iv12 av13
                  ) ∧
                  (((g_and r5 32) = 0) →
                    P 1 iv12 av13
                  )
                )
              )
            )
          )
        )
      )
    )) : OkN Y (e + 3) mX10_readBeginning [.ref (gl_b Y + 58)] RV iv av 116 P := by
  refine OkW.of rfl (by show _ ≤ 3; exact Nat.le_of_ble_eq_true rfl) fun X C0 hR => ?_
  have C : CX Y X RX10 "readBeginning" cX10_readBeginning 3 (some .boolean) (e + 3) 0 0 := C0
  show Wa Y X 3 (g_MQ Y X 1 (g_N RV 116 P) 0 0) 0 0 0 [(0, .ref (gl_b Y + 58))] [] RV iv av 116
  refine r_aload_n (pc' := 1) C 0 rfl rfl dX10_readBeginning_0 rfl ?_
  refine r_getr (pc' := 4) (k := 58) (r := 72) C fl_X10_33 (by decide) kc_58 (by decide) fr_10_0 RV_58_0 dX10_readBeginning_1 rfl ?_
  refine r_bipush (pc' := 6) C dX10_readBeginning_4 (by decide) rfl ?_
  refine c_Vi (pc' := 9) (mt := mX1_bits) (as := [.int (i32 8)]) (st := []) (k := 72) C h rfl cl_X1_bits ml_X10_64 im_X1_bits sl_X1_bits (by omega) (Nat.le_refl _) (Nat.le_refl _) rfl (by decide) kc_72 (by decide) rfl rfl rfl (Nat.le_of_ble_eq_true rfl) dX10_readBeginning_6 rfl (fun r1 iv2 av3 f4 h => ?_)
  replace h := h f4
  refine r_istore_n (pc' := 10) (ls' := [(0, .ref (gl_b Y + 58)), (1, .int (i32 r1))]) C (by decide) rfl rfl dX10_readBeginning_9 rfl ?_
  refine r_aload_n (pc' := 11) C 0 rfl rfl dX10_readBeginning_10 rfl ?_
  refine r_getr (pc' := 14) (k := 58) (r := 72) C fl_X10_33 (by decide) kc_58 (by decide) fr_10_0 RV_58_0 dX10_readBeginning_11 rfl ?_
  refine r_bipush (pc' := 16) C dX10_readBeginning_14 (by decide) rfl ?_
  refine c_Vi (pc' := 19) (mt := mX1_bits) (as := [.int (i32 8)]) (st := []) (k := 72) C h rfl cl_X1_bits ml_X10_64 im_X1_bits sl_X1_bits (by omega) (Nat.le_refl _) (Nat.le_refl _) rfl (by decide) kc_72 (by decide) rfl rfl rfl (Nat.le_of_ble_eq_true rfl) dX10_readBeginning_16 rfl (fun r5 iv6 av7 f8 h => ?_)
  replace h := h f8
  refine r_istore_n (pc' := 20) (ls' := [(0, .ref (gl_b Y + 58)), (1, .int (i32 r1)), (2, .int (i32 r5))]) C (by decide) rfl rfl dX10_readBeginning_19 rfl ?_
  refine r_aload_n (pc' := 21) C 0 rfl rfl dX10_readBeginning_20 rfl ?_
  refine r_sipush (pc' := 24) C dX10_readBeginning_21 (by decide) rfl ?_
  refine r_iload_n (pc' := 25) C 1 rfl rfl dX10_readBeginning_24 rfl ?_
  refine r_iconst (pc' := 26) C dX10_readBeginning_25 rfl ?_
  refine r_ishrC (pc' := 27) (m := 16) C f4 (by decide) (by decide) dX10_readBeginning_26 rfl ?_
  have o9 := h.1
  replace h := h.2
  refine r_ishl (pc' := 28) C o9 dX10_readBeginning_27 rfl ?_
  have o10 := h.1
  replace h := h.2
  refine r_puti (pc' := 31) (k := 58) C fl_X10_92 (by decide) kc_58 (by decide) fr_10_9 o10 dX10_readBeginning_28 rfl ?_
  refine r_aload_n (pc' := 32) C 0 rfl rfl dX10_readBeginning_31 rfl ?_
  refine r_getr (pc' := 35) (k := 58) (r := 72) C fl_X10_33 (by decide) kc_58 (by decide) fr_10_0 RV_58_0 dX10_readBeginning_32 rfl ?_
  refine c_Vi (pc' := 38) (mt := mX1_isMissing) (as := []) (st := []) (k := 72) C h rfl cl_X1_isMissing ml_X10_86 im_X1_isMissing sl_X1_isMissing (by omega) (Nat.le_refl _) (Nat.le_refl _) rfl (by decide) kc_72 (by decide) rfl rfl rfl (Nat.le_of_ble_eq_true rfl) dX10_readBeginning_35 rfl (fun r11 iv12 av13 f14 h => ?_)
  replace h := h f14
  refine r_if_ne (pc' := 41) (tgt := 82) C f14 dX10_readBeginning_38 (by decide) rfl (fun c15 => ?_) (fun c15 => ?_)
  · replace h := h.1 c15
    refine r_iconst (pc' := 83) C dX10_readBeginning_82 rfl ?_
    exact r_zret C (by decide) ⟨rfl, rfl, h⟩ dX10_readBeginning_83
  · replace h := h.2 c15
    refine r_sipush (pc' := 44) C dX10_readBeginning_41 (by decide) rfl ?_
    refine r_iload_n (pc' := 45) C 1 rfl rfl dX10_readBeginning_44 rfl ?_
    refine r_imul (pc' := 46) C dX10_readBeginning_45 rfl ?_
    refine r_iload_n (pc' := 47) C 2 rfl rfl dX10_readBeginning_46 rfl ?_
    refine r_iadd (pc' := 48) C dX10_readBeginning_47 rfl ?_
    refine r_bipush (pc' := 50) C dX10_readBeginning_48 (by decide) rfl ?_
    have o16 := h.1
    replace h := h.2
    have o17 := h.1
    replace h := h.2
    refine r_irem (pc' := 51) C ⟨o17, o16⟩ ⟨(by decide), (by decide)⟩ dX10_readBeginning_50 rfl ?_
    refine r_if_ne (pc' := 54) (tgt := 82) C (by omega) dX10_readBeginning_51 (by decide) rfl (fun c18 => ?_) (fun c18 => ?_)
    · replace h := h.1 c18
      refine r_iconst (pc' := 83) C dX10_readBeginning_82 rfl ?_
      exact r_zret C (by decide) ⟨rfl, rfl, h⟩ dX10_readBeginning_83
    · replace h := h.2 c18
      refine r_iload_n (pc' := 55) C 1 rfl rfl dX10_readBeginning_54 rfl ?_
      refine r_bipush (pc' := 57) C dX10_readBeginning_55 (by decide) rfl ?_
      refine r_iandM (pc' := 58) (m := 16) C 4 (by decide) (by decide) (by decide) dX10_readBeginning_57 rfl ?_
      refine r_bipush (pc' := 60) C dX10_readBeginning_58 (by decide) rfl ?_
      refine r_icmp_ne (pc' := 63) (tgt := 82) C (by omega) (by decide) dX10_readBeginning_60 (by decide) rfl (fun c19 => ?_) (fun c19 => ?_)
      · replace h := h.1 c19
        refine r_iconst (pc' := 83) C dX10_readBeginning_82 rfl ?_
        exact r_zret C (by decide) ⟨rfl, rfl, h⟩ dX10_readBeginning_83
      · replace h := h.2 c19
        refine r_iload_n (pc' := 64) C 1 rfl rfl dX10_readBeginning_63 rfl ?_
        refine r_iconst (pc' := 65) C dX10_readBeginning_64 rfl ?_
        refine r_ishrC (pc' := 66) (m := 16) C f4 (by decide) (by decide) dX10_readBeginning_65 rfl ?_
        refine r_bipush (pc' := 68) C dX10_readBeginning_66 (by decide) rfl ?_
        refine r_icmp_gt (pc' := 71) (tgt := 82) C (by omega) (by decide) dX10_readBeginning_68 (by decide) rfl (fun c20 => ?_) (fun c20 => ?_)
        · replace h := h.1 c20
          refine r_iconst (pc' := 83) C dX10_readBeginning_82 rfl ?_
          exact r_zret C (by decide) ⟨rfl, rfl, h⟩ dX10_readBeginning_83
        · replace h := h.2 c20
          refine r_iload_n (pc' := 72) C 2 rfl rfl dX10_readBeginning_71 rfl ?_
          refine r_bipush (pc' := 74) C dX10_readBeginning_72 (by decide) rfl ?_
          refine r_iand (pc' := 75) C dX10_readBeginning_74 rfl ?_
          refine r_if_ne (pc' := 78) (tgt := 82) C (g_and_in _ _) dX10_readBeginning_75 (by decide) rfl (fun c21 => ?_) (fun c21 => ?_)
          · replace h := h.1 c21
            refine r_iconst (pc' := 83) C dX10_readBeginning_82 rfl ?_
            exact r_zret C (by decide) ⟨rfl, rfl, h⟩ dX10_readBeginning_83
          · replace h := h.2 c21
            refine r_iconst (pc' := 79) C dX10_readBeginning_78 rfl ?_
            refine r_goto (tgt := 83) C dX10_readBeginning_79 (by decide) ?_
            exact r_zret C (by decide) ⟨rfl, rfl, h⟩ dX10_readBeginning_83
def L_X10_readCheck_24 (Y : Gl) (X : Cx) (P : PN) (x1 : Int) (x2 : Int) (iv av : IVt) : Prop := Wa Y X 3 (g_MQ Y X 1 (g_N RV 116 P) 0 0) 0 0 24 [(0, .ref (gl_b Y + 58)), (1, .int (i32 x1)), (2, .int (i32 x2))] [] RV iv av 116
set_option maxHeartbeats 4000000 in
set_option maxRecDepth 100000 in
theorem w_X10_readCheck_24 {Y : Gl} {X : Cx} {e : Nat} {P : PN} {x1 : Int} {x2 : Int} {iv av : IVt} (C : CX Y X RX10 "readCheck" cX10_readCheck 3 (some .boolean) (e + 3) 0 0) (hx1 : InR x1) (hx2 : InR x2) (h :
    ((4 ≤ x2) →
      OkN Y (e + 2) mX2_count [.ref (gl_b Y + 16)] RV iv av 116 (fun r2 iv3 av4 =>
        (InR r2) →
        OkN Y (e + 2) mX11_checkOf [.ref (gl_b Y + 16), .int (i32 0), .int (i32 r2)] RV iv3 av4 116 (fun r6 iv7 av8 =>
          (InR r6) →
          ((¬ x1 = r6) →
            P 0 iv7 av8
          ) ∧
          ((x1 = r6) →
            P 1 iv7 av8
          )
        )
      )
    ) ∧
    ((¬ 4 ≤ x2) →
      OkN Y (e + 2) mX1_bits [.ref (gl_b Y + 72), .int (i32 8)] RV iv av 116 (fun r11 iv12 av13 =>
        (InR r11) →
        L_X10_readCheck_24 Y X P (g_or (x1 * 256) r11) (x2 + 1) iv12 av13
      )
    )) : L_X10_readCheck_24 Y X P x1 x2 iv av := by
  unfold L_X10_readCheck_24
  refine r_iload_n (pc' := 25) C 2 rfl rfl dX10_readCheck_24 rfl ?_
  refine r_iconst (pc' := 26) C dX10_readCheck_25 rfl ?_
  refine r_icmp_ge (pc' := 29) (tgt := 50) C hx2 (by decide) dX10_readCheck_26 (by decide) rfl (fun c1 => ?_) (fun c1 => ?_)
  · replace h := h.1 c1
    refine r_iload_n (pc' := 51) C 1 rfl rfl dX10_readCheck_50 rfl ?_
    refine r_aload_n (pc' := 52) C 0 rfl rfl dX10_readCheck_51 rfl ?_
    refine r_getr (pc' := 55) (k := 58) (r := 16) C fl_X10_37 (by decide) kc_58 (by decide) fr_10_1 RV_58_1 dX10_readCheck_52 rfl ?_
    refine r_iconst (pc' := 56) C dX10_readCheck_55 rfl ?_
    refine r_aload_n (pc' := 57) C 0 rfl rfl dX10_readCheck_56 rfl ?_
    refine r_getr (pc' := 60) (k := 58) (r := 16) C fl_X10_37 (by decide) kc_58 (by decide) fr_10_1 RV_58_1 dX10_readCheck_57 rfl ?_
    refine c_Vi (pc' := 63) (mt := mX2_count) (as := []) (st := [.int (i32 0), .ref (gl_b Y + 16), .int (i32 x1)]) (k := 16) C h rfl cl_X2_count ml_X10_101 im_X2_count sl_X2_count (by omega) (Nat.le_refl _) (Nat.le_refl _) rfl (by decide) kc_16 (by decide) rfl rfl rfl (Nat.le_of_ble_eq_true rfl) dX10_readCheck_60 rfl (fun r2 iv3 av4 f5 h => ?_)
    replace h := h f5
    refine c_SNi (pc' := 66) (mt := mX11_checkOf) (as := [.ref (gl_b Y + 16), .int (i32 0), .int (i32 r2)]) (st := [.int (i32 x1)]) C h rfl cl_X11_checkOf nl_X10_104 sm_X11_checkOf (by omega) (Nat.le_refl _) (Nat.le_refl _) rfl rfl (Nat.le_of_ble_eq_true rfl) dX10_readCheck_63 rfl (fun r6 iv7 av8 f9 h => ?_)
    replace h := h f9
    refine r_icmp_ne (pc' := 69) (tgt := 73) C hx1 f9 dX10_readCheck_66 (by decide) rfl (fun c10 => ?_) (fun c10 => ?_)
    · replace h := h.1 c10
      refine r_iconst (pc' := 74) C dX10_readCheck_73 rfl ?_
      exact r_zret C (by decide) ⟨rfl, rfl, h⟩ dX10_readCheck_74
    · replace h := h.2 c10
      refine r_iconst (pc' := 70) C dX10_readCheck_69 rfl ?_
      refine r_goto (tgt := 74) C dX10_readCheck_70 (by decide) ?_
      exact r_zret C (by decide) ⟨rfl, rfl, h⟩ dX10_readCheck_74
  · replace h := h.2 c1
    refine r_iload_n (pc' := 30) C 1 rfl rfl dX10_readCheck_29 rfl ?_
    refine r_bipush (pc' := 32) C dX10_readCheck_30 (by decide) rfl ?_
    refine r_ishlC (pc' := 33) (m := 256) C (by decide) (by decide) dX10_readCheck_32 rfl ?_
    refine r_aload_n (pc' := 34) C 0 rfl rfl dX10_readCheck_33 rfl ?_
    refine r_getr (pc' := 37) (k := 58) (r := 72) C fl_X10_33 (by decide) kc_58 (by decide) fr_10_0 RV_58_0 dX10_readCheck_34 rfl ?_
    refine r_bipush (pc' := 39) C dX10_readCheck_37 (by decide) rfl ?_
    refine c_Vi (pc' := 42) (mt := mX1_bits) (as := [.int (i32 8)]) (st := [.int (i32 (x1 * 256))]) (k := 72) C h rfl cl_X1_bits ml_X10_64 im_X1_bits sl_X1_bits (by omega) (Nat.le_refl _) (Nat.le_refl _) rfl (by decide) kc_72 (by decide) rfl rfl rfl (Nat.le_of_ble_eq_true rfl) dX10_readCheck_39 rfl (fun r11 iv12 av13 f14 h => ?_)
    replace h := h f14
    refine r_ior (pc' := 43) C dX10_readCheck_42 rfl ?_
    refine r_istore_n (pc' := 44) (ls' := [(0, .ref (gl_b Y + 58)), (1, .int (i32 (g_or (x1 * 256) r11))), (2, .int (i32 x2))]) C (by decide) rfl rfl dX10_readCheck_43 rfl ?_
    refine r_iinc (pc' := 47) (ls' := [(0, .ref (gl_b Y + 58)), (1, .int (i32 (g_or (x1 * 256) r11))), (2, .int (i32 (x2 + 1)))]) C 2 rfl (by decide) rfl dX10_readCheck_44 rfl ?_
    refine r_goto (tgt := 24) C dX10_readCheck_47 (by decide) ?_
    exact Wa.sub [0, 1, 2] rfl h
set_option maxHeartbeats 4000000 in
set_option maxRecDepth 100000 in
theorem o_X10_readCheck {Y : Gl} {e : Nat} {P : PN} {iv av : IVt} (h : ∀ X : Cx, CX Y X RX10 "readCheck" cX10_readCheck 3 (some .boolean) (e + 3) 0 0 →
    OkN Y (e + 2) mX1_endByte [.ref (gl_b Y + 72)] RV iv av 116 (fun r1 iv2 av3 =>
      OkN Y (e + 2) mX1_bytesLeft [.ref (gl_b Y + 72)] RV iv2 av3 116 (fun r5 iv6 av7 =>
        (InR r5) →
        ((r5 = 4) →
          L_X10_readCheck_24 Y X P 0 0 iv6 av7
        ) ∧
        ((¬ r5 = 4) →
          P 0 iv6 av7
        )
      )
    )) : OkN Y (e + 3) mX10_readCheck [.ref (gl_b Y + 58)] RV iv av 116 P := by
  refine OkW.of rfl (by show _ ≤ 3; exact Nat.le_of_ble_eq_true rfl) fun X C0 hR => ?_
  have C : CX Y X RX10 "readCheck" cX10_readCheck 3 (some .boolean) (e + 3) 0 0 := C0
  replace h := h X C
  show Wa Y X 3 (g_MQ Y X 1 (g_N RV 116 P) 0 0) 0 0 0 [(0, .ref (gl_b Y + 58))] [] RV iv av 116
  refine r_aload_n (pc' := 1) C 0 rfl rfl dX10_readCheck_0 rfl ?_
  refine r_getr (pc' := 4) (k := 58) (r := 72) C fl_X10_33 (by decide) kc_58 (by decide) fr_10_0 RV_58_0 dX10_readCheck_1 rfl ?_
  refine c_Vv (pc' := 7) (mt := mX1_endByte) (as := []) (st := []) (k := 72) C h rfl cl_X1_endByte ml_X10_95 im_X1_endByte sl_X1_endByte (by omega) (Nat.le_refl _) (Nat.le_refl _) rfl (by decide) kc_72 (by decide) rfl rfl rfl (Nat.le_of_ble_eq_true rfl) dX10_readCheck_4 rfl (fun r1 iv2 av3 h => ?_)
  refine r_aload_n (pc' := 8) C 0 rfl rfl dX10_readCheck_7 rfl ?_
  refine r_getr (pc' := 11) (k := 58) (r := 72) C fl_X10_33 (by decide) kc_58 (by decide) fr_10_0 RV_58_0 dX10_readCheck_8 rfl ?_
  refine c_Vi (pc' := 14) (mt := mX1_bytesLeft) (as := []) (st := []) (k := 72) C h rfl cl_X1_bytesLeft ml_X10_98 im_X1_bytesLeft sl_X1_bytesLeft (by omega) (Nat.le_refl _) (Nat.le_refl _) rfl (by decide) kc_72 (by decide) rfl rfl rfl (Nat.le_of_ble_eq_true rfl) dX10_readCheck_11 rfl (fun r5 iv6 av7 f8 h => ?_)
  replace h := h f8
  refine r_iconst (pc' := 15) C dX10_readCheck_14 rfl ?_
  refine r_icmp_eq (pc' := 18) (tgt := 20) C f8 (by decide) dX10_readCheck_15 (by decide) rfl (fun c9 => ?_) (fun c9 => ?_)
  · replace h := h.1 c9
    refine r_iconst (pc' := 21) C dX10_readCheck_20 rfl ?_
    refine r_istore_n (pc' := 22) (ls' := [(0, .ref (gl_b Y + 58)), (1, .int (i32 0))]) C (by decide) rfl rfl dX10_readCheck_21 rfl ?_
    refine r_iconst (pc' := 23) C dX10_readCheck_22 rfl ?_
    refine r_istore_n (pc' := 24) (ls' := [(0, .ref (gl_b Y + 58)), (1, .int (i32 0)), (2, .int (i32 0))]) C (by decide) rfl rfl dX10_readCheck_23 rfl ?_
    exact Wa.sub [0, 1, 2] rfl h
  · replace h := h.2 c9
    refine r_iconst (pc' := 19) C dX10_readCheck_18 rfl ?_
    exact r_zret C (by decide) ⟨rfl, rfl, h⟩ dX10_readCheck_19
def L_X10_readStored_76 (Y : Gl) (X : Cx) (P : PN) (x1 : Int) (x3 : Int) (iv av : IVt) : Prop := Wa Y X 4 (g_MQ Y X 1 (g_N RV 116 P) 0 0) 0 0 76 [(0, .ref (gl_b Y + 58)), (1, .int (i32 x1)), (3, .int (i32 x3))] [] RV iv av 116
set_option maxHeartbeats 4000000 in
set_option maxRecDepth 100000 in
theorem w_X10_readStored_76 {Y : Gl} {X : Cx} {e : Nat} {P : PN} {x1 : Int} {x3 : Int} {iv av : IVt} (C : CX Y X RX10 "readStored" cX10_readStored 4 (some .boolean) (e + 3) 0 0) (hx1 : InR x1) (hx3 : InR x3) (h :
    ((x1 ≤ x3) →
      P 1 iv av
    ) ∧
    ((¬ x1 ≤ x3) →
      OkN Y (e + 2) mX1_bits [.ref (gl_b Y + 72), .int (i32 8)] RV iv av 116 (fun r2 iv3 av4 =>
        (InR r2) →
        OkN Y (e + 2) mX2_add [.ref (gl_b Y + 16), .int (i32 r2)] RV iv3 av4 116 (fun r6 iv7 av8 =>
          L_X10_readStored_76 Y X P x1 (x3 + 1) iv7 av8
        )
      )
    )) : L_X10_readStored_76 Y X P x1 x3 iv av := by
  unfold L_X10_readStored_76
  refine r_iload_n (pc' := 77) C 2 rfl rfl dX10_readStored_76 rfl ?_
  refine r_iload_n (pc' := 78) C 1 rfl rfl dX10_readStored_77 rfl ?_
  refine r_icmp_ge (pc' := 81) (tgt := 103) C hx3 hx1 dX10_readStored_78 (by decide) rfl (fun c1 => ?_) (fun c1 => ?_)
  · replace h := h.1 c1
    refine r_iconst (pc' := 104) C dX10_readStored_103 rfl ?_
    exact r_zret C (by decide) ⟨rfl, rfl, h⟩ dX10_readStored_104
  · replace h := h.2 c1
    refine r_aload_n (pc' := 82) C 0 rfl rfl dX10_readStored_81 rfl ?_
    refine r_getr (pc' := 85) (k := 58) (r := 16) C fl_X10_37 (by decide) kc_58 (by decide) fr_10_1 RV_58_1 dX10_readStored_82 rfl ?_
    refine r_aload_n (pc' := 86) C 0 rfl rfl dX10_readStored_85 rfl ?_
    refine r_getr (pc' := 89) (k := 58) (r := 72) C fl_X10_33 (by decide) kc_58 (by decide) fr_10_0 RV_58_0 dX10_readStored_86 rfl ?_
    refine r_bipush (pc' := 91) C dX10_readStored_89 (by decide) rfl ?_
    refine c_Vi (pc' := 94) (mt := mX1_bits) (as := [.int (i32 8)]) (st := [.ref (gl_b Y + 16)]) (k := 72) C h rfl cl_X1_bits ml_X10_64 im_X1_bits sl_X1_bits (by omega) (Nat.le_refl _) (Nat.le_refl _) rfl (by decide) kc_72 (by decide) rfl rfl rfl (Nat.le_of_ble_eq_true rfl) dX10_readStored_91 rfl (fun r2 iv3 av4 f5 h => ?_)
    replace h := h f5
    refine c_Vv (pc' := 97) (mt := mX2_add) (as := [.int (i32 r2)]) (st := []) (k := 16) C h rfl cl_X2_add ml_X10_109 im_X2_add sl_X2_add (by omega) (Nat.le_refl _) (Nat.le_refl _) rfl (by decide) kc_16 (by decide) rfl rfl rfl (Nat.le_of_ble_eq_true rfl) dX10_readStored_94 rfl (fun r6 iv7 av8 h => ?_)
    refine r_iinc (pc' := 100) (ls' := [(0, .ref (gl_b Y + 58)), (1, .int (i32 x1)), (3, .int (i32 (x3 + 1)))]) C 2 rfl (by decide) rfl dX10_readStored_97 rfl ?_
    refine r_goto (tgt := 76) C dX10_readStored_100 (by decide) ?_
    exact Wa.sub [0, 1, 2] rfl h
set_option maxHeartbeats 4000000 in
set_option maxRecDepth 100000 in
theorem o_X10_readStored {Y : Gl} {e : Nat} {P : PN} {iv av : IVt} (h : ∀ X : Cx, CX Y X RX10 "readStored" cX10_readStored 4 (some .boolean) (e + 3) 0 0 →
    OkN Y (e + 2) mX1_endByte [.ref (gl_b Y + 72)] RV iv av 116 (fun r1 iv2 av3 =>
      OkN Y (e + 2) mX1_bits [.ref (gl_b Y + 72), .int (i32 16)] RV iv2 av3 116 (fun r5 iv6 av7 =>
        (InR r5) →
        OkN Y (e + 2) mX1_bits [.ref (gl_b Y + 72), .int (i32 16)] RV iv6 av7 116 (fun r9 iv10 av11 =>
          (InR r9) →
          OkN Y (e + 2) mX1_isMissing [.ref (gl_b Y + 72)] RV iv10 av11 116 (fun r13 iv14 av15 =>
            (InR r13) →
            ((¬ r13 = 0) →
              P 0 iv14 av15
            ) ∧
            ((r13 = 0) →
              (InR (r5 + r9)) ∧
              ((¬ (r5 + r9) = 65535) →
                P 0 iv14 av15
              ) ∧
              (((r5 + r9) = 65535) →
                OkN Y (e + 2) mX1_bytesLeft [.ref (gl_b Y + 72)] RV iv14 av15 116 (fun r20 iv21 av22 =>
                  (InR r20) →
                  ((r20 < r5) →
                    P 0 iv21 av22
                  ) ∧
                  ((¬ r20 < r5) →
                    ((InR (iv21 58 8)) →
                      OkN Y (e + 2) mX2_count [.ref (gl_b Y + 16)] RV iv21 av22 116 (fun r26 iv27 av28 =>
                        (InR r26) →
                        (InR ((iv21 58 8) - r26)) ∧
                        ((r5 ≤ ((iv21 58 8) - r26)) →
                          L_X10_readStored_76 Y X P r5 0 iv27 av28
                        ) ∧
                        ((¬ r5 ≤ ((iv21 58 8) - r26)) →
                          P 0 iv27 av28
                        )
                      )
                    )
                  )
                )
              )
            )
          )
        )
      )
    )) : OkN Y (e + 3) mX10_readStored [.ref (gl_b Y + 58)] RV iv av 116 P := by
  refine OkW.of rfl (by show _ ≤ 4; exact Nat.le_of_ble_eq_true rfl) fun X C0 hR => ?_
  have C : CX Y X RX10 "readStored" cX10_readStored 4 (some .boolean) (e + 3) 0 0 := C0
  replace h := h X C
  show Wa Y X 4 (g_MQ Y X 1 (g_N RV 116 P) 0 0) 0 0 0 [(0, .ref (gl_b Y + 58))] [] RV iv av 116
  refine r_aload_n (pc' := 1) C 0 rfl rfl dX10_readStored_0 rfl ?_
  refine r_getr (pc' := 4) (k := 58) (r := 72) C fl_X10_33 (by decide) kc_58 (by decide) fr_10_0 RV_58_0 dX10_readStored_1 rfl ?_
  refine c_Vv (pc' := 7) (mt := mX1_endByte) (as := []) (st := []) (k := 72) C h rfl cl_X1_endByte ml_X10_95 im_X1_endByte sl_X1_endByte (by omega) (Nat.le_refl _) (Nat.le_refl _) rfl (by decide) kc_72 (by decide) rfl rfl rfl (Nat.le_of_ble_eq_true rfl) dX10_readStored_4 rfl (fun r1 iv2 av3 h => ?_)
  refine r_aload_n (pc' := 8) C 0 rfl rfl dX10_readStored_7 rfl ?_
  refine r_getr (pc' := 11) (k := 58) (r := 72) C fl_X10_33 (by decide) kc_58 (by decide) fr_10_0 RV_58_0 dX10_readStored_8 rfl ?_
  refine r_bipush (pc' := 13) C dX10_readStored_11 (by decide) rfl ?_
  refine c_Vi (pc' := 16) (mt := mX1_bits) (as := [.int (i32 16)]) (st := []) (k := 72) C h rfl cl_X1_bits ml_X10_64 im_X1_bits sl_X1_bits (by omega) (Nat.le_refl _) (Nat.le_refl _) rfl (by decide) kc_72 (by decide) rfl rfl rfl (Nat.le_of_ble_eq_true rfl) dX10_readStored_13 rfl (fun r5 iv6 av7 f8 h => ?_)
  replace h := h f8
  refine r_istore_n (pc' := 17) (ls' := [(0, .ref (gl_b Y + 58)), (1, .int (i32 r5))]) C (by decide) rfl rfl dX10_readStored_16 rfl ?_
  refine r_aload_n (pc' := 18) C 0 rfl rfl dX10_readStored_17 rfl ?_
  refine r_getr (pc' := 21) (k := 58) (r := 72) C fl_X10_33 (by decide) kc_58 (by decide) fr_10_0 RV_58_0 dX10_readStored_18 rfl ?_
  refine r_bipush (pc' := 23) C dX10_readStored_21 (by decide) rfl ?_
  refine c_Vi (pc' := 26) (mt := mX1_bits) (as := [.int (i32 16)]) (st := []) (k := 72) C h rfl cl_X1_bits ml_X10_64 im_X1_bits sl_X1_bits (by omega) (Nat.le_refl _) (Nat.le_refl _) rfl (by decide) kc_72 (by decide) rfl rfl rfl (Nat.le_of_ble_eq_true rfl) dX10_readStored_23 rfl (fun r9 iv10 av11 f12 h => ?_)
  replace h := h f12
  refine r_istore_n (pc' := 27) (ls' := [(0, .ref (gl_b Y + 58)), (1, .int (i32 r5)), (2, .int (i32 r9))]) C (by decide) rfl rfl dX10_readStored_26 rfl ?_
  refine r_aload_n (pc' := 28) C 0 rfl rfl dX10_readStored_27 rfl ?_
  refine r_getr (pc' := 31) (k := 58) (r := 72) C fl_X10_33 (by decide) kc_58 (by decide) fr_10_0 RV_58_0 dX10_readStored_28 rfl ?_
  refine c_Vi (pc' := 34) (mt := mX1_isMissing) (as := []) (st := []) (k := 72) C h rfl cl_X1_isMissing ml_X10_86 im_X1_isMissing sl_X1_isMissing (by omega) (Nat.le_refl _) (Nat.le_refl _) rfl (by decide) kc_72 (by decide) rfl rfl rfl (Nat.le_of_ble_eq_true rfl) dX10_readStored_31 rfl (fun r13 iv14 av15 f16 h => ?_)
  replace h := h f16
  refine r_if_ne (pc' := 37) (tgt := 72) C f16 dX10_readStored_34 (by decide) rfl (fun c17 => ?_) (fun c17 => ?_)
  · replace h := h.1 c17
    refine r_iconst (pc' := 73) C dX10_readStored_72 rfl ?_
    exact r_zret C (by decide) ⟨rfl, rfl, h⟩ dX10_readStored_73
  · replace h := h.2 c17
    refine r_iload_n (pc' := 38) C 1 rfl rfl dX10_readStored_37 rfl ?_
    refine r_iload_n (pc' := 39) C 2 rfl rfl dX10_readStored_38 rfl ?_
    refine r_iadd (pc' := 40) C dX10_readStored_39 rfl ?_
    refine r_ldc (pc' := 42) (x := 65535) C ct_X10_108 (by decide) dX10_readStored_40 rfl ?_
    have o18 := h.1
    replace h := h.2
    refine r_icmp_ne (pc' := 45) (tgt := 72) C o18 (by decide) dX10_readStored_42 (by decide) rfl (fun c19 => ?_) (fun c19 => ?_)
    · replace h := h.1 c19
      refine r_iconst (pc' := 73) C dX10_readStored_72 rfl ?_
      exact r_zret C (by decide) ⟨rfl, rfl, h⟩ dX10_readStored_73
    · replace h := h.2 c19
      refine r_iload_n (pc' := 46) C 1 rfl rfl dX10_readStored_45 rfl ?_
      refine r_aload_n (pc' := 47) C 0 rfl rfl dX10_readStored_46 rfl ?_
      refine r_getr (pc' := 50) (k := 58) (r := 72) C fl_X10_33 (by decide) kc_58 (by decide) fr_10_0 RV_58_0 dX10_readStored_47 rfl ?_
      refine c_Vi (pc' := 53) (mt := mX1_bytesLeft) (as := []) (st := [.int (i32 r5)]) (k := 72) C h rfl cl_X1_bytesLeft ml_X10_98 im_X1_bytesLeft sl_X1_bytesLeft (by omega) (Nat.le_refl _) (Nat.le_refl _) rfl (by decide) kc_72 (by decide) rfl rfl rfl (Nat.le_of_ble_eq_true rfl) dX10_readStored_50 rfl (fun r20 iv21 av22 f23 h => ?_)
      replace h := h f23
      refine r_icmp_gt (pc' := 56) (tgt := 72) C f8 f23 dX10_readStored_53 (by decide) rfl (fun c24 => ?_) (fun c24 => ?_)
      · replace h := h.1 c24
        refine r_iconst (pc' := 73) C dX10_readStored_72 rfl ?_
        exact r_zret C (by decide) ⟨rfl, rfl, h⟩ dX10_readStored_73
      · replace h := h.2 c24
        refine r_iload_n (pc' := 57) C 1 rfl rfl dX10_readStored_56 rfl ?_
        refine r_aload_n (pc' := 58) C 0 rfl rfl dX10_readStored_57 rfl ?_
        refine r_geti (pc' := 61) (k := 58) C fl_X10_47 (by decide) kc_58 (by decide) fr_10_8 dX10_readStored_58 rfl (fun f25 => ?_)
        replace h := h f25
        refine r_aload_n (pc' := 62) C 0 rfl rfl dX10_readStored_61 rfl ?_
        refine r_getr (pc' := 65) (k := 58) (r := 16) C fl_X10_37 (by decide) kc_58 (by decide) fr_10_1 RV_58_1 dX10_readStored_62 rfl ?_
        refine c_Vi (pc' := 68) (mt := mX2_count) (as := []) (st := [.int (i32 (iv21 58 8)), .int (i32 r5)]) (k := 16) C h rfl cl_X2_count ml_X10_101 im_X2_count sl_X2_count (by omega) (Nat.le_refl _) (Nat.le_refl _) rfl (by decide) kc_16 (by decide) rfl rfl rfl (Nat.le_of_ble_eq_true rfl) dX10_readStored_65 rfl (fun r26 iv27 av28 f29 h => ?_)
        replace h := h f29
        refine r_isub (pc' := 69) C dX10_readStored_68 rfl ?_
        have o30 := h.1
        replace h := h.2
        refine r_icmp_le (pc' := 72) (tgt := 74) C f8 o30 dX10_readStored_69 (by decide) rfl (fun c31 => ?_) (fun c31 => ?_)
        · replace h := h.1 c31
          refine r_iconst (pc' := 75) C dX10_readStored_74 rfl ?_
          refine r_istore_n (pc' := 76) (ls' := [(0, .ref (gl_b Y + 58)), (1, .int (i32 r5)), (2, .int (i32 r9)), (3, .int (i32 0))]) C (by decide) rfl rfl dX10_readStored_75 rfl ?_
          exact Wa.sub [0, 1, 3] rfl h
        · replace h := h.2 c31
          refine r_iconst (pc' := 73) C dX10_readStored_72 rfl ?_
          exact r_zret C (by decide) ⟨rfl, rfl, h⟩ dX10_readStored_73
def L_X10_makeFixed_2 (Y : Gl) (X : Cx) (P : PN) (x1 : Int) (iv av : IVt) : Prop := Wa Y X 2 (g_MQ Y X 1 (g_N RV 116 P) 0 0) 0 0 2 [(0, .ref (gl_b Y + 58)), (1, .int (i32 x1))] [] RV iv av 116
set_option maxHeartbeats 4000000 in
set_option maxRecDepth 100000 in
theorem w_X10_makeFixed_2 {Y : Gl} {X : Cx} {e : Nat} {P : PN} {x1 : Int} {iv av : IVt} (C : CX Y X RX10 "makeFixed" cX10_makeFixed 2 (some .boolean) (e + 3) 0 0) (hx1 : InR x1) (h :
    ((320 ≤ x1) →
      OkN Y (e + 2) mX9_make [.ref (gl_b Y + 59), .ref (gl_b Y + 71), .int (i32 0), .int (i32 288), .int (i32 0)] RV iv av 116 (fun r2 iv3 av4 =>
        (InR r2) →
        ((r2 = 0) →
          P 0 iv3 av4
        ) ∧
        ((¬ r2 = 0) →
          OkN Y (e + 2) mX9_make [.ref (gl_b Y + 63), .ref (gl_b Y + 71), .int (i32 288), .int (i32 32), .int (i32 0)] RV iv3 av4 116 (fun r7 iv8 av9 =>
            (InR r7) →
            ((r7 = 0) →
              P 0 iv8 av9
            ) ∧
            ((¬ r7 = 0) →
              P 1 iv8 av9
            )
          )
        )
      )
    ) ∧
    ((¬ 320 ≤ x1) →
      ((288 ≤ x1) →
        (0 ≤ x1 ∧ x1 < 320) ∧
        L_X10_makeFixed_2 Y X P (x1 + 1) iv (up2 av 71 x1.toNat 5)
      ) ∧
      ((¬ 288 ≤ x1) →
        OkN Y (e + 2) mX11_fixedLength [.int (i32 x1)] RV iv av 116 (fun r14 iv15 av16 =>
          (InR r14) →
          (0 ≤ x1 ∧ x1 < 320) ∧
          L_X10_makeFixed_2 Y X P (x1 + 1) iv15 (up2 av16 71 x1.toNat r14)
        )
      )
    )) : L_X10_makeFixed_2 Y X P x1 iv av := by
  unfold L_X10_makeFixed_2
  refine r_iload_n (pc' := 3) C 1 rfl rfl dX10_makeFixed_2 rfl ?_
  refine r_aload_n (pc' := 4) C 0 rfl rfl dX10_makeFixed_3 rfl ?_
  refine r_getr (pc' := 7) (k := 58) (r := 71) C fl_X10_24 (by decide) kc_58 (by decide) fr_10_5 RV_58_5 dX10_makeFixed_4 rfl ?_
  refine r_alen (pc' := 8) (k := 71) (v := 320) C (by decide) kc_71 (by decide) (by rw [kl_71]; rfl) dX10_makeFixed_7 rfl ?_
  refine r_icmp_ge (pc' := 11) (tgt := 38) C hx1 (by decide) dX10_makeFixed_8 (by decide) rfl (fun c1 => ?_) (fun c1 => ?_)
  · replace h := h.1 c1
    refine r_aload_n (pc' := 39) C 0 rfl rfl dX10_makeFixed_38 rfl ?_
    refine r_getr (pc' := 42) (k := 58) (r := 59) C fl_X10_12 (by decide) kc_58 (by decide) fr_10_2 RV_58_2 dX10_makeFixed_39 rfl ?_
    refine r_aload_n (pc' := 43) C 0 rfl rfl dX10_makeFixed_42 rfl ?_
    refine r_getr (pc' := 46) (k := 58) (r := 71) C fl_X10_24 (by decide) kc_58 (by decide) fr_10_5 RV_58_5 dX10_makeFixed_43 rfl ?_
    refine r_iconst (pc' := 47) C dX10_makeFixed_46 rfl ?_
    refine r_sipush (pc' := 50) C dX10_makeFixed_47 (by decide) rfl ?_
    refine r_iconst (pc' := 51) C dX10_makeFixed_50 rfl ?_
    refine c_Vi (pc' := 54) (mt := mX9_make) (as := [.ref (gl_b Y + 71), .int (i32 0), .int (i32 288), .int (i32 0)]) (st := []) (k := 59) C h rfl cl_X9_make ml_X10_115 im_X9_make sl_X9_make (by omega) (Nat.le_refl _) (Nat.le_refl _) rfl (by decide) kc_59 (by decide) rfl rfl rfl (Nat.le_of_ble_eq_true rfl) dX10_makeFixed_51 rfl (fun r2 iv3 av4 f5 h => ?_)
    replace h := h f5
    refine r_if_eq (pc' := 57) (tgt := 81) C f5 dX10_makeFixed_54 (by decide) rfl (fun c6 => ?_) (fun c6 => ?_)
    · replace h := h.1 c6
      refine r_iconst (pc' := 82) C dX10_makeFixed_81 rfl ?_
      exact r_zret C (by decide) ⟨rfl, rfl, h⟩ dX10_makeFixed_82
    · replace h := h.2 c6
      refine r_aload_n (pc' := 58) C 0 rfl rfl dX10_makeFixed_57 rfl ?_
      refine r_getr (pc' := 61) (k := 58) (r := 63) C fl_X10_18 (by decide) kc_58 (by decide) fr_10_3 RV_58_3 dX10_makeFixed_58 rfl ?_
      refine r_aload_n (pc' := 62) C 0 rfl rfl dX10_makeFixed_61 rfl ?_
      refine r_getr (pc' := 65) (k := 58) (r := 71) C fl_X10_24 (by decide) kc_58 (by decide) fr_10_5 RV_58_5 dX10_makeFixed_62 rfl ?_
      refine r_sipush (pc' := 68) C dX10_makeFixed_65 (by decide) rfl ?_
      refine r_bipush (pc' := 70) C dX10_makeFixed_68 (by decide) rfl ?_
      refine r_iconst (pc' := 71) C dX10_makeFixed_70 rfl ?_
      refine c_Vi (pc' := 74) (mt := mX9_make) (as := [.ref (gl_b Y + 71), .int (i32 288), .int (i32 32), .int (i32 0)]) (st := []) (k := 63) C h rfl cl_X9_make ml_X10_115 im_X9_make sl_X9_make (by omega) (Nat.le_refl _) (Nat.le_refl _) rfl (by decide) kc_63 (by decide) rfl rfl rfl (Nat.le_of_ble_eq_true rfl) dX10_makeFixed_71 rfl (fun r7 iv8 av9 f10 h => ?_)
      replace h := h f10
      refine r_if_eq (pc' := 77) (tgt := 81) C f10 dX10_makeFixed_74 (by decide) rfl (fun c11 => ?_) (fun c11 => ?_)
      · replace h := h.1 c11
        refine r_iconst (pc' := 82) C dX10_makeFixed_81 rfl ?_
        exact r_zret C (by decide) ⟨rfl, rfl, h⟩ dX10_makeFixed_82
      · replace h := h.2 c11
        refine r_iconst (pc' := 78) C dX10_makeFixed_77 rfl ?_
        refine r_goto (tgt := 82) C dX10_makeFixed_78 (by decide) ?_
        exact r_zret C (by decide) ⟨rfl, rfl, h⟩ dX10_makeFixed_82
  · replace h := h.2 c1
    refine r_aload_n (pc' := 12) C 0 rfl rfl dX10_makeFixed_11 rfl ?_
    refine r_getr (pc' := 15) (k := 58) (r := 71) C fl_X10_24 (by decide) kc_58 (by decide) fr_10_5 RV_58_5 dX10_makeFixed_12 rfl ?_
    refine r_iload_n (pc' := 16) C 1 rfl rfl dX10_makeFixed_15 rfl ?_
    refine r_iload_n (pc' := 17) C 1 rfl rfl dX10_makeFixed_16 rfl ?_
    refine r_sipush (pc' := 20) C dX10_makeFixed_17 (by decide) rfl ?_
    refine r_icmp_ge (pc' := 23) (tgt := 30) C hx1 (by decide) dX10_makeFixed_20 (by decide) rfl (fun c12 => ?_) (fun c12 => ?_)
    · replace h := h.1 c12
      refine r_iconst (pc' := 31) C dX10_makeFixed_30 rfl ?_
      have o13 := h.1
      replace h := h.2
      refine r_iast (pc' := 32) (k := 71) C (by decide) kc_71 (by have := kl_71; omega) (by decide) dX10_makeFixed_31 rfl ?_
      refine r_iinc (pc' := 35) (ls' := [(0, .ref (gl_b Y + 58)), (1, .int (i32 (x1 + 1)))]) C 1 rfl (by decide) rfl dX10_makeFixed_32 rfl ?_
      refine r_goto (tgt := 2) C dX10_makeFixed_35 (by decide) ?_
      exact Wa.sub [0, 1] rfl h
    · replace h := h.2 c12
      refine r_iload_n (pc' := 24) C 1 rfl rfl dX10_makeFixed_23 rfl ?_
      refine c_SNi (pc' := 27) (mt := mX11_fixedLength) (as := [.int (i32 x1)]) (st := [.int (i32 x1), .ref (gl_b Y + 71)]) C h rfl cl_X11_fixedLength nl_X10_112 sm_X11_fixedLength (by omega) (Nat.le_refl _) (Nat.le_refl _) rfl rfl (Nat.le_of_ble_eq_true rfl) dX10_makeFixed_24 rfl (fun r14 iv15 av16 f17 h => ?_)
      replace h := h f17
      refine r_goto (tgt := 31) C dX10_makeFixed_27 (by decide) ?_
      have o18 := h.1
      replace h := h.2
      refine r_iast (pc' := 32) (k := 71) C (by decide) kc_71 (by have := kl_71; omega) f17 dX10_makeFixed_31 rfl ?_
      refine r_iinc (pc' := 35) (ls' := [(0, .ref (gl_b Y + 58)), (1, .int (i32 (x1 + 1)))]) C 1 rfl (by decide) rfl dX10_makeFixed_32 rfl ?_
      refine r_goto (tgt := 2) C dX10_makeFixed_35 (by decide) ?_
      exact Wa.sub [0, 1] rfl h
set_option maxHeartbeats 4000000 in
set_option maxRecDepth 100000 in
theorem o_X10_makeFixed {Y : Gl} {e : Nat} {P : PN} {iv av : IVt} (h : ∀ X : Cx, CX Y X RX10 "makeFixed" cX10_makeFixed 2 (some .boolean) (e + 3) 0 0 →
    L_X10_makeFixed_2 Y X P 0 iv av) : OkN Y (e + 3) mX10_makeFixed [.ref (gl_b Y + 58)] RV iv av 116 P := by
  refine OkW.of rfl (by show _ ≤ 2; exact Nat.le_of_ble_eq_true rfl) fun X C0 hR => ?_
  have C : CX Y X RX10 "makeFixed" cX10_makeFixed 2 (some .boolean) (e + 3) 0 0 := C0
  replace h := h X C
  show Wa Y X 2 (g_MQ Y X 1 (g_N RV 116 P) 0 0) 0 0 0 [(0, .ref (gl_b Y + 58))] [] RV iv av 116
  refine r_iconst (pc' := 1) C dX10_makeFixed_0 rfl ?_
  refine r_istore_n (pc' := 2) (ls' := [(0, .ref (gl_b Y + 58)), (1, .int (i32 0))]) C (by decide) rfl rfl dX10_makeFixed_1 rfl ?_
  exact Wa.sub [0, 1] rfl h
def L_X10_readSizes_43 (Y : Gl) (X : Cx) (P : PN) (x1 : Int) (x2 : Int) (iv av : IVt) : Prop := Wa Y X 5 (g_MQ Y X 1 (g_N RV 116 P) 0 0) 0 0 43 [(0, .ref (gl_b Y + 58)), (1, .int (i32 x1)), (2, .int (i32 x2))] [] RV iv av 116
def L_X10_readSizes_73 (Y : Gl) (X : Cx) (P : PN) (x1 : Int) (x2 : Int) (x3 : Int) (x4 : Int) (iv av : IVt) : Prop := Wa Y X 5 (g_MQ Y X 1 (g_N RV 116 P) 0 0) 0 0 73 [(0, .ref (gl_b Y + 58)), (1, .int (i32 x1)), (2, .int (i32 x2)), (3, .int (i32 x3)), (4, .int (i32 x4))] [] RV iv av 116
def L_X10_readSizes_94 (Y : Gl) (X : Cx) (P : PN) (x1 : Int) (x2 : Int) (iv av : IVt) : Prop := Wa Y X 5 (g_MQ Y X 1 (g_N RV 116 P) 0 0) 0 0 94 [(0, .ref (gl_b Y + 58)), (1, .int (i32 x1)), (2, .int (i32 x2))] [] RV iv av 116
def L_X10_readSizes_151 (Y : Gl) (X : Cx) (P : PN) (iv av : IVt) : Prop := Wa Y X 5 (g_MQ Y X 1 (g_N RV 116 P) 0 0) 0 0 151 [] [] RV iv av 116
set_option maxHeartbeats 4000000 in
set_option maxRecDepth 100000 in
theorem w_X10_readSizes_151 {Y : Gl} {X : Cx} {e : Nat} {P : PN} {iv av : IVt} (C : CX Y X RX10 "readSizes" cX10_readSizes 5 (some .boolean) (e + 3) 0 0) (h :
    P 0 iv av) : L_X10_readSizes_151 Y X P iv av := by
  unfold L_X10_readSizes_151
  refine r_iconst (pc' := 152) C dX10_readSizes_151 rfl ?_
  exact r_zret C (by decide) ⟨rfl, rfl, h⟩ dX10_readSizes_152
set_option maxHeartbeats 4000000 in
set_option maxRecDepth 100000 in
theorem w_X10_readSizes_94 {Y : Gl} {X : Cx} {e : Nat} {P : PN} {x1 : Int} {x2 : Int} {iv av : IVt} (C : CX Y X RX10 "readSizes" cX10_readSizes 5 (some .boolean) (e + 3) 0 0) (h :
    L_X10_readSizes_43 Y X P x1 (x2 + 1) iv av) : L_X10_readSizes_94 Y X P x1 x2 iv av := by
  unfold L_X10_readSizes_94
  refine r_iinc (pc' := 97) (ls' := [(0, .ref (gl_b Y + 58)), (1, .int (i32 x1)), (2, .int (i32 (x2 + 1)))]) C 2 rfl (by decide) rfl dX10_readSizes_94 rfl ?_
  refine r_goto (tgt := 43) C dX10_readSizes_97 (by decide) ?_
  exact Wa.sub [0, 1, 2] rfl h
set_option maxHeartbeats 4000000 in
set_option maxRecDepth 100000 in
theorem w_X10_readSizes_73 {Y : Gl} {X : Cx} {e : Nat} {P : PN} {x1 : Int} {x2 : Int} {x3 : Int} {x4 : Int} {iv av : IVt} (C : CX Y X RX10 "readSizes" cX10_readSizes 5 (some .boolean) (e + 3) 0 0) (hx3 : InR x3) (hx4 : InR x4) (h :
    ((x3 < 0) →
      L_X10_readSizes_94 Y X P x1 x2 iv av
    ) ∧
    ((¬ x3 < 0) →
      ((320 ≤ x3) →
        L_X10_readSizes_94 Y X P x1 x2 iv av
      ) ∧
      ((¬ 320 ≤ x3) →
        (0 ≤ x3 ∧ x3 < 320) ∧
        L_X10_readSizes_94 Y X P x1 x2 iv (up2 av 71 x3.toNat x4)
      )
    )) : L_X10_readSizes_73 Y X P x1 x2 x3 x4 iv av := by
  unfold L_X10_readSizes_73
  refine r_iload_n (pc' := 74) C 3 rfl rfl dX10_readSizes_73 rfl ?_
  refine r_if_lt (pc' := 77) (tgt := 94) C hx3 dX10_readSizes_74 (by decide) rfl (fun c1 => ?_) (fun c1 => ?_)
  · replace h := h.1 c1
    exact Wa.sub [0, 1, 2] rfl h
  · replace h := h.2 c1
    refine r_iload_n (pc' := 78) C 3 rfl rfl dX10_readSizes_77 rfl ?_
    refine r_aload_n (pc' := 79) C 0 rfl rfl dX10_readSizes_78 rfl ?_
    refine r_getr (pc' := 82) (k := 58) (r := 71) C fl_X10_24 (by decide) kc_58 (by decide) fr_10_5 RV_58_5 dX10_readSizes_79 rfl ?_
    refine r_alen (pc' := 83) (k := 71) (v := 320) C (by decide) kc_71 (by decide) (by rw [kl_71]; rfl) dX10_readSizes_82 rfl ?_
    refine r_icmp_ge (pc' := 86) (tgt := 94) C hx3 (by decide) dX10_readSizes_83 (by decide) rfl (fun c2 => ?_) (fun c2 => ?_)
    · replace h := h.1 c2
      exact Wa.sub [0, 1, 2] rfl h
    · replace h := h.2 c2
      refine r_aload_n (pc' := 87) C 0 rfl rfl dX10_readSizes_86 rfl ?_
      refine r_getr (pc' := 90) (k := 58) (r := 71) C fl_X10_24 (by decide) kc_58 (by decide) fr_10_5 RV_58_5 dX10_readSizes_87 rfl ?_
      refine r_iload_n (pc' := 91) C 3 rfl rfl dX10_readSizes_90 rfl ?_
      refine r_iload (pc' := 93) C 4 rfl dX10_readSizes_91 rfl ?_
      have o3 := h.1
      replace h := h.2
      refine r_iast (pc' := 94) (k := 71) C (by decide) kc_71 (by have := kl_71; omega) hx4 dX10_readSizes_93 rfl ?_
      exact Wa.sub [0, 1, 2] rfl h
set_option maxHeartbeats 4000000 in
set_option maxRecDepth 100000 in
theorem w_X10_readSizes_43 {Y : Gl} {X : Cx} {e : Nat} {P : PN} {x1 : Int} {x2 : Int} {iv av : IVt} (C : CX Y X RX10 "readSizes" cX10_readSizes 5 (some .boolean) (e + 3) 0 0) (hx1 : InR x1) (hx2 : InR x2) (h :
    ((19 ≤ x2) →
      OkN Y (e + 2) mX1_isMissing [.ref (gl_b Y + 72)] RV iv av 116 (fun r2 iv3 av4 =>
        (InR r2) →
        ((¬ r2 = 0) →
          L_X10_readSizes_151 Y X P iv3 av4
        ) ∧
        ((r2 = 0) →
          ((InR (iv3 58 6)) →
            ((286 < (iv3 58 6)) →
              L_X10_readSizes_151 Y X P iv3 av4
            ) ∧
            ((¬ 286 < (iv3 58 6)) →
              ((InR (iv3 58 7)) →
                ((30 < (iv3 58 7)) →
                  L_X10_readSizes_151 Y X P iv3 av4
                ) ∧
                ((¬ 30 < (iv3 58 7)) →
                  OkN Y (e + 2) mX9_make [.ref (gl_b Y + 67), .ref (gl_b Y + 71), .int (i32 0), .int (i32 19), .int (i32 0)] RV iv3 av4 116 (fun r11 iv12 av13 =>
                    (InR r11) →
                    ((r11 = 0) →
                      L_X10_readSizes_151 Y X P iv12 av13
                    ) ∧
                    ((¬ r11 = 0) →
                      P 1 iv12 av13
                    )
                  )
                )
              )
            )
          )
        )
      )
    ) ∧
    ((¬ 19 ≤ x2) →
      OkN Y (e + 2) mX11_ordered [.int (i32 x2)] RV iv av 116 (fun r16 iv17 av18 =>
        (InR r16) →
        ((x1 ≤ x2) →
          L_X10_readSizes_73 Y X P x1 x2 r16 0 iv17 av18
        ) ∧
        ((¬ x1 ≤ x2) →
          OkN Y (e + 2) mX1_bits [.ref (gl_b Y + 72), .int (i32 3)] RV iv17 av18 116 (fun r21 iv22 av23 =>
            (InR r21) →
            L_X10_readSizes_73 Y X P x1 x2 r16 r21 iv22 av23
          )
        )
      )
    )) : L_X10_readSizes_43 Y X P x1 x2 iv av := by
  unfold L_X10_readSizes_43
  refine r_iload_n (pc' := 44) C 2 rfl rfl dX10_readSizes_43 rfl ?_
  refine r_bipush (pc' := 46) C dX10_readSizes_44 (by decide) rfl ?_
  refine r_icmp_ge (pc' := 49) (tgt := 100) C hx2 (by decide) dX10_readSizes_46 (by decide) rfl (fun c1 => ?_) (fun c1 => ?_)
  · replace h := h.1 c1
    refine r_aload_n (pc' := 101) C 0 rfl rfl dX10_readSizes_100 rfl ?_
    refine r_getr (pc' := 104) (k := 58) (r := 72) C fl_X10_33 (by decide) kc_58 (by decide) fr_10_0 RV_58_0 dX10_readSizes_101 rfl ?_
    refine c_Vi (pc' := 107) (mt := mX1_isMissing) (as := []) (st := []) (k := 72) C h rfl cl_X1_isMissing ml_X10_86 im_X1_isMissing sl_X1_isMissing (by omega) (Nat.le_refl _) (Nat.le_refl _) rfl (by decide) kc_72 (by decide) rfl rfl rfl (Nat.le_of_ble_eq_true rfl) dX10_readSizes_104 rfl (fun r2 iv3 av4 f5 h => ?_)
    replace h := h f5
    refine r_if_ne (pc' := 110) (tgt := 151) C f5 dX10_readSizes_107 (by decide) rfl (fun c6 => ?_) (fun c6 => ?_)
    · replace h := h.1 c6
      exact Wa.sub [] rfl h
    · replace h := h.2 c6
      refine r_aload_n (pc' := 111) C 0 rfl rfl dX10_readSizes_110 rfl ?_
      refine r_geti (pc' := 114) (k := 58) C fl_X10_119 (by decide) kc_58 (by decide) fr_10_6 dX10_readSizes_111 rfl (fun f7 => ?_)
      replace h := h f7
      refine r_sipush (pc' := 117) C dX10_readSizes_114 (by decide) rfl ?_
      refine r_icmp_gt (pc' := 120) (tgt := 151) C f7 (by decide) dX10_readSizes_117 (by decide) rfl (fun c8 => ?_) (fun c8 => ?_)
      · replace h := h.1 c8
        exact Wa.sub [] rfl h
      · replace h := h.2 c8
        refine r_aload_n (pc' := 121) C 0 rfl rfl dX10_readSizes_120 rfl ?_
        refine r_geti (pc' := 124) (k := 58) C fl_X10_122 (by decide) kc_58 (by decide) fr_10_7 dX10_readSizes_121 rfl (fun f9 => ?_)
        replace h := h f9
        refine r_bipush (pc' := 126) C dX10_readSizes_124 (by decide) rfl ?_
        refine r_icmp_gt (pc' := 129) (tgt := 151) C f9 (by decide) dX10_readSizes_126 (by decide) rfl (fun c10 => ?_) (fun c10 => ?_)
        · replace h := h.1 c10
          exact Wa.sub [] rfl h
        · replace h := h.2 c10
          refine r_aload_n (pc' := 130) C 0 rfl rfl dX10_readSizes_129 rfl ?_
          refine r_getr (pc' := 133) (k := 58) (r := 67) C fl_X10_21 (by decide) kc_58 (by decide) fr_10_4 RV_58_4 dX10_readSizes_130 rfl ?_
          refine r_aload_n (pc' := 134) C 0 rfl rfl dX10_readSizes_133 rfl ?_
          refine r_getr (pc' := 137) (k := 58) (r := 71) C fl_X10_24 (by decide) kc_58 (by decide) fr_10_5 RV_58_5 dX10_readSizes_134 rfl ?_
          refine r_iconst (pc' := 138) C dX10_readSizes_137 rfl ?_
          refine r_bipush (pc' := 140) C dX10_readSizes_138 (by decide) rfl ?_
          refine r_iconst (pc' := 141) C dX10_readSizes_140 rfl ?_
          refine c_Vi (pc' := 144) (mt := mX9_make) (as := [.ref (gl_b Y + 71), .int (i32 0), .int (i32 19), .int (i32 0)]) (st := []) (k := 67) C h rfl cl_X9_make ml_X10_115 im_X9_make sl_X9_make (by omega) (Nat.le_refl _) (Nat.le_refl _) rfl (by decide) kc_67 (by decide) rfl rfl rfl (Nat.le_of_ble_eq_true rfl) dX10_readSizes_141 rfl (fun r11 iv12 av13 f14 h => ?_)
          replace h := h f14
          refine r_if_eq (pc' := 147) (tgt := 151) C f14 dX10_readSizes_144 (by decide) rfl (fun c15 => ?_) (fun c15 => ?_)
          · replace h := h.1 c15
            exact Wa.sub [] rfl h
          · replace h := h.2 c15
            refine r_iconst (pc' := 148) C dX10_readSizes_147 rfl ?_
            refine r_goto (tgt := 152) C dX10_readSizes_148 (by decide) ?_
            exact r_zret C (by decide) ⟨rfl, rfl, h⟩ dX10_readSizes_152
  · replace h := h.2 c1
    refine r_iload_n (pc' := 50) C 2 rfl rfl dX10_readSizes_49 rfl ?_
    refine c_SNi (pc' := 53) (mt := mX11_ordered) (as := [.int (i32 x2)]) (st := []) C h rfl cl_X11_ordered nl_X10_125 sm_X11_ordered (by omega) (Nat.le_refl _) (Nat.le_refl _) rfl rfl (Nat.le_of_ble_eq_true rfl) dX10_readSizes_50 rfl (fun r16 iv17 av18 f19 h => ?_)
    replace h := h f19
    refine r_istore_n (pc' := 54) (ls' := [(0, .ref (gl_b Y + 58)), (1, .int (i32 x1)), (2, .int (i32 x2)), (3, .int (i32 r16))]) C (by decide) rfl rfl dX10_readSizes_53 rfl ?_
    refine r_iload_n (pc' := 55) C 2 rfl rfl dX10_readSizes_54 rfl ?_
    refine r_iload_n (pc' := 56) C 1 rfl rfl dX10_readSizes_55 rfl ?_
    refine r_icmp_ge (pc' := 59) (tgt := 70) C hx2 hx1 dX10_readSizes_56 (by decide) rfl (fun c20 => ?_) (fun c20 => ?_)
    · replace h := h.1 c20
      refine r_iconst (pc' := 71) C dX10_readSizes_70 rfl ?_
      refine r_istore (pc' := 73) (ls' := [(0, .ref (gl_b Y + 58)), (1, .int (i32 x1)), (2, .int (i32 x2)), (3, .int (i32 r16)), (4, .int (i32 0))]) C (by decide) rfl dX10_readSizes_71 rfl ?_
      exact Wa.sub [0, 1, 2, 3, 4] rfl h
    · replace h := h.2 c20
      refine r_aload_n (pc' := 60) C 0 rfl rfl dX10_readSizes_59 rfl ?_
      refine r_getr (pc' := 63) (k := 58) (r := 72) C fl_X10_33 (by decide) kc_58 (by decide) fr_10_0 RV_58_0 dX10_readSizes_60 rfl ?_
      refine r_iconst (pc' := 64) C dX10_readSizes_63 rfl ?_
      refine c_Vi (pc' := 67) (mt := mX1_bits) (as := [.int (i32 3)]) (st := []) (k := 72) C h rfl cl_X1_bits ml_X10_64 im_X1_bits sl_X1_bits (by omega) (Nat.le_refl _) (Nat.le_refl _) rfl (by decide) kc_72 (by decide) rfl rfl rfl (Nat.le_of_ble_eq_true rfl) dX10_readSizes_64 rfl (fun r21 iv22 av23 f24 h => ?_)
      replace h := h f24
      refine r_goto (tgt := 71) C dX10_readSizes_67 (by decide) ?_
      refine r_istore (pc' := 73) (ls' := [(0, .ref (gl_b Y + 58)), (1, .int (i32 x1)), (2, .int (i32 x2)), (3, .int (i32 r16)), (4, .int (i32 r21))]) C (by decide) rfl dX10_readSizes_71 rfl ?_
      exact Wa.sub [0, 1, 2, 3, 4] rfl h
set_option maxHeartbeats 4000000 in
set_option maxRecDepth 100000 in
theorem o_X10_readSizes {Y : Gl} {e : Nat} {P : PN} {iv av : IVt} (h : ∀ X : Cx, CX Y X RX10 "readSizes" cX10_readSizes 5 (some .boolean) (e + 3) 0 0 →
    OkN Y (e + 2) mX1_bits [.ref (gl_b Y + 72), .int (i32 5)] RV iv av 116 (fun r1 iv2 av3 =>
      (InR r1) →
      (InR (r1 + 257)) ∧
      OkN Y (e + 2) mX1_bits [.ref (gl_b Y + 72), .int (i32 5)] RV (up2 iv2 58 6 (r1 + 257)) av3 116 (fun r6 iv7 av8 =>
        (InR r6) →
        (InR (r6 + 1)) ∧
        OkN Y (e + 2) mX1_bits [.ref (gl_b Y + 72), .int (i32 4)] RV (up2 iv7 58 7 (r6 + 1)) av8 116 (fun r11 iv12 av13 =>
          (InR r11) →
          L_X10_readSizes_43 Y X P (r11 + 4) 0 iv12 av13
        )
      )
    )) : OkN Y (e + 3) mX10_readSizes [.ref (gl_b Y + 58)] RV iv av 116 P := by
  refine OkW.of rfl (by show _ ≤ 5; exact Nat.le_of_ble_eq_true rfl) fun X C0 hR => ?_
  have C : CX Y X RX10 "readSizes" cX10_readSizes 5 (some .boolean) (e + 3) 0 0 := C0
  replace h := h X C
  show Wa Y X 5 (g_MQ Y X 1 (g_N RV 116 P) 0 0) 0 0 0 [(0, .ref (gl_b Y + 58))] [] RV iv av 116
  refine r_aload_n (pc' := 1) C 0 rfl rfl dX10_readSizes_0 rfl ?_
  refine r_aload_n (pc' := 2) C 0 rfl rfl dX10_readSizes_1 rfl ?_
  refine r_getr (pc' := 5) (k := 58) (r := 72) C fl_X10_33 (by decide) kc_58 (by decide) fr_10_0 RV_58_0 dX10_readSizes_2 rfl ?_
  refine r_iconst (pc' := 6) C dX10_readSizes_5 rfl ?_
  refine c_Vi (pc' := 9) (mt := mX1_bits) (as := [.int (i32 5)]) (st := [.ref (gl_b Y + 58)]) (k := 72) C h rfl cl_X1_bits ml_X10_64 im_X1_bits sl_X1_bits (by omega) (Nat.le_refl _) (Nat.le_refl _) rfl (by decide) kc_72 (by decide) rfl rfl rfl (Nat.le_of_ble_eq_true rfl) dX10_readSizes_6 rfl (fun r1 iv2 av3 f4 h => ?_)
  replace h := h f4
  refine r_sipush (pc' := 12) C dX10_readSizes_9 (by decide) rfl ?_
  refine r_iadd (pc' := 13) C dX10_readSizes_12 rfl ?_
  have o5 := h.1
  replace h := h.2
  refine r_puti (pc' := 16) (k := 58) C fl_X10_119 (by decide) kc_58 (by decide) fr_10_6 o5 dX10_readSizes_13 rfl ?_
  refine r_aload_n (pc' := 17) C 0 rfl rfl dX10_readSizes_16 rfl ?_
  refine r_aload_n (pc' := 18) C 0 rfl rfl dX10_readSizes_17 rfl ?_
  refine r_getr (pc' := 21) (k := 58) (r := 72) C fl_X10_33 (by decide) kc_58 (by decide) fr_10_0 RV_58_0 dX10_readSizes_18 rfl ?_
  refine r_iconst (pc' := 22) C dX10_readSizes_21 rfl ?_
  refine c_Vi (pc' := 25) (mt := mX1_bits) (as := [.int (i32 5)]) (st := [.ref (gl_b Y + 58)]) (k := 72) C h rfl cl_X1_bits ml_X10_64 im_X1_bits sl_X1_bits (by omega) (Nat.le_refl _) (Nat.le_refl _) rfl (by decide) kc_72 (by decide) rfl rfl rfl (Nat.le_of_ble_eq_true rfl) dX10_readSizes_22 rfl (fun r6 iv7 av8 f9 h => ?_)
  replace h := h f9
  refine r_iconst (pc' := 26) C dX10_readSizes_25 rfl ?_
  refine r_iadd (pc' := 27) C dX10_readSizes_26 rfl ?_
  have o10 := h.1
  replace h := h.2
  refine r_puti (pc' := 30) (k := 58) C fl_X10_122 (by decide) kc_58 (by decide) fr_10_7 o10 dX10_readSizes_27 rfl ?_
  refine r_aload_n (pc' := 31) C 0 rfl rfl dX10_readSizes_30 rfl ?_
  refine r_getr (pc' := 34) (k := 58) (r := 72) C fl_X10_33 (by decide) kc_58 (by decide) fr_10_0 RV_58_0 dX10_readSizes_31 rfl ?_
  refine r_iconst (pc' := 35) C dX10_readSizes_34 rfl ?_
  refine c_Vi (pc' := 38) (mt := mX1_bits) (as := [.int (i32 4)]) (st := []) (k := 72) C h rfl cl_X1_bits ml_X10_64 im_X1_bits sl_X1_bits (by omega) (Nat.le_refl _) (Nat.le_refl _) rfl (by decide) kc_72 (by decide) rfl rfl rfl (Nat.le_of_ble_eq_true rfl) dX10_readSizes_35 rfl (fun r11 iv12 av13 f14 h => ?_)
  replace h := h f14
  refine r_iconst (pc' := 39) C dX10_readSizes_38 rfl ?_
  refine r_iadd (pc' := 40) C dX10_readSizes_39 rfl ?_
  refine r_istore_n (pc' := 41) (ls' := [(0, .ref (gl_b Y + 58)), (1, .int (i32 (r11 + 4)))]) C (by decide) rfl rfl dX10_readSizes_40 rfl ?_
  refine r_iconst (pc' := 42) C dX10_readSizes_41 rfl ?_
  refine r_istore_n (pc' := 43) (ls' := [(0, .ref (gl_b Y + 58)), (1, .int (i32 (r11 + 4))), (2, .int (i32 0))]) C (by decide) rfl rfl dX10_readSizes_42 rfl ?_
  exact Wa.sub [0, 1, 2] rfl h
def L_X10_readLengths_12 (Y : Gl) (X : Cx) (P : PN) (x1 : Int) (x2 : Int) (iv av : IVt) : Prop := Wa Y X 7 (g_MQ Y X 1 (g_N RV 116 P) 0 0) 0 0 12 [(0, .ref (gl_b Y + 58)), (1, .int (i32 x1)), (2, .int (i32 x2))] [] RV iv av 116
def L_X10_readLengths_59 (Y : Gl) (X : Cx) (P : PN) (x1 : Int) (x2 : Int) (x3 : Int) (x4 : Int) (iv av : IVt) : Prop := Wa Y X 7 (g_MQ Y X 1 (g_N RV 116 P) 0 0) 0 0 59 [(0, .ref (gl_b Y + 58)), (1, .int (i32 x1)), (2, .int (i32 x2)), (3, .int (i32 x3)), (4, .int (i32 x4))] [] RV iv av 116
def L_X10_readLengths_99 (Y : Gl) (X : Cx) (P : PN) (x1 : Int) (x2 : Int) (x3 : Int) (x4 : Int) (iv av : IVt) : Prop := Wa Y X 7 (g_MQ Y X 1 (g_N RV 116 P) 0 0) 0 0 99 [(0, .ref (gl_b Y + 58)), (1, .int (i32 x1)), (2, .int (i32 x2)), (3, .int (i32 x3)), (4, .int (i32 x4))] [] RV iv av 116
def L_X10_readLengths_107 (Y : Gl) (X : Cx) (P : PN) (iv av : IVt) : Prop := Wa Y X 7 (g_MQ Y X 1 (g_N RV 116 P) 0 0) 0 0 107 [] [] RV iv av 116
def L_X10_readLengths_122 (Y : Gl) (X : Cx) (P : PN) (x1 : Int) (x2 : Int) (x3 : Int) (x4 : Int) (x5 : Int) (iv av : IVt) : Prop := Wa Y X 7 (g_MQ Y X 1 (g_N RV 116 P) 0 0) 0 0 122 [(0, .ref (gl_b Y + 58)), (1, .int (i32 x1)), (2, .int (i32 x2)), (3, .int (i32 x3)), (4, .int (i32 x4)), (5, .int (i32 x5))] [] RV iv av 116
def L_X10_readLengths_151 (Y : Gl) (X : Cx) (P : PN) (x1 : Int) (x2 : Int) (x4 : Int) (x5 : Int) (iv av : IVt) : Prop := Wa Y X 7 (g_MQ Y X 1 (g_N RV 116 P) 0 0) 0 0 151 [(0, .ref (gl_b Y + 58)), (1, .int (i32 x1)), (2, .int (i32 x2)), (4, .int (i32 x4)), (5, .int (i32 x5))] [] RV iv av 116
def L_X10_readLengths_154 (Y : Gl) (X : Cx) (P : PN) (x1 : Int) (x2 : Int) (x4 : Int) (x5 : Int) (x6 : Int) (iv av : IVt) : Prop := Wa Y X 7 (g_MQ Y X 1 (g_N RV 116 P) 0 0) 0 0 154 [(0, .ref (gl_b Y + 58)), (1, .int (i32 x1)), (2, .int (i32 x2)), (4, .int (i32 x4)), (5, .int (i32 x5)), (6, .int (i32 x6))] [] RV iv av 116
set_option maxHeartbeats 4000000 in
set_option maxRecDepth 100000 in
theorem w_X10_readLengths_154 {Y : Gl} {X : Cx} {e : Nat} {P : PN} {x1 : Int} {x2 : Int} {x4 : Int} {x5 : Int} {x6 : Int} {iv av : IVt} (C : CX Y X RX10 "readLengths" cX10_readLengths 7 (some .boolean) (e + 3) 0 0) (hx5 : InR x5) (hx6 : InR x6) (h :
    (InR (x2 + x4)) ∧
    (((x2 + x4) ≤ x6) →
      L_X10_readLengths_12 Y X P x1 (x2 + x4) iv av
    ) ∧
    ((¬ (x2 + x4) ≤ x6) →
      ((320 ≤ x6) →
        L_X10_readLengths_12 Y X P x1 (x2 + x4) iv av
      ) ∧
      ((¬ 320 ≤ x6) →
        (0 ≤ x6 ∧ x6 < 320) ∧
        L_X10_readLengths_154 Y X P x1 x2 x4 x5 (x6 + 1) iv (up2 av 71 x6.toNat x5)
      )
    )) : L_X10_readLengths_154 Y X P x1 x2 x4 x5 x6 iv av := by
  unfold L_X10_readLengths_154
  refine r_iload (pc' := 156) C 5 rfl dX10_readLengths_154 rfl ?_
  refine r_iload_n (pc' := 157) C 2 rfl rfl dX10_readLengths_156 rfl ?_
  refine r_iload (pc' := 159) C 3 rfl dX10_readLengths_157 rfl ?_
  refine r_iadd (pc' := 160) C dX10_readLengths_159 rfl ?_
  have o1 := h.1
  replace h := h.2
  refine r_icmp_ge (pc' := 163) (tgt := 188) C hx6 o1 dX10_readLengths_160 (by decide) rfl (fun c2 => ?_) (fun c2 => ?_)
  · replace h := h.1 c2
    refine r_iload_n (pc' := 189) C 2 rfl rfl dX10_readLengths_188 rfl ?_
    refine r_iload (pc' := 191) C 3 rfl dX10_readLengths_189 rfl ?_
    refine r_iadd (pc' := 192) C dX10_readLengths_191 rfl ?_
    refine r_istore_n (pc' := 193) (ls' := [(0, .ref (gl_b Y + 58)), (1, .int (i32 x1)), (2, .int (i32 (x2 + x4))), (4, .int (i32 x4)), (5, .int (i32 x5)), (6, .int (i32 x6))]) C (by decide) rfl rfl dX10_readLengths_192 rfl ?_
    refine r_goto (tgt := 12) C dX10_readLengths_193 (by decide) ?_
    exact Wa.sub [0, 1, 2] rfl h
  · replace h := h.2 c2
    refine r_iload (pc' := 165) C 5 rfl dX10_readLengths_163 rfl ?_
    refine r_aload_n (pc' := 166) C 0 rfl rfl dX10_readLengths_165 rfl ?_
    refine r_getr (pc' := 169) (k := 58) (r := 71) C fl_X10_24 (by decide) kc_58 (by decide) fr_10_5 RV_58_5 dX10_readLengths_166 rfl ?_
    refine r_alen (pc' := 170) (k := 71) (v := 320) C (by decide) kc_71 (by decide) (by rw [kl_71]; rfl) dX10_readLengths_169 rfl ?_
    refine r_icmp_ge (pc' := 173) (tgt := 188) C hx6 (by decide) dX10_readLengths_170 (by decide) rfl (fun c3 => ?_) (fun c3 => ?_)
    · replace h := h.1 c3
      refine r_iload_n (pc' := 189) C 2 rfl rfl dX10_readLengths_188 rfl ?_
      refine r_iload (pc' := 191) C 3 rfl dX10_readLengths_189 rfl ?_
      refine r_iadd (pc' := 192) C dX10_readLengths_191 rfl ?_
      refine r_istore_n (pc' := 193) (ls' := [(0, .ref (gl_b Y + 58)), (1, .int (i32 x1)), (2, .int (i32 (x2 + x4))), (4, .int (i32 x4)), (5, .int (i32 x5)), (6, .int (i32 x6))]) C (by decide) rfl rfl dX10_readLengths_192 rfl ?_
      refine r_goto (tgt := 12) C dX10_readLengths_193 (by decide) ?_
      exact Wa.sub [0, 1, 2] rfl h
    · replace h := h.2 c3
      refine r_aload_n (pc' := 174) C 0 rfl rfl dX10_readLengths_173 rfl ?_
      refine r_getr (pc' := 177) (k := 58) (r := 71) C fl_X10_24 (by decide) kc_58 (by decide) fr_10_5 RV_58_5 dX10_readLengths_174 rfl ?_
      refine r_iload (pc' := 179) C 5 rfl dX10_readLengths_177 rfl ?_
      refine r_iload (pc' := 181) C 4 rfl dX10_readLengths_179 rfl ?_
      have o4 := h.1
      replace h := h.2
      refine r_iast (pc' := 182) (k := 71) C (by decide) kc_71 (by have := kl_71; omega) hx5 dX10_readLengths_181 rfl ?_
      refine r_iinc (pc' := 185) (ls' := [(0, .ref (gl_b Y + 58)), (1, .int (i32 x1)), (2, .int (i32 x2)), (4, .int (i32 x4)), (5, .int (i32 x5)), (6, .int (i32 (x6 + 1)))]) C 5 rfl (by decide) rfl dX10_readLengths_182 rfl ?_
      refine r_goto (tgt := 154) C dX10_readLengths_185 (by decide) ?_
      exact Wa.sub [0, 1, 2, 3, 4, 5] rfl h
set_option maxHeartbeats 4000000 in
set_option maxRecDepth 100000 in
theorem w_X10_readLengths_151 {Y : Gl} {X : Cx} {e : Nat} {P : PN} {x1 : Int} {x2 : Int} {x4 : Int} {x5 : Int} {iv av : IVt} (C : CX Y X RX10 "readLengths" cX10_readLengths 7 (some .boolean) (e + 3) 0 0) (h :
    L_X10_readLengths_154 Y X P x1 x2 x4 x5 x2 iv av) : L_X10_readLengths_151 Y X P x1 x2 x4 x5 iv av := by
  unfold L_X10_readLengths_151
  refine r_iload_n (pc' := 152) C 2 rfl rfl dX10_readLengths_151 rfl ?_
  refine r_istore (pc' := 154) (ls' := [(0, .ref (gl_b Y + 58)), (1, .int (i32 x1)), (2, .int (i32 x2)), (4, .int (i32 x4)), (5, .int (i32 x5)), (6, .int (i32 x2))]) C (by decide) rfl dX10_readLengths_152 rfl ?_
  exact Wa.sub [0, 1, 2, 3, 4, 5] rfl h
set_option maxHeartbeats 4000000 in
set_option maxRecDepth 100000 in
theorem w_X10_readLengths_122 {Y : Gl} {X : Cx} {e : Nat} {P : PN} {x1 : Int} {x2 : Int} {x3 : Int} {x4 : Int} {x5 : Int} {iv av : IVt} (C : CX Y X RX10 "readLengths" cX10_readLengths 7 (some .boolean) (e + 3) 0 0) (hx2 : InR x2) (hx3 : InR x3) (h :
    ((¬ x3 = 16) →
      L_X10_readLengths_151 Y X P x1 x2 x4 x5 iv av
    ) ∧
    ((x3 = 16) →
      ((x2 ≤ 0) →
        L_X10_readLengths_151 Y X P x1 x2 x4 x5 iv av
      ) ∧
      ((¬ x2 ≤ 0) →
        ((320 < x2) →
          L_X10_readLengths_151 Y X P x1 x2 x4 x5 iv av
        ) ∧
        ((¬ 320 < x2) →
          (0 ≤ (x2 - 1) ∧ (x2 - 1) < 320) ∧
          ((InR (av 71 (x2 - 1).toNat)) →
            L_X10_readLengths_151 Y X P x1 x2 x4 (av 71 (x2 - 1).toNat) iv av
          )
        )
      )
    )) : L_X10_readLengths_122 Y X P x1 x2 x3 x4 x5 iv av := by
  unfold L_X10_readLengths_122
  refine r_iload_n (pc' := 123) C 3 rfl rfl dX10_readLengths_122 rfl ?_
  refine r_bipush (pc' := 125) C dX10_readLengths_123 (by decide) rfl ?_
  refine r_icmp_ne (pc' := 128) (tgt := 151) C hx3 (by decide) dX10_readLengths_125 (by decide) rfl (fun c1 => ?_) (fun c1 => ?_)
  · replace h := h.1 c1
    exact Wa.sub [0, 1, 2, 4, 5] rfl h
  · replace h := h.2 c1
    refine r_iload_n (pc' := 129) C 2 rfl rfl dX10_readLengths_128 rfl ?_
    refine r_if_le (pc' := 132) (tgt := 151) C hx2 dX10_readLengths_129 (by decide) rfl (fun c2 => ?_) (fun c2 => ?_)
    · replace h := h.1 c2
      exact Wa.sub [0, 1, 2, 4, 5] rfl h
    · replace h := h.2 c2
      refine r_iload_n (pc' := 133) C 2 rfl rfl dX10_readLengths_132 rfl ?_
      refine r_aload_n (pc' := 134) C 0 rfl rfl dX10_readLengths_133 rfl ?_
      refine r_getr (pc' := 137) (k := 58) (r := 71) C fl_X10_24 (by decide) kc_58 (by decide) fr_10_5 RV_58_5 dX10_readLengths_134 rfl ?_
      refine r_alen (pc' := 138) (k := 71) (v := 320) C (by decide) kc_71 (by decide) (by rw [kl_71]; rfl) dX10_readLengths_137 rfl ?_
      refine r_icmp_gt (pc' := 141) (tgt := 151) C hx2 (by decide) dX10_readLengths_138 (by decide) rfl (fun c3 => ?_) (fun c3 => ?_)
      · replace h := h.1 c3
        exact Wa.sub [0, 1, 2, 4, 5] rfl h
      · replace h := h.2 c3
        refine r_aload_n (pc' := 142) C 0 rfl rfl dX10_readLengths_141 rfl ?_
        refine r_getr (pc' := 145) (k := 58) (r := 71) C fl_X10_24 (by decide) kc_58 (by decide) fr_10_5 RV_58_5 dX10_readLengths_142 rfl ?_
        refine r_iload_n (pc' := 146) C 2 rfl rfl dX10_readLengths_145 rfl ?_
        refine r_iconst (pc' := 147) C dX10_readLengths_146 rfl ?_
        refine r_isub (pc' := 148) C dX10_readLengths_147 rfl ?_
        have o4 := h.1
        replace h := h.2
        refine r_iald (pc' := 149) (k := 71) C (by decide) kc_71 (by have := kl_71; omega) dX10_readLengths_148 rfl (fun f5 => ?_)
        replace h := h f5
        refine r_istore (pc' := 151) (ls' := [(0, .ref (gl_b Y + 58)), (1, .int (i32 x1)), (2, .int (i32 x2)), (3, .int (i32 x3)), (4, .int (i32 x4)), (5, .int (i32 (av 71 (x2 - 1).toNat)))]) C (by decide) rfl dX10_readLengths_149 rfl ?_
        exact Wa.sub [0, 1, 2, 4, 5] rfl h
set_option maxHeartbeats 4000000 in
set_option maxRecDepth 100000 in
theorem w_X10_readLengths_107 {Y : Gl} {X : Cx} {e : Nat} {P : PN} {iv av : IVt} (C : CX Y X RX10 "readLengths" cX10_readLengths 7 (some .boolean) (e + 3) 0 0) (h :
    P 0 iv av) : L_X10_readLengths_107 Y X P iv av := by
  unfold L_X10_readLengths_107
  refine r_iconst (pc' := 108) C dX10_readLengths_107 rfl ?_
  exact r_zret C (by decide) ⟨rfl, rfl, h⟩ dX10_readLengths_108
set_option maxHeartbeats 4000000 in
set_option maxRecDepth 100000 in
theorem w_X10_readLengths_99 {Y : Gl} {X : Cx} {e : Nat} {P : PN} {x1 : Int} {x2 : Int} {x3 : Int} {x4 : Int} {iv av : IVt} (C : CX Y X RX10 "readLengths" cX10_readLengths 7 (some .boolean) (e + 3) 0 0) (hx3 : InR x3) (hx4 : InR x4) (h :
    (InR (x1 - x2)) ∧
    ((x4 ≤ (x1 - x2)) →
      ((16 ≤ x3) →
        L_X10_readLengths_122 Y X P x1 x2 x3 x4 0 iv av
      ) ∧
      ((¬ 16 ≤ x3) →
        L_X10_readLengths_122 Y X P x1 x2 x3 x4 x3 iv av
      )
    ) ∧
    ((¬ x4 ≤ (x1 - x2)) →
      L_X10_readLengths_107 Y X P iv av
    )) : L_X10_readLengths_99 Y X P x1 x2 x3 x4 iv av := by
  unfold L_X10_readLengths_99
  refine r_iload (pc' := 101) C 4 rfl dX10_readLengths_99 rfl ?_
  refine r_iload_n (pc' := 102) C 1 rfl rfl dX10_readLengths_101 rfl ?_
  refine r_iload_n (pc' := 103) C 2 rfl rfl dX10_readLengths_102 rfl ?_
  refine r_isub (pc' := 104) C dX10_readLengths_103 rfl ?_
  have o1 := h.1
  replace h := h.2
  refine r_icmp_le (pc' := 107) (tgt := 109) C hx4 o1 dX10_readLengths_104 (by decide) rfl (fun c2 => ?_) (fun c2 => ?_)
  · replace h := h.1 c2
    refine r_iload_n (pc' := 110) C 3 rfl rfl dX10_readLengths_109 rfl ?_
    refine r_bipush (pc' := 112) C dX10_readLengths_110 (by decide) rfl ?_
    refine r_icmp_ge (pc' := 115) (tgt := 119) C hx3 (by decide) dX10_readLengths_112 (by decide) rfl (fun c3 => ?_) (fun c3 => ?_)
    · replace h := h.1 c3
      refine r_iconst (pc' := 120) C dX10_readLengths_119 rfl ?_
      refine r_istore (pc' := 122) (ls' := [(0, .ref (gl_b Y + 58)), (1, .int (i32 x1)), (2, .int (i32 x2)), (3, .int (i32 x3)), (4, .int (i32 x4)), (5, .int (i32 0))]) C (by decide) rfl dX10_readLengths_120 rfl ?_
      exact Wa.sub [0, 1, 2, 3, 4, 5] rfl h
    · replace h := h.2 c3
      refine r_iload_n (pc' := 116) C 3 rfl rfl dX10_readLengths_115 rfl ?_
      refine r_goto (tgt := 120) C dX10_readLengths_116 (by decide) ?_
      refine r_istore (pc' := 122) (ls' := [(0, .ref (gl_b Y + 58)), (1, .int (i32 x1)), (2, .int (i32 x2)), (3, .int (i32 x3)), (4, .int (i32 x4)), (5, .int (i32 x3))]) C (by decide) rfl dX10_readLengths_120 rfl ?_
      exact Wa.sub [0, 1, 2, 3, 4, 5] rfl h
  · replace h := h.2 c2
    exact Wa.sub [] rfl h
set_option maxHeartbeats 4000000 in
set_option maxRecDepth 100000 in
theorem w_X10_readLengths_59 {Y : Gl} {X : Cx} {e : Nat} {P : PN} {x1 : Int} {x2 : Int} {x3 : Int} {x4 : Int} {iv av : IVt} (C : CX Y X RX10 "readLengths" cX10_readLengths 7 (some .boolean) (e + 3) 0 0) (hx2 : InR x2) (hx3 : InR x3) (h :
    OkN Y (e + 2) mX11_sizeBits [.int (i32 x3)] RV iv av 116 (fun r1 iv2 av3 =>
      (InR r1) →
      OkN Y (e + 2) mX1_bits [.ref (gl_b Y + 72), .int (i32 r1)] RV iv2 av3 116 (fun r5 iv6 av7 =>
        (InR r5) →
        ((x3 < 0) →
          L_X10_readLengths_107 Y X P iv6 av7
        ) ∧
        ((¬ x3 < 0) →
          OkN Y (e + 2) mX1_isMissing [.ref (gl_b Y + 72)] RV iv6 av7 116 (fun r10 iv11 av12 =>
            (InR r10) →
            ((¬ r10 = 0) →
              L_X10_readLengths_107 Y X P iv11 av12
            ) ∧
            ((r10 = 0) →
              ((¬ x3 = 16) →
                L_X10_readLengths_99 Y X P x1 x2 x3 (x4 + r5) iv11 av12
              ) ∧
              ((x3 = 16) →
                ((x2 = 0) →
                  L_X10_readLengths_107 Y X P iv11 av12
                ) ∧
                ((¬ x2 = 0) →
                  L_X10_readLengths_99 Y X P x1 x2 x3 (x4 + r5) iv11 av12
                )
              )
            )
          )
        )
      )
    )) : L_X10_readLengths_59 Y X P x1 x2 x3 x4 iv av := by
  unfold L_X10_readLengths_59
  refine r_iload (pc' := 61) C 4 rfl dX10_readLengths_59 rfl ?_
  refine r_aload_n (pc' := 62) C 0 rfl rfl dX10_readLengths_61 rfl ?_
  refine r_getr (pc' := 65) (k := 58) (r := 72) C fl_X10_33 (by decide) kc_58 (by decide) fr_10_0 RV_58_0 dX10_readLengths_62 rfl ?_
  refine r_iload_n (pc' := 66) C 3 rfl rfl dX10_readLengths_65 rfl ?_
  refine c_SNi (pc' := 69) (mt := mX11_sizeBits) (as := [.int (i32 x3)]) (st := [.ref (gl_b Y + 72), .int (i32 x4)]) C h rfl cl_X11_sizeBits nl_X10_132 sm_X11_sizeBits (by omega) (Nat.le_refl _) (Nat.le_refl _) rfl rfl (Nat.le_of_ble_eq_true rfl) dX10_readLengths_66 rfl (fun r1 iv2 av3 f4 h => ?_)
  replace h := h f4
  refine c_Vi (pc' := 72) (mt := mX1_bits) (as := [.int (i32 r1)]) (st := [.int (i32 x4)]) (k := 72) C h rfl cl_X1_bits ml_X10_64 im_X1_bits sl_X1_bits (by omega) (Nat.le_refl _) (Nat.le_refl _) rfl (by decide) kc_72 (by decide) rfl rfl rfl (Nat.le_of_ble_eq_true rfl) dX10_readLengths_69 rfl (fun r5 iv6 av7 f8 h => ?_)
  replace h := h f8
  refine r_iadd (pc' := 73) C dX10_readLengths_72 rfl ?_
  refine r_istore (pc' := 75) (ls' := [(0, .ref (gl_b Y + 58)), (1, .int (i32 x1)), (2, .int (i32 x2)), (3, .int (i32 x3)), (4, .int (i32 (x4 + r5)))]) C (by decide) rfl dX10_readLengths_73 rfl ?_
  refine r_iload_n (pc' := 76) C 3 rfl rfl dX10_readLengths_75 rfl ?_
  refine r_if_lt (pc' := 79) (tgt := 107) C hx3 dX10_readLengths_76 (by decide) rfl (fun c9 => ?_) (fun c9 => ?_)
  · replace h := h.1 c9
    exact Wa.sub [] rfl h
  · replace h := h.2 c9
    refine r_aload_n (pc' := 80) C 0 rfl rfl dX10_readLengths_79 rfl ?_
    refine r_getr (pc' := 83) (k := 58) (r := 72) C fl_X10_33 (by decide) kc_58 (by decide) fr_10_0 RV_58_0 dX10_readLengths_80 rfl ?_
    refine c_Vi (pc' := 86) (mt := mX1_isMissing) (as := []) (st := []) (k := 72) C h rfl cl_X1_isMissing ml_X10_86 im_X1_isMissing sl_X1_isMissing (by omega) (Nat.le_refl _) (Nat.le_refl _) rfl (by decide) kc_72 (by decide) rfl rfl rfl (Nat.le_of_ble_eq_true rfl) dX10_readLengths_83 rfl (fun r10 iv11 av12 f13 h => ?_)
    replace h := h f13
    refine r_if_ne (pc' := 89) (tgt := 107) C f13 dX10_readLengths_86 (by decide) rfl (fun c14 => ?_) (fun c14 => ?_)
    · replace h := h.1 c14
      exact Wa.sub [] rfl h
    · replace h := h.2 c14
      refine r_iload_n (pc' := 90) C 3 rfl rfl dX10_readLengths_89 rfl ?_
      refine r_bipush (pc' := 92) C dX10_readLengths_90 (by decide) rfl ?_
      refine r_icmp_ne (pc' := 95) (tgt := 99) C hx3 (by decide) dX10_readLengths_92 (by decide) rfl (fun c15 => ?_) (fun c15 => ?_)
      · replace h := h.1 c15
        exact Wa.sub [0, 1, 2, 3, 4] rfl h
      · replace h := h.2 c15
        refine r_iload_n (pc' := 96) C 2 rfl rfl dX10_readLengths_95 rfl ?_
        refine r_if_eq (pc' := 99) (tgt := 107) C hx2 dX10_readLengths_96 (by decide) rfl (fun c16 => ?_) (fun c16 => ?_)
        · replace h := h.1 c16
          exact Wa.sub [] rfl h
        · replace h := h.2 c16
          exact Wa.sub [0, 1, 2, 3, 4] rfl h
set_option maxHeartbeats 4000000 in
set_option maxRecDepth 100000 in
theorem w_X10_readLengths_12 {Y : Gl} {X : Cx} {e : Nat} {P : PN} {x1 : Int} {x2 : Int} {iv av : IVt} (C : CX Y X RX10 "readLengths" cX10_readLengths 7 (some .boolean) (e + 3) 0 0) (hx1 : InR x1) (hx2 : InR x2) (h :
    ((x1 ≤ x2) →
      P 1 iv av
    ) ∧
    ((¬ x1 ≤ x2) →
      OkN Y (e + 2) mX9_symbol [.ref (gl_b Y + 67), .ref (gl_b Y + 72)] RV iv av 116 (fun r2 iv3 av4 =>
        (InR r2) →
        ((r2 = 16) →
          L_X10_readLengths_59 Y X P x1 x2 r2 3 iv3 av4
        ) ∧
        ((¬ r2 = 16) →
          ((¬ r2 = 17) →
            ((¬ r2 = 18) →
              L_X10_readLengths_59 Y X P x1 x2 r2 1 iv3 av4
            ) ∧
            ((r2 = 18) →
              L_X10_readLengths_59 Y X P x1 x2 r2 11 iv3 av4
            )
          ) ∧
          ((r2 = 17) →
            L_X10_readLengths_59 Y X P x1 x2 r2 3 iv3 av4
          )
        )
      )
    )) : L_X10_readLengths_12 Y X P x1 x2 iv av := by
  unfold L_X10_readLengths_12
  refine r_iload_n (pc' := 13) C 2 rfl rfl dX10_readLengths_12 rfl ?_
  refine r_iload_n (pc' := 14) C 1 rfl rfl dX10_readLengths_13 rfl ?_
  refine r_icmp_ge (pc' := 17) (tgt := 196) C hx2 hx1 dX10_readLengths_14 (by decide) rfl (fun c1 => ?_) (fun c1 => ?_)
  · replace h := h.1 c1
    refine r_iconst (pc' := 197) C dX10_readLengths_196 rfl ?_
    exact r_zret C (by decide) ⟨rfl, rfl, h⟩ dX10_readLengths_197
  · replace h := h.2 c1
    refine r_aload_n (pc' := 18) C 0 rfl rfl dX10_readLengths_17 rfl ?_
    refine r_getr (pc' := 21) (k := 58) (r := 67) C fl_X10_21 (by decide) kc_58 (by decide) fr_10_4 RV_58_4 dX10_readLengths_18 rfl ?_
    refine r_aload_n (pc' := 22) C 0 rfl rfl dX10_readLengths_21 rfl ?_
    refine r_getr (pc' := 25) (k := 58) (r := 72) C fl_X10_33 (by decide) kc_58 (by decide) fr_10_0 RV_58_0 dX10_readLengths_22 rfl ?_
    refine c_Vi (pc' := 28) (mt := mX9_symbol) (as := [.ref (gl_b Y + 72)]) (st := []) (k := 67) C h rfl cl_X9_symbol ml_X10_128 im_X9_symbol sl_X9_symbol (by omega) (Nat.le_refl _) (Nat.le_refl _) rfl (by decide) kc_67 (by decide) rfl rfl rfl (Nat.le_of_ble_eq_true rfl) dX10_readLengths_25 rfl (fun r2 iv3 av4 f5 h => ?_)
    replace h := h f5
    refine r_istore_n (pc' := 29) (ls' := [(0, .ref (gl_b Y + 58)), (1, .int (i32 x1)), (2, .int (i32 x2)), (3, .int (i32 r2))]) C (by decide) rfl rfl dX10_readLengths_28 rfl ?_
    refine r_iload_n (pc' := 30) C 3 rfl rfl dX10_readLengths_29 rfl ?_
    refine r_bipush (pc' := 32) C dX10_readLengths_30 (by decide) rfl ?_
    refine r_icmp_eq (pc' := 35) (tgt := 41) C f5 (by decide) dX10_readLengths_32 (by decide) rfl (fun c6 => ?_) (fun c6 => ?_)
    · replace h := h.1 c6
      refine r_iconst (pc' := 42) C dX10_readLengths_41 rfl ?_
      refine r_goto (tgt := 57) C dX10_readLengths_42 (by decide) ?_
      refine r_istore (pc' := 59) (ls' := [(0, .ref (gl_b Y + 58)), (1, .int (i32 x1)), (2, .int (i32 x2)), (3, .int (i32 r2)), (4, .int (i32 3))]) C (by decide) rfl dX10_readLengths_57 rfl ?_
      exact Wa.sub [0, 1, 2, 3, 4] rfl h
    · replace h := h.2 c6
      refine r_iload_n (pc' := 36) C 3 rfl rfl dX10_readLengths_35 rfl ?_
      refine r_bipush (pc' := 38) C dX10_readLengths_36 (by decide) rfl ?_
      refine r_icmp_ne (pc' := 41) (tgt := 45) C f5 (by decide) dX10_readLengths_38 (by decide) rfl (fun c7 => ?_) (fun c7 => ?_)
      · replace h := h.1 c7
        refine r_iload_n (pc' := 46) C 3 rfl rfl dX10_readLengths_45 rfl ?_
        refine r_bipush (pc' := 48) C dX10_readLengths_46 (by decide) rfl ?_
        refine r_icmp_ne (pc' := 51) (tgt := 56) C f5 (by decide) dX10_readLengths_48 (by decide) rfl (fun c8 => ?_) (fun c8 => ?_)
        · replace h := h.1 c8
          refine r_iconst (pc' := 57) C dX10_readLengths_56 rfl ?_
          refine r_istore (pc' := 59) (ls' := [(0, .ref (gl_b Y + 58)), (1, .int (i32 x1)), (2, .int (i32 x2)), (3, .int (i32 r2)), (4, .int (i32 1))]) C (by decide) rfl dX10_readLengths_57 rfl ?_
          exact Wa.sub [0, 1, 2, 3, 4] rfl h
        · replace h := h.2 c8
          refine r_bipush (pc' := 53) C dX10_readLengths_51 (by decide) rfl ?_
          refine r_goto (tgt := 57) C dX10_readLengths_53 (by decide) ?_
          refine r_istore (pc' := 59) (ls' := [(0, .ref (gl_b Y + 58)), (1, .int (i32 x1)), (2, .int (i32 x2)), (3, .int (i32 r2)), (4, .int (i32 11))]) C (by decide) rfl dX10_readLengths_57 rfl ?_
          exact Wa.sub [0, 1, 2, 3, 4] rfl h
      · replace h := h.2 c7
        refine r_iconst (pc' := 42) C dX10_readLengths_41 rfl ?_
        refine r_goto (tgt := 57) C dX10_readLengths_42 (by decide) ?_
        refine r_istore (pc' := 59) (ls' := [(0, .ref (gl_b Y + 58)), (1, .int (i32 x1)), (2, .int (i32 x2)), (3, .int (i32 r2)), (4, .int (i32 3))]) C (by decide) rfl dX10_readLengths_57 rfl ?_
        exact Wa.sub [0, 1, 2, 3, 4] rfl h
set_option maxHeartbeats 4000000 in
set_option maxRecDepth 100000 in
theorem o_X10_readLengths {Y : Gl} {e : Nat} {P : PN} {iv av : IVt} (h : ∀ X : Cx, CX Y X RX10 "readLengths" cX10_readLengths 7 (some .boolean) (e + 3) 0 0 →
    ((InR (iv 58 6)) →
      ((InR (iv 58 7)) →
        L_X10_readLengths_12 Y X P ((iv 58 6) + (iv 58 7)) 0 iv av
      )
    )) : OkN Y (e + 3) mX10_readLengths [.ref (gl_b Y + 58)] RV iv av 116 P := by
  refine OkW.of rfl (by show _ ≤ 7; exact Nat.le_of_ble_eq_true rfl) fun X C0 hR => ?_
  have C : CX Y X RX10 "readLengths" cX10_readLengths 7 (some .boolean) (e + 3) 0 0 := C0
  replace h := h X C
  show Wa Y X 7 (g_MQ Y X 1 (g_N RV 116 P) 0 0) 0 0 0 [(0, .ref (gl_b Y + 58))] [] RV iv av 116
  refine r_aload_n (pc' := 1) C 0 rfl rfl dX10_readLengths_0 rfl ?_
  refine r_geti (pc' := 4) (k := 58) C fl_X10_119 (by decide) kc_58 (by decide) fr_10_6 dX10_readLengths_1 rfl (fun f1 => ?_)
  replace h := h f1
  refine r_aload_n (pc' := 5) C 0 rfl rfl dX10_readLengths_4 rfl ?_
  refine r_geti (pc' := 8) (k := 58) C fl_X10_122 (by decide) kc_58 (by decide) fr_10_7 dX10_readLengths_5 rfl (fun f2 => ?_)
  replace h := h f2
  refine r_iadd (pc' := 9) C dX10_readLengths_8 rfl ?_
  refine r_istore_n (pc' := 10) (ls' := [(0, .ref (gl_b Y + 58)), (1, .int (i32 ((iv 58 6) + (iv 58 7))))]) C (by decide) rfl rfl dX10_readLengths_9 rfl ?_
  refine r_iconst (pc' := 11) C dX10_readLengths_10 rfl ?_
  refine r_istore_n (pc' := 12) (ls' := [(0, .ref (gl_b Y + 58)), (1, .int (i32 ((iv 58 6) + (iv 58 7)))), (2, .int (i32 0))]) C (by decide) rfl rfl dX10_readLengths_11 rfl ?_
  exact Wa.sub [0, 1, 2] rfl h
set_option maxHeartbeats 4000000 in
set_option maxRecDepth 100000 in
theorem o_X10_makeCodes {Y : Gl} {e : Nat} {P : PN} {iv av : IVt} (h : 
    ((InR (av 71 256)) →
      (((av 71 256) ≤ 0) →
        P 0 iv av
      ) ∧
      ((¬ (av 71 256) ≤ 0) →
        ((InR (iv 58 6)) →
          OkN Y (e + 2) mX9_make [.ref (gl_b Y + 59), .ref (gl_b Y + 71), .int (i32 0), .int (i32 (iv 58 6)), .int (i32 0)] RV iv av 116 (fun r4 iv5 av6 =>
            (InR r4) →
            ((r4 = 0) →
              P 0 iv5 av6
            ) ∧
            ((¬ r4 = 0) →
              ((InR (iv5 58 6)) →
                ((InR (iv5 58 7)) →
                  OkN Y (e + 2) mX9_make [.ref (gl_b Y + 63), .ref (gl_b Y + 71), .int (i32 (iv5 58 6)), .int (i32 (iv5 58 7)), .int (i32 1)] RV iv5 av6 116 (fun r11 iv12 av13 =>
                    (InR r11) →
                    ((r11 = 0) →
                      P 0 iv12 av13
                    ) ∧
                    ((¬ r11 = 0) →
                      P 1 iv12 av13
                    )
                  )
                )
              )
            )
          )
        )
      )
    )) : OkN Y (e + 3) mX10_makeCodes [.ref (gl_b Y + 58)] RV iv av 116 P := by
  refine OkW.of rfl (by show _ ≤ 1; exact Nat.le_of_ble_eq_true rfl) fun X C0 hR => ?_
  have C : CX Y X RX10 "makeCodes" cX10_makeCodes 1 (some .boolean) (e + 3) 0 0 := C0
  show Wa Y X 1 (g_MQ Y X 1 (g_N RV 116 P) 0 0) 0 0 0 [(0, .ref (gl_b Y + 58))] [] RV iv av 116
  refine r_sipush (pc' := 3) C dX10_makeCodes_0 (by decide) rfl ?_
  refine r_aload_n (pc' := 4) C 0 rfl rfl dX10_makeCodes_3 rfl ?_
  refine r_getr (pc' := 7) (k := 58) (r := 71) C fl_X10_24 (by decide) kc_58 (by decide) fr_10_5 RV_58_5 dX10_makeCodes_4 rfl ?_
  refine r_alen (pc' := 8) (k := 71) (v := 320) C (by decide) kc_71 (by decide) (by rw [kl_71]; rfl) dX10_makeCodes_7 rfl ?_
  refine r_icmp_ge (pc' := 11) (tgt := 69) C (by decide) (by decide) dX10_makeCodes_8 (by decide) rfl (fun z => absurd z (by decide)) (fun _ => ?_)
  refine r_aload_n (pc' := 12) C 0 rfl rfl dX10_makeCodes_11 rfl ?_
  refine r_getr (pc' := 15) (k := 58) (r := 71) C fl_X10_24 (by decide) kc_58 (by decide) fr_10_5 RV_58_5 dX10_makeCodes_12 rfl ?_
  refine r_sipush (pc' := 18) C dX10_makeCodes_15 (by decide) rfl ?_
  refine r_iald (pc' := 19) (k := 71) C (by decide) kc_71 (by rw [kl_71]; decide) dX10_makeCodes_18 rfl (fun f1 => ?_)
  replace f1 : InR (av 71 256) := f1
  rw [show (256 : Int).toNat = 256 from rfl]
  replace h := h f1
  refine r_if_le (pc' := 22) (tgt := 69) C f1 dX10_makeCodes_19 (by decide) rfl (fun c2 => ?_) (fun c2 => ?_)
  · replace h := h.1 c2
    refine r_iconst (pc' := 70) C dX10_makeCodes_69 rfl ?_
    exact r_zret C (by decide) ⟨rfl, rfl, h⟩ dX10_makeCodes_70
  · replace h := h.2 c2
    refine r_aload_n (pc' := 23) C 0 rfl rfl dX10_makeCodes_22 rfl ?_
    refine r_getr (pc' := 26) (k := 58) (r := 59) C fl_X10_12 (by decide) kc_58 (by decide) fr_10_2 RV_58_2 dX10_makeCodes_23 rfl ?_
    refine r_aload_n (pc' := 27) C 0 rfl rfl dX10_makeCodes_26 rfl ?_
    refine r_getr (pc' := 30) (k := 58) (r := 71) C fl_X10_24 (by decide) kc_58 (by decide) fr_10_5 RV_58_5 dX10_makeCodes_27 rfl ?_
    refine r_iconst (pc' := 31) C dX10_makeCodes_30 rfl ?_
    refine r_aload_n (pc' := 32) C 0 rfl rfl dX10_makeCodes_31 rfl ?_
    refine r_geti (pc' := 35) (k := 58) C fl_X10_119 (by decide) kc_58 (by decide) fr_10_6 dX10_makeCodes_32 rfl (fun f3 => ?_)
    replace h := h f3
    refine r_iconst (pc' := 36) C dX10_makeCodes_35 rfl ?_
    refine c_Vi (pc' := 39) (mt := mX9_make) (as := [.ref (gl_b Y + 71), .int (i32 0), .int (i32 (iv 58 6)), .int (i32 0)]) (st := []) (k := 59) C h rfl cl_X9_make ml_X10_115 im_X9_make sl_X9_make (by omega) (Nat.le_refl _) (Nat.le_refl _) rfl (by decide) kc_59 (by decide) rfl rfl rfl (Nat.le_of_ble_eq_true rfl) dX10_makeCodes_36 rfl (fun r4 iv5 av6 f7 h => ?_)
    replace h := h f7
    refine r_if_eq (pc' := 42) (tgt := 69) C f7 dX10_makeCodes_39 (by decide) rfl (fun c8 => ?_) (fun c8 => ?_)
    · replace h := h.1 c8
      refine r_iconst (pc' := 70) C dX10_makeCodes_69 rfl ?_
      exact r_zret C (by decide) ⟨rfl, rfl, h⟩ dX10_makeCodes_70
    · replace h := h.2 c8
      refine r_aload_n (pc' := 43) C 0 rfl rfl dX10_makeCodes_42 rfl ?_
      refine r_getr (pc' := 46) (k := 58) (r := 63) C fl_X10_18 (by decide) kc_58 (by decide) fr_10_3 RV_58_3 dX10_makeCodes_43 rfl ?_
      refine r_aload_n (pc' := 47) C 0 rfl rfl dX10_makeCodes_46 rfl ?_
      refine r_getr (pc' := 50) (k := 58) (r := 71) C fl_X10_24 (by decide) kc_58 (by decide) fr_10_5 RV_58_5 dX10_makeCodes_47 rfl ?_
      refine r_aload_n (pc' := 51) C 0 rfl rfl dX10_makeCodes_50 rfl ?_
      refine r_geti (pc' := 54) (k := 58) C fl_X10_119 (by decide) kc_58 (by decide) fr_10_6 dX10_makeCodes_51 rfl (fun f9 => ?_)
      replace h := h f9
      refine r_aload_n (pc' := 55) C 0 rfl rfl dX10_makeCodes_54 rfl ?_
      refine r_geti (pc' := 58) (k := 58) C fl_X10_122 (by decide) kc_58 (by decide) fr_10_7 dX10_makeCodes_55 rfl (fun f10 => ?_)
      replace h := h f10
      refine r_iconst (pc' := 59) C dX10_makeCodes_58 rfl ?_
      refine c_Vi (pc' := 62) (mt := mX9_make) (as := [.ref (gl_b Y + 71), .int (i32 (iv5 58 6)), .int (i32 (iv5 58 7)), .int (i32 1)]) (st := []) (k := 63) C h rfl cl_X9_make ml_X10_115 im_X9_make sl_X9_make (by omega) (Nat.le_refl _) (Nat.le_refl _) rfl (by decide) kc_63 (by decide) rfl rfl rfl (Nat.le_of_ble_eq_true rfl) dX10_makeCodes_59 rfl (fun r11 iv12 av13 f14 h => ?_)
      replace h := h f14
      refine r_if_eq (pc' := 65) (tgt := 69) C f14 dX10_makeCodes_62 (by decide) rfl (fun c15 => ?_) (fun c15 => ?_)
      · replace h := h.1 c15
        refine r_iconst (pc' := 70) C dX10_makeCodes_69 rfl ?_
        exact r_zret C (by decide) ⟨rfl, rfl, h⟩ dX10_makeCodes_70
      · replace h := h.2 c15
        refine r_iconst (pc' := 66) C dX10_makeCodes_65 rfl ?_
        refine r_goto (tgt := 70) C dX10_makeCodes_66 (by decide) ?_
        exact r_zret C (by decide) ⟨rfl, rfl, h⟩ dX10_makeCodes_70
def L_X10_readSymbols_2 (Y : Gl) (X : Cx) (P : PN) (x1 : Int) (iv av : IVt) : Prop := Wa Y X 6 (g_MQ Y X 1 (g_N RV 116 P) 0 0) 0 0 2 [(0, .ref (gl_b Y + 58)), (1, .int (i32 x1))] [] RV iv av 116
def L_X10_readSymbols_41 (Y : Gl) (X : Cx) (P : PN) (iv av : IVt) : Prop := Wa Y X 6 (g_MQ Y X 1 (g_N RV 116 P) 0 0) 0 0 41 [] [] RV iv av 116
def L_X10_readSymbols_128 (Y : Gl) (X : Cx) (P : PN) (iv av : IVt) : Prop := Wa Y X 6 (g_MQ Y X 1 (g_N RV 116 P) 0 0) 0 0 128 [] [] RV iv av 116
def L_X10_readSymbols_170 (Y : Gl) (X : Cx) (P : PN) (iv av : IVt) : Prop := Wa Y X 6 (g_MQ Y X 1 (g_N RV 116 P) 0 0) 0 0 170 [] [] RV iv av 116
def L_X10_readSymbols_172 (Y : Gl) (X : Cx) (P : PN) (x1 : Int) (iv av : IVt) : Prop := Wa Y X 6 (g_MQ Y X 1 (g_N RV 116 P) 0 0) 0 0 172 [(0, .ref (gl_b Y + 58)), (1, .int (i32 x1))] [] RV iv av 116
set_option maxHeartbeats 4000000 in
set_option maxRecDepth 100000 in
theorem w_X10_readSymbols_172 {Y : Gl} {X : Cx} {e : Nat} {P : PN} {x1 : Int} {iv av : IVt} (C : CX Y X RX10 "readSymbols" cX10_readSymbols 6 (some .boolean) (e + 3) 0 0) (h :
    L_X10_readSymbols_2 Y X P (x1 + 1) iv av) : L_X10_readSymbols_172 Y X P x1 iv av := by
  unfold L_X10_readSymbols_172
  refine r_iinc (pc' := 175) (ls' := [(0, .ref (gl_b Y + 58)), (1, .int (i32 (x1 + 1)))]) C 1 rfl (by decide) rfl dX10_readSymbols_172 rfl ?_
  refine r_goto (tgt := 2) C dX10_readSymbols_175 (by decide) ?_
  exact Wa.sub [0, 1] rfl h
set_option maxHeartbeats 4000000 in
set_option maxRecDepth 100000 in
theorem w_X10_readSymbols_170 {Y : Gl} {X : Cx} {e : Nat} {P : PN} {iv av : IVt} (C : CX Y X RX10 "readSymbols" cX10_readSymbols 6 (some .boolean) (e + 3) 0 0) (h :
    P 0 iv av) : L_X10_readSymbols_170 Y X P iv av := by
  unfold L_X10_readSymbols_170
  refine r_iconst (pc' := 171) C dX10_readSymbols_170 rfl ?_
  exact r_zret C (by decide) ⟨rfl, rfl, h⟩ dX10_readSymbols_171
set_option maxHeartbeats 4000000 in
set_option maxRecDepth 100000 in
theorem w_X10_readSymbols_128 {Y : Gl} {X : Cx} {e : Nat} {P : PN} {iv av : IVt} (C : CX Y X RX10 "readSymbols" cX10_readSymbols 6 (some .boolean) (e + 3) 0 0) (h :
    P 0 iv av) : L_X10_readSymbols_128 Y X P iv av := by
  unfold L_X10_readSymbols_128
  refine r_iconst (pc' := 129) C dX10_readSymbols_128 rfl ?_
  exact r_zret C (by decide) ⟨rfl, rfl, h⟩ dX10_readSymbols_129
set_option maxHeartbeats 4000000 in
set_option maxRecDepth 100000 in
theorem w_X10_readSymbols_41 {Y : Gl} {X : Cx} {e : Nat} {P : PN} {iv av : IVt} (C : CX Y X RX10 "readSymbols" cX10_readSymbols 6 (some .boolean) (e + 3) 0 0) (h :
    P 0 iv av) : L_X10_readSymbols_41 Y X P iv av := by
  unfold L_X10_readSymbols_41
  refine r_iconst (pc' := 42) C dX10_readSymbols_41 rfl ?_
  exact r_zret C (by decide) ⟨rfl, rfl, h⟩ dX10_readSymbols_42
set_option maxHeartbeats 4000000 in
set_option maxRecDepth 100000 in
theorem w_X10_readSymbols_2 {Y : Gl} {X : Cx} {e : Nat} {P : PN} {x1 : Int} {iv av : IVt} (C : CX Y X RX10 "readSymbols" cX10_readSymbols 6 (some .boolean) (e + 3) 0 0) (hx1 : InR x1) (h :
    ((1048576 ≤ x1) →
      P 0 iv av
    ) ∧
    ((¬ 1048576 ≤ x1) →
      OkN Y (e + 2) mX9_symbol [.ref (gl_b Y + 59), .ref (gl_b Y + 72)] RV iv av 116 (fun r2 iv3 av4 =>
        (InR r2) →
        ((r2 < 0) →
          L_X10_readSymbols_41 Y X P iv3 av4
        ) ∧
        ((¬ r2 < 0) →
          ((285 < r2) →
            L_X10_readSymbols_41 Y X P iv3 av4
          ) ∧
          ((¬ 285 < r2) →
            OkN Y (e + 2) mX1_isMissing [.ref (gl_b Y + 72)] RV iv3 av4 116 (fun r8 iv9 av10 =>
              (InR r8) →
              ((r8 = 0) →
                ((¬ r2 = 256) →
                  ((256 ≤ r2) →
                    OkN Y (e + 2) mX11_lengthBase [.int (i32 r2)] RV iv9 av10 116 (fun r15 iv16 av17 =>
                      (InR r15) →
                      OkN Y (e + 2) mX11_lengthBits [.int (i32 r2)] RV iv16 av17 116 (fun r19 iv20 av21 =>
                        (InR r19) →
                        OkN Y (e + 2) mX1_bits [.ref (gl_b Y + 72), .int (i32 r19)] RV iv20 av21 116 (fun r23 iv24 av25 =>
                          (InR r23) →
                          OkN Y (e + 2) mX9_symbol [.ref (gl_b Y + 63), .ref (gl_b Y + 72)] RV iv24 av25 116 (fun r27 iv28 av29 =>
                            (InR r27) →
                            ((r27 < 0) →
                              L_X10_readSymbols_128 Y X P iv28 av29
                            ) ∧
                            ((¬ r27 < 0) →
                              ((r27 ≤ 29) →
                                OkN Y (e + 2) mX11_distanceBase [.int (i32 r27)] RV iv28 av29 116 (fun r33 iv34 av35 =>
                                  (InR r33) →
                                  OkN Y (e + 2) mX11_distanceBits [.int (i32 r27)] RV iv34 av35 116 (fun r37 iv38 av39 =>
                                    (InR r37) →
                                    OkN Y (e + 2) mX1_bits [.ref (gl_b Y + 72), .int (i32 r37)] RV iv38 av39 116 (fun r41 iv42 av43 =>
                                      (InR r41) →
                                      OkN Y (e + 2) mX1_isMissing [.ref (gl_b Y + 72)] RV iv42 av43 116 (fun r45 iv46 av47 =>
                                        (InR r45) →
                                        ((¬ r45 = 0) →
                                          L_X10_readSymbols_170 Y X P iv46 av47
                                        ) ∧
                                        ((r45 = 0) →
                                          (InR (r15 + r23)) ∧
                                          (InR (r33 + r41)) ∧
                                          OkN Y (e + 2) mX10_repeat [.ref (gl_b Y + 58), .int (i32 (r15 + r23)), .int (i32 (r33 + r41))] RV iv46 av47 116 (fun r52 iv53 av54 =>
                                            (InR r52) →
                                            ((¬ r52 = 0) →
                                              L_X10_readSymbols_172 Y X P x1 iv53 av54
                                            ) ∧
                                            ((r52 = 0) →
                                              L_X10_readSymbols_170 Y X P iv53 av54
                                            )
                                          )
                                        )
                                      )
                                    )
                                  )
                                )
                              ) ∧
                              ((¬ r27 ≤ 29) →
                                L_X10_readSymbols_128 Y X P iv28 av29
                              )
                            )
                          )
                        )
                      )
                    )
                  ) ∧
                  ((¬ 256 ≤ r2) →
                    OkN Y (e + 2) mX2_count [.ref (gl_b Y + 16)] RV iv9 av10 116 (fun r57 iv58 av59 =>
                      (InR r57) →
                      ((InR (iv58 58 8)) →
                        ((r57 < (iv58 58 8)) →
                          OkN Y (e + 2) mX2_add [.ref (gl_b Y + 16), .int (i32 r2)] RV iv58 av59 116 (fun r63 iv64 av65 =>
                            L_X10_readSymbols_172 Y X P x1 iv64 av65
                          )
                        ) ∧
                        ((¬ r57 < (iv58 58 8)) →
                          P 0 iv58 av59
                        )
                      )
                    )
                  )
                ) ∧
                ((r2 = 256) →
                  P 1 iv9 av10
                )
              ) ∧
              ((¬ r8 = 0) →
                L_X10_readSymbols_41 Y X P iv9 av10
              )
            )
          )
        )
      )
    )) : L_X10_readSymbols_2 Y X P x1 iv av := by
  unfold L_X10_readSymbols_2
  refine r_iload_n (pc' := 3) C 1 rfl rfl dX10_readSymbols_2 rfl ?_
  refine r_ldc (pc' := 5) (x := 1048576) C ct_X10_59 (by decide) dX10_readSymbols_3 rfl ?_
  refine r_icmp_ge (pc' := 8) (tgt := 178) C hx1 (by decide) dX10_readSymbols_5 (by decide) rfl (fun c1 => ?_) (fun c1 => ?_)
  · replace h := h.1 c1
    refine r_iconst (pc' := 179) C dX10_readSymbols_178 rfl ?_
    exact r_zret C (by decide) ⟨rfl, rfl, h⟩ dX10_readSymbols_179
  · replace h := h.2 c1
    refine r_aload_n (pc' := 9) C 0 rfl rfl dX10_readSymbols_8 rfl ?_
    refine r_getr (pc' := 12) (k := 58) (r := 59) C fl_X10_12 (by decide) kc_58 (by decide) fr_10_2 RV_58_2 dX10_readSymbols_9 rfl ?_
    refine r_aload_n (pc' := 13) C 0 rfl rfl dX10_readSymbols_12 rfl ?_
    refine r_getr (pc' := 16) (k := 58) (r := 72) C fl_X10_33 (by decide) kc_58 (by decide) fr_10_0 RV_58_0 dX10_readSymbols_13 rfl ?_
    refine c_Vi (pc' := 19) (mt := mX9_symbol) (as := [.ref (gl_b Y + 72)]) (st := []) (k := 59) C h rfl cl_X9_symbol ml_X10_128 im_X9_symbol sl_X9_symbol (by omega) (Nat.le_refl _) (Nat.le_refl _) rfl (by decide) kc_59 (by decide) rfl rfl rfl (Nat.le_of_ble_eq_true rfl) dX10_readSymbols_16 rfl (fun r2 iv3 av4 f5 h => ?_)
    replace h := h f5
    refine r_istore_n (pc' := 20) (ls' := [(0, .ref (gl_b Y + 58)), (1, .int (i32 x1)), (2, .int (i32 r2))]) C (by decide) rfl rfl dX10_readSymbols_19 rfl ?_
    refine r_iload_n (pc' := 21) C 2 rfl rfl dX10_readSymbols_20 rfl ?_
    refine r_if_lt (pc' := 24) (tgt := 41) C f5 dX10_readSymbols_21 (by decide) rfl (fun c6 => ?_) (fun c6 => ?_)
    · replace h := h.1 c6
      exact Wa.sub [] rfl h
    · replace h := h.2 c6
      refine r_iload_n (pc' := 25) C 2 rfl rfl dX10_readSymbols_24 rfl ?_
      refine r_sipush (pc' := 28) C dX10_readSymbols_25 (by decide) rfl ?_
      refine r_icmp_gt (pc' := 31) (tgt := 41) C f5 (by decide) dX10_readSymbols_28 (by decide) rfl (fun c7 => ?_) (fun c7 => ?_)
      · replace h := h.1 c7
        exact Wa.sub [] rfl h
      · replace h := h.2 c7
        refine r_aload_n (pc' := 32) C 0 rfl rfl dX10_readSymbols_31 rfl ?_
        refine r_getr (pc' := 35) (k := 58) (r := 72) C fl_X10_33 (by decide) kc_58 (by decide) fr_10_0 RV_58_0 dX10_readSymbols_32 rfl ?_
        refine c_Vi (pc' := 38) (mt := mX1_isMissing) (as := []) (st := []) (k := 72) C h rfl cl_X1_isMissing ml_X10_86 im_X1_isMissing sl_X1_isMissing (by omega) (Nat.le_refl _) (Nat.le_refl _) rfl (by decide) kc_72 (by decide) rfl rfl rfl (Nat.le_of_ble_eq_true rfl) dX10_readSymbols_35 rfl (fun r8 iv9 av10 f11 h => ?_)
        replace h := h f11
        refine r_if_eq (pc' := 41) (tgt := 43) C f11 dX10_readSymbols_38 (by decide) rfl (fun c12 => ?_) (fun c12 => ?_)
        · replace h := h.1 c12
          refine r_iload_n (pc' := 44) C 2 rfl rfl dX10_readSymbols_43 rfl ?_
          refine r_sipush (pc' := 47) C dX10_readSymbols_44 (by decide) rfl ?_
          refine r_icmp_ne (pc' := 50) (tgt := 52) C f5 (by decide) dX10_readSymbols_47 (by decide) rfl (fun c13 => ?_) (fun c13 => ?_)
          · replace h := h.1 c13
            refine r_iload_n (pc' := 53) C 2 rfl rfl dX10_readSymbols_52 rfl ?_
            refine r_sipush (pc' := 56) C dX10_readSymbols_53 (by decide) rfl ?_
            refine r_icmp_ge (pc' := 59) (tgt := 86) C f5 (by decide) dX10_readSymbols_56 (by decide) rfl (fun c14 => ?_) (fun c14 => ?_)
            · replace h := h.1 c14
              refine r_iload_n (pc' := 87) C 2 rfl rfl dX10_readSymbols_86 rfl ?_
              refine c_SNi (pc' := 90) (mt := mX11_lengthBase) (as := [.int (i32 r2)]) (st := []) C h rfl cl_X11_lengthBase nl_X10_135 sm_X11_lengthBase (by omega) (Nat.le_refl _) (Nat.le_refl _) rfl rfl (Nat.le_of_ble_eq_true rfl) dX10_readSymbols_87 rfl (fun r15 iv16 av17 f18 h => ?_)
              replace h := h f18
              refine r_aload_n (pc' := 91) C 0 rfl rfl dX10_readSymbols_90 rfl ?_
              refine r_getr (pc' := 94) (k := 58) (r := 72) C fl_X10_33 (by decide) kc_58 (by decide) fr_10_0 RV_58_0 dX10_readSymbols_91 rfl ?_
              refine r_iload_n (pc' := 95) C 2 rfl rfl dX10_readSymbols_94 rfl ?_
              refine c_SNi (pc' := 98) (mt := mX11_lengthBits) (as := [.int (i32 r2)]) (st := [.ref (gl_b Y + 72), .int (i32 r15)]) C h rfl cl_X11_lengthBits nl_X10_138 sm_X11_lengthBits (by omega) (Nat.le_refl _) (Nat.le_refl _) rfl rfl (Nat.le_of_ble_eq_true rfl) dX10_readSymbols_95 rfl (fun r19 iv20 av21 f22 h => ?_)
              replace h := h f22
              refine c_Vi (pc' := 101) (mt := mX1_bits) (as := [.int (i32 r19)]) (st := [.int (i32 r15)]) (k := 72) C h rfl cl_X1_bits ml_X10_64 im_X1_bits sl_X1_bits (by omega) (Nat.le_refl _) (Nat.le_refl _) rfl (by decide) kc_72 (by decide) rfl rfl rfl (Nat.le_of_ble_eq_true rfl) dX10_readSymbols_98 rfl (fun r23 iv24 av25 f26 h => ?_)
              replace h := h f26
              refine r_iadd (pc' := 102) C dX10_readSymbols_101 rfl ?_
              refine r_istore_n (pc' := 103) (ls' := [(0, .ref (gl_b Y + 58)), (1, .int (i32 x1)), (2, .int (i32 r2)), (3, .int (i32 (r15 + r23)))]) C (by decide) rfl rfl dX10_readSymbols_102 rfl ?_
              refine r_aload_n (pc' := 104) C 0 rfl rfl dX10_readSymbols_103 rfl ?_
              refine r_getr (pc' := 107) (k := 58) (r := 63) C fl_X10_18 (by decide) kc_58 (by decide) fr_10_3 RV_58_3 dX10_readSymbols_104 rfl ?_
              refine r_aload_n (pc' := 108) C 0 rfl rfl dX10_readSymbols_107 rfl ?_
              refine r_getr (pc' := 111) (k := 58) (r := 72) C fl_X10_33 (by decide) kc_58 (by decide) fr_10_0 RV_58_0 dX10_readSymbols_108 rfl ?_
              refine c_Vi (pc' := 114) (mt := mX9_symbol) (as := [.ref (gl_b Y + 72)]) (st := []) (k := 63) C h rfl cl_X9_symbol ml_X10_128 im_X9_symbol sl_X9_symbol (by omega) (Nat.le_refl _) (Nat.le_refl _) rfl (by decide) kc_63 (by decide) rfl rfl rfl (Nat.le_of_ble_eq_true rfl) dX10_readSymbols_111 rfl (fun r27 iv28 av29 f30 h => ?_)
              replace h := h f30
              refine r_istore (pc' := 116) (ls' := [(0, .ref (gl_b Y + 58)), (1, .int (i32 x1)), (2, .int (i32 r2)), (3, .int (i32 (r15 + r23))), (4, .int (i32 r27))]) C (by decide) rfl dX10_readSymbols_114 rfl ?_
              refine r_iload (pc' := 118) C 4 rfl dX10_readSymbols_116 rfl ?_
              refine r_if_lt (pc' := 121) (tgt := 128) C f30 dX10_readSymbols_118 (by decide) rfl (fun c31 => ?_) (fun c31 => ?_)
              · replace h := h.1 c31
                exact Wa.sub [] rfl h
              · replace h := h.2 c31
                refine r_iload (pc' := 123) C 4 rfl dX10_readSymbols_121 rfl ?_
                refine r_bipush (pc' := 125) C dX10_readSymbols_123 (by decide) rfl ?_
                refine r_icmp_le (pc' := 128) (tgt := 130) C f30 (by decide) dX10_readSymbols_125 (by decide) rfl (fun c32 => ?_) (fun c32 => ?_)
                · replace h := h.1 c32
                  refine r_iload (pc' := 132) C 4 rfl dX10_readSymbols_130 rfl ?_
                  refine c_SNi (pc' := 135) (mt := mX11_distanceBase) (as := [.int (i32 r27)]) (st := []) C h rfl cl_X11_distanceBase nl_X10_141 sm_X11_distanceBase (by omega) (Nat.le_refl _) (Nat.le_refl _) rfl rfl (Nat.le_of_ble_eq_true rfl) dX10_readSymbols_132 rfl (fun r33 iv34 av35 f36 h => ?_)
                  replace h := h f36
                  refine r_aload_n (pc' := 136) C 0 rfl rfl dX10_readSymbols_135 rfl ?_
                  refine r_getr (pc' := 139) (k := 58) (r := 72) C fl_X10_33 (by decide) kc_58 (by decide) fr_10_0 RV_58_0 dX10_readSymbols_136 rfl ?_
                  refine r_iload (pc' := 141) C 4 rfl dX10_readSymbols_139 rfl ?_
                  refine c_SNi (pc' := 144) (mt := mX11_distanceBits) (as := [.int (i32 r27)]) (st := [.ref (gl_b Y + 72), .int (i32 r33)]) C h rfl cl_X11_distanceBits nl_X10_144 sm_X11_distanceBits (by omega) (Nat.le_refl _) (Nat.le_refl _) rfl rfl (Nat.le_of_ble_eq_true rfl) dX10_readSymbols_141 rfl (fun r37 iv38 av39 f40 h => ?_)
                  replace h := h f40
                  refine c_Vi (pc' := 147) (mt := mX1_bits) (as := [.int (i32 r37)]) (st := [.int (i32 r33)]) (k := 72) C h rfl cl_X1_bits ml_X10_64 im_X1_bits sl_X1_bits (by omega) (Nat.le_refl _) (Nat.le_refl _) rfl (by decide) kc_72 (by decide) rfl rfl rfl (Nat.le_of_ble_eq_true rfl) dX10_readSymbols_144 rfl (fun r41 iv42 av43 f44 h => ?_)
                  replace h := h f44
                  refine r_iadd (pc' := 148) C dX10_readSymbols_147 rfl ?_
                  refine r_istore (pc' := 150) (ls' := [(0, .ref (gl_b Y + 58)), (1, .int (i32 x1)), (2, .int (i32 r2)), (3, .int (i32 (r15 + r23))), (4, .int (i32 r27)), (5, .int (i32 (r33 + r41)))]) C (by decide) rfl dX10_readSymbols_148 rfl ?_
                  refine r_aload_n (pc' := 151) C 0 rfl rfl dX10_readSymbols_150 rfl ?_
                  refine r_getr (pc' := 154) (k := 58) (r := 72) C fl_X10_33 (by decide) kc_58 (by decide) fr_10_0 RV_58_0 dX10_readSymbols_151 rfl ?_
                  refine c_Vi (pc' := 157) (mt := mX1_isMissing) (as := []) (st := []) (k := 72) C h rfl cl_X1_isMissing ml_X10_86 im_X1_isMissing sl_X1_isMissing (by omega) (Nat.le_refl _) (Nat.le_refl _) rfl (by decide) kc_72 (by decide) rfl rfl rfl (Nat.le_of_ble_eq_true rfl) dX10_readSymbols_154 rfl (fun r45 iv46 av47 f48 h => ?_)
                  replace h := h f48
                  refine r_if_ne (pc' := 160) (tgt := 170) C f48 dX10_readSymbols_157 (by decide) rfl (fun c49 => ?_) (fun c49 => ?_)
                  · replace h := h.1 c49
                    exact Wa.sub [] rfl h
                  · replace h := h.2 c49
                    refine r_aload_n (pc' := 161) C 0 rfl rfl dX10_readSymbols_160 rfl ?_
                    refine r_iload_n (pc' := 162) C 3 rfl rfl dX10_readSymbols_161 rfl ?_
                    refine r_iload (pc' := 164) C 5 rfl dX10_readSymbols_162 rfl ?_
                    have o50 := h.1
                    replace h := h.2
                    have o51 := h.1
                    replace h := h.2
                    refine c_Vi (pc' := 167) (mt := mX10_repeat) (as := [.int (i32 (r15 + r23)), .int (i32 (r33 + r41))]) (st := []) (k := 58) C h rfl cl_X10_repeat ml_X10_147 im_X10_repeat sl_X10_repeat (by omega) (Nat.le_refl _) (Nat.le_refl _) rfl (by decide) kc_58 (by decide) rfl rfl rfl (Nat.le_of_ble_eq_true rfl) dX10_readSymbols_164 rfl (fun r52 iv53 av54 f55 h => ?_)
                    replace h := h f55
                    refine r_if_ne (pc' := 170) (tgt := 172) C f55 dX10_readSymbols_167 (by decide) rfl (fun c56 => ?_) (fun c56 => ?_)
                    · replace h := h.1 c56
                      exact Wa.sub [0, 1] rfl h
                    · replace h := h.2 c56
                      exact Wa.sub [] rfl h
                · replace h := h.2 c32
                  exact Wa.sub [] rfl h
            · replace h := h.2 c14
              refine r_aload_n (pc' := 60) C 0 rfl rfl dX10_readSymbols_59 rfl ?_
              refine r_getr (pc' := 63) (k := 58) (r := 16) C fl_X10_37 (by decide) kc_58 (by decide) fr_10_1 RV_58_1 dX10_readSymbols_60 rfl ?_
              refine c_Vi (pc' := 66) (mt := mX2_count) (as := []) (st := []) (k := 16) C h rfl cl_X2_count ml_X10_101 im_X2_count sl_X2_count (by omega) (Nat.le_refl _) (Nat.le_refl _) rfl (by decide) kc_16 (by decide) rfl rfl rfl (Nat.le_of_ble_eq_true rfl) dX10_readSymbols_63 rfl (fun r57 iv58 av59 f60 h => ?_)
              replace h := h f60
              refine r_aload_n (pc' := 67) C 0 rfl rfl dX10_readSymbols_66 rfl ?_
              refine r_geti (pc' := 70) (k := 58) C fl_X10_47 (by decide) kc_58 (by decide) fr_10_8 dX10_readSymbols_67 rfl (fun f61 => ?_)
              replace h := h f61
              refine r_icmp_lt (pc' := 73) (tgt := 75) C f60 f61 dX10_readSymbols_70 (by decide) rfl (fun c62 => ?_) (fun c62 => ?_)
              · replace h := h.1 c62
                refine r_aload_n (pc' := 76) C 0 rfl rfl dX10_readSymbols_75 rfl ?_
                refine r_getr (pc' := 79) (k := 58) (r := 16) C fl_X10_37 (by decide) kc_58 (by decide) fr_10_1 RV_58_1 dX10_readSymbols_76 rfl ?_
                refine r_iload_n (pc' := 80) C 2 rfl rfl dX10_readSymbols_79 rfl ?_
                refine c_Vv (pc' := 83) (mt := mX2_add) (as := [.int (i32 r2)]) (st := []) (k := 16) C h rfl cl_X2_add ml_X10_109 im_X2_add sl_X2_add (by omega) (Nat.le_refl _) (Nat.le_refl _) rfl (by decide) kc_16 (by decide) rfl rfl rfl (Nat.le_of_ble_eq_true rfl) dX10_readSymbols_80 rfl (fun r63 iv64 av65 h => ?_)
                refine r_goto (tgt := 172) C dX10_readSymbols_83 (by decide) ?_
                exact Wa.sub [0, 1] rfl h
              · replace h := h.2 c62
                refine r_iconst (pc' := 74) C dX10_readSymbols_73 rfl ?_
                exact r_zret C (by decide) ⟨rfl, rfl, h⟩ dX10_readSymbols_74
          · replace h := h.2 c13
            refine r_iconst (pc' := 51) C dX10_readSymbols_50 rfl ?_
            exact r_zret C (by decide) ⟨rfl, rfl, h⟩ dX10_readSymbols_51
        · replace h := h.2 c12
          exact Wa.sub [] rfl h
set_option maxHeartbeats 4000000 in
set_option maxRecDepth 100000 in
theorem o_X10_readSymbols {Y : Gl} {e : Nat} {P : PN} {iv av : IVt} (h : ∀ X : Cx, CX Y X RX10 "readSymbols" cX10_readSymbols 6 (some .boolean) (e + 3) 0 0 →
    L_X10_readSymbols_2 Y X P 0 iv av) : OkN Y (e + 3) mX10_readSymbols [.ref (gl_b Y + 58)] RV iv av 116 P := by
  refine OkW.of rfl (by show _ ≤ 6; exact Nat.le_of_ble_eq_true rfl) fun X C0 hR => ?_
  have C : CX Y X RX10 "readSymbols" cX10_readSymbols 6 (some .boolean) (e + 3) 0 0 := C0
  replace h := h X C
  show Wa Y X 6 (g_MQ Y X 1 (g_N RV 116 P) 0 0) 0 0 0 [(0, .ref (gl_b Y + 58))] [] RV iv av 116
  refine r_iconst (pc' := 1) C dX10_readSymbols_0 rfl ?_
  refine r_istore_n (pc' := 2) (ls' := [(0, .ref (gl_b Y + 58)), (1, .int (i32 0))]) C (by decide) rfl rfl dX10_readSymbols_1 rfl ?_
  exact Wa.sub [0, 1] rfl h
def L_X10_repeat_39 (Y : Gl) (X : Cx) (P : PN) (x1 : Int) (x2 : Int) (x3 : Int) (iv av : IVt) : Prop := Wa Y X 4 (g_MQ Y X 1 (g_N RV 116 P) 0 0) 0 0 39 [(0, .ref (gl_b Y + 58)), (1, .int (i32 x1)), (2, .int (i32 x2)), (3, .int (i32 x3))] [] RV iv av 116
set_option maxHeartbeats 4000000 in
set_option maxRecDepth 100000 in
theorem w_X10_repeat_39 {Y : Gl} {X : Cx} {e : Nat} {P : PN} {x1 : Int} {x2 : Int} {x3 : Int} {iv av : IVt} (C : CX Y X RX10 "repeat" cX10_repeat 4 (some .boolean) (e + 1) 0 0) (hx1 : InR x1) (hx3 : InR x3) (h :
    ((x1 ≤ x3) →
      P 1 iv av
    ) ∧
    ((¬ x1 ≤ x3) →
      OkN Y e mX2_count [.ref (gl_b Y + 16)] RV iv av 116 (fun r2 iv3 av4 =>
        (InR r2) →
        (InR (r2 - x2)) ∧
        OkN Y e mX2_at [.ref (gl_b Y + 16), .int (i32 (r2 - x2))] RV iv3 av4 116 (fun r7 iv8 av9 =>
          (InR r7) →
          OkN Y e mX2_add [.ref (gl_b Y + 16), .int (i32 r7)] RV iv8 av9 116 (fun r11 iv12 av13 =>
            L_X10_repeat_39 Y X P x1 x2 (x3 + 1) iv12 av13
          )
        )
      )
    )) : L_X10_repeat_39 Y X P x1 x2 x3 iv av := by
  unfold L_X10_repeat_39
  refine r_iload_n (pc' := 40) C 3 rfl rfl dX10_repeat_39 rfl ?_
  refine r_iload_n (pc' := 41) C 1 rfl rfl dX10_repeat_40 rfl ?_
  refine r_icmp_ge (pc' := 44) (tgt := 73) C hx3 hx1 dX10_repeat_41 (by decide) rfl (fun c1 => ?_) (fun c1 => ?_)
  · replace h := h.1 c1
    refine r_iconst (pc' := 74) C dX10_repeat_73 rfl ?_
    exact r_zret C (by decide) ⟨rfl, rfl, h⟩ dX10_repeat_74
  · replace h := h.2 c1
    refine r_aload_n (pc' := 45) C 0 rfl rfl dX10_repeat_44 rfl ?_
    refine r_getr (pc' := 48) (k := 58) (r := 16) C fl_X10_37 (by decide) kc_58 (by decide) fr_10_1 RV_58_1 dX10_repeat_45 rfl ?_
    refine r_aload_n (pc' := 49) C 0 rfl rfl dX10_repeat_48 rfl ?_
    refine r_getr (pc' := 52) (k := 58) (r := 16) C fl_X10_37 (by decide) kc_58 (by decide) fr_10_1 RV_58_1 dX10_repeat_49 rfl ?_
    refine r_aload_n (pc' := 53) C 0 rfl rfl dX10_repeat_52 rfl ?_
    refine r_getr (pc' := 56) (k := 58) (r := 16) C fl_X10_37 (by decide) kc_58 (by decide) fr_10_1 RV_58_1 dX10_repeat_53 rfl ?_
    refine c_Vi (pc' := 59) (mt := mX2_count) (as := []) (st := [.ref (gl_b Y + 16), .ref (gl_b Y + 16)]) (k := 16) C h rfl cl_X2_count ml_X10_101 im_X2_count sl_X2_count (by omega) (Nat.le_refl _) (Nat.le_refl _) rfl (by decide) kc_16 (by decide) rfl rfl rfl (Nat.le_of_ble_eq_true rfl) dX10_repeat_56 rfl (fun r2 iv3 av4 f5 h => ?_)
    replace h := h f5
    refine r_iload_n (pc' := 60) C 2 rfl rfl dX10_repeat_59 rfl ?_
    refine r_isub (pc' := 61) C dX10_repeat_60 rfl ?_
    have o6 := h.1
    replace h := h.2
    refine c_Vi (pc' := 64) (mt := mX2_at) (as := [.int (i32 (r2 - x2))]) (st := [.ref (gl_b Y + 16)]) (k := 16) C h rfl cl_X2_at ml_X10_151 im_X2_at sl_X2_at (by omega) (Nat.le_refl _) (Nat.le_refl _) rfl (by decide) kc_16 (by decide) rfl rfl rfl (Nat.le_of_ble_eq_true rfl) dX10_repeat_61 rfl (fun r7 iv8 av9 f10 h => ?_)
    replace h := h f10
    refine c_Vv (pc' := 67) (mt := mX2_add) (as := [.int (i32 r7)]) (st := []) (k := 16) C h rfl cl_X2_add ml_X10_109 im_X2_add sl_X2_add (by omega) (Nat.le_refl _) (Nat.le_refl _) rfl (by decide) kc_16 (by decide) rfl rfl rfl (Nat.le_of_ble_eq_true rfl) dX10_repeat_64 rfl (fun r11 iv12 av13 h => ?_)
    refine r_iinc (pc' := 70) (ls' := [(0, .ref (gl_b Y + 58)), (1, .int (i32 x1)), (2, .int (i32 x2)), (3, .int (i32 (x3 + 1)))]) C 3 rfl (by decide) rfl dX10_repeat_67 rfl ?_
    refine r_goto (tgt := 39) C dX10_repeat_70 (by decide) ?_
    exact Wa.sub [0, 1, 2, 3] rfl h
set_option maxHeartbeats 4000000 in
set_option maxRecDepth 100000 in
theorem o_X10_repeat {Y : Gl} {e : Nat} {P : PN} {x1 : Int} {x2 : Int} {iv av : IVt} (hx1 : InR x1) (hx2 : InR x2) (h : ∀ X : Cx, CX Y X RX10 "repeat" cX10_repeat 4 (some .boolean) (e + 1) 0 0 →
    OkN Y e mX2_count [.ref (gl_b Y + 16)] RV iv av 116 (fun r1 iv2 av3 =>
      (InR r1) →
      ((r1 < x2) →
        P 0 iv2 av3
      ) ∧
      ((¬ r1 < x2) →
        ((InR (iv2 58 9)) →
          (((iv2 58 9) < x2) →
            P 0 iv2 av3
          ) ∧
          ((¬ (iv2 58 9) < x2) →
            ((InR (iv2 58 8)) →
              OkN Y e mX2_count [.ref (gl_b Y + 16)] RV iv2 av3 116 (fun r9 iv10 av11 =>
                (InR r9) →
                (InR ((iv2 58 8) - r9)) ∧
                ((x1 ≤ ((iv2 58 8) - r9)) →
                  L_X10_repeat_39 Y X P x1 x2 0 iv10 av11
                ) ∧
                ((¬ x1 ≤ ((iv2 58 8) - r9)) →
                  P 0 iv10 av11
                )
              )
            )
          )
        )
      )
    )) : OkN Y (e + 1) mX10_repeat [.ref (gl_b Y + 58), .int (i32 x1), .int (i32 x2)] RV iv av 116 P := by
  refine OkW.of rfl (by show _ ≤ 4; exact Nat.le_of_ble_eq_true rfl) fun X C0 hR => ?_
  have C : CX Y X RX10 "repeat" cX10_repeat 4 (some .boolean) (e + 1) 0 0 := C0
  replace h := h X C
  show Wa Y X 4 (g_MQ Y X 1 (g_N RV 116 P) 0 0) 0 0 0 [(0, .ref (gl_b Y + 58)), (1, .int (i32 x1)), (2, .int (i32 x2))] [] RV iv av 116
  refine r_iload_n (pc' := 1) C 2 rfl rfl dX10_repeat_0 rfl ?_
  refine r_aload_n (pc' := 2) C 0 rfl rfl dX10_repeat_1 rfl ?_
  refine r_getr (pc' := 5) (k := 58) (r := 16) C fl_X10_37 (by decide) kc_58 (by decide) fr_10_1 RV_58_1 dX10_repeat_2 rfl ?_
  refine c_Vi (pc' := 8) (mt := mX2_count) (as := []) (st := [.int (i32 x2)]) (k := 16) C h rfl cl_X2_count ml_X10_101 im_X2_count sl_X2_count (by omega) (Nat.le_refl _) (Nat.le_refl _) rfl (by decide) kc_16 (by decide) rfl rfl rfl (Nat.le_of_ble_eq_true rfl) dX10_repeat_5 rfl (fun r1 iv2 av3 f4 h => ?_)
  replace h := h f4
  refine r_icmp_gt (pc' := 11) (tgt := 35) C hx2 f4 dX10_repeat_8 (by decide) rfl (fun c5 => ?_) (fun c5 => ?_)
  · replace h := h.1 c5
    refine r_iconst (pc' := 36) C dX10_repeat_35 rfl ?_
    exact r_zret C (by decide) ⟨rfl, rfl, h⟩ dX10_repeat_36
  · replace h := h.2 c5
    refine r_iload_n (pc' := 12) C 2 rfl rfl dX10_repeat_11 rfl ?_
    refine r_aload_n (pc' := 13) C 0 rfl rfl dX10_repeat_12 rfl ?_
    refine r_geti (pc' := 16) (k := 58) C fl_X10_92 (by decide) kc_58 (by decide) fr_10_9 dX10_repeat_13 rfl (fun f6 => ?_)
    replace h := h f6
    refine r_icmp_gt (pc' := 19) (tgt := 35) C hx2 f6 dX10_repeat_16 (by decide) rfl (fun c7 => ?_) (fun c7 => ?_)
    · replace h := h.1 c7
      refine r_iconst (pc' := 36) C dX10_repeat_35 rfl ?_
      exact r_zret C (by decide) ⟨rfl, rfl, h⟩ dX10_repeat_36
    · replace h := h.2 c7
      refine r_iload_n (pc' := 20) C 1 rfl rfl dX10_repeat_19 rfl ?_
      refine r_aload_n (pc' := 21) C 0 rfl rfl dX10_repeat_20 rfl ?_
      refine r_geti (pc' := 24) (k := 58) C fl_X10_47 (by decide) kc_58 (by decide) fr_10_8 dX10_repeat_21 rfl (fun f8 => ?_)
      replace h := h f8
      refine r_aload_n (pc' := 25) C 0 rfl rfl dX10_repeat_24 rfl ?_
      refine r_getr (pc' := 28) (k := 58) (r := 16) C fl_X10_37 (by decide) kc_58 (by decide) fr_10_1 RV_58_1 dX10_repeat_25 rfl ?_
      refine c_Vi (pc' := 31) (mt := mX2_count) (as := []) (st := [.int (i32 (iv2 58 8)), .int (i32 x1)]) (k := 16) C h rfl cl_X2_count ml_X10_101 im_X2_count sl_X2_count (by omega) (Nat.le_refl _) (Nat.le_refl _) rfl (by decide) kc_16 (by decide) rfl rfl rfl (Nat.le_of_ble_eq_true rfl) dX10_repeat_28 rfl (fun r9 iv10 av11 f12 h => ?_)
      replace h := h f12
      refine r_isub (pc' := 32) C dX10_repeat_31 rfl ?_
      have o13 := h.1
      replace h := h.2
      refine r_icmp_le (pc' := 35) (tgt := 37) C hx1 o13 dX10_repeat_32 (by decide) rfl (fun c14 => ?_) (fun c14 => ?_)
      · replace h := h.1 c14
        refine r_iconst (pc' := 38) C dX10_repeat_37 rfl ?_
        refine r_istore_n (pc' := 39) (ls' := [(0, .ref (gl_b Y + 58)), (1, .int (i32 x1)), (2, .int (i32 x2)), (3, .int (i32 0))]) C (by decide) rfl rfl dX10_repeat_38 rfl ?_
        exact Wa.sub [0, 1, 2, 3] rfl h
      · replace h := h.2 c14
        refine r_iconst (pc' := 36) C dX10_repeat_35 rfl ?_
        exact r_zret C (by decide) ⟨rfl, rfl, h⟩ dX10_repeat_36
def L_X11_feed_30 (Y : Gl) (X : Cx) (P : PN) (x1 : Int) (x3 : Int) (x4 : Int) (iv av : IVt) : Prop := Wa Y X 5 (g_MQ Y X 1 (g_N RV 116 P) 0 0) 0 0 30 [(0, .ref (gl_b Y + 0)), (1, .long (i64 x1)), (3, .int (i32 x3)), (4, .int (i32 x4))] [] RV iv av 116
set_option maxHeartbeats 4000000 in
set_option maxRecDepth 100000 in
theorem w_X11_feed_30 {Y : Gl} {X : Cx} {e : Nat} {P : PN} {x1 : Int} {x3 : Int} {x4 : Int} {iv av : IVt} (C : CX Y X RX11 "feed" cX11_feed 5 (some .int) (e + 1) 0 0) (hx3 : InR x3) (hx4 : InR x4) (h :
    ((x3 ≤ x4) →
      OkN Y e mX2_count [.ref (gl_b Y + 10)] RV iv av 116 (fun r2 iv3 av4 =>
        (InR r2) →
        P r2 iv3 av4
      )
    ) ∧
    ((¬ x3 ≤ x4) →
      (0 ≤ (8 * x4) ∧ (8 * x4) ≤ 63) ∧
      OkN Y e mX2_add [.ref (gl_b Y + 10), .int (i32 (bm32 (x1 % 18446744073709551616 / 2 ^ (8 * x4).toNat)))] RV iv av 116 (fun r7 iv8 av9 =>
        L_X11_feed_30 Y X P x1 x3 (x4 + 1) iv8 av9
      )
    )) : L_X11_feed_30 Y X P x1 x3 x4 iv av := by
  unfold L_X11_feed_30
  refine r_iload (pc' := 32) C 3 rfl dX11_feed_30 rfl ?_
  refine r_iload_n (pc' := 33) C 2 rfl rfl dX11_feed_32 rfl ?_
  refine r_icmp_ge (pc' := 36) (tgt := 57) C hx4 hx3 dX11_feed_33 (by decide) rfl (fun c1 => ?_) (fun c1 => ?_)
  · replace h := h.1 c1
    refine r_aload_n (pc' := 58) C 0 rfl rfl dX11_feed_57 rfl ?_
    refine r_getr (pc' := 61) (k := 0) (r := 10) C fl_X11_28 (by decide) kc_0 (by decide) fr_11_2 RV_0_2 dX11_feed_58 rfl ?_
    refine c_Vi (pc' := 64) (mt := mX2_count) (as := []) (st := []) (k := 10) C h rfl cl_X2_count ml_X11_78 im_X2_count sl_X2_count (by omega) (Nat.le_refl _) (Nat.le_refl _) rfl (by decide) kc_10 (by decide) rfl rfl rfl (Nat.le_of_ble_eq_true rfl) dX11_feed_61 rfl (fun r2 iv3 av4 f5 h => ?_)
    replace h := h f5
    exact r_iret C f5 ⟨rfl, rfl, h⟩ dX11_feed_64
  · replace h := h.2 c1
    refine r_aload_n (pc' := 37) C 0 rfl rfl dX11_feed_36 rfl ?_
    refine r_getr (pc' := 40) (k := 0) (r := 10) C fl_X11_28 (by decide) kc_0 (by decide) fr_11_2 RV_0_2 dX11_feed_37 rfl ?_
    refine r_lload_n (pc' := 41) C 1 rfl rfl dX11_feed_40 rfl ?_
    refine r_bipush (pc' := 43) C dX11_feed_41 (by decide) rfl ?_
    refine r_iload (pc' := 45) C 3 rfl dX11_feed_43 rfl ?_
    refine r_imul (pc' := 46) C dX11_feed_45 rfl ?_
    have o6 := h.1
    replace h := h.2
    refine r_lushr (pc' := 47) C o6 dX11_feed_46 rfl ?_
    refine r_l2i (pc' := 48) C dX11_feed_47 rfl ?_
    refine r_wrap ?_
    refine c_Vv (pc' := 51) (mt := mX2_add) (as := [.int (i32 (bm32 (x1 % 18446744073709551616 / 2 ^ (8 * x4).toNat)))]) (st := []) (k := 10) C h rfl cl_X2_add ml_X11_75 im_X2_add sl_X2_add (by omega) (Nat.le_refl _) (Nat.le_refl _) rfl (by decide) kc_10 (by decide) rfl rfl rfl (Nat.le_of_ble_eq_true rfl) dX11_feed_48 rfl (fun r7 iv8 av9 h => ?_)
    refine r_iinc (pc' := 54) (ls' := [(0, .ref (gl_b Y + 0)), (1, .long (i64 x1)), (3, .int (i32 x3)), (4, .int (i32 (x4 + 1)))]) C 3 rfl (by decide) rfl dX11_feed_51 rfl ?_
    refine r_goto (tgt := 30) C dX11_feed_54 (by decide) ?_
    exact Wa.sub [0, 1, 2, 3] rfl h
set_option maxHeartbeats 4000000 in
set_option maxRecDepth 100000 in
theorem o_X11_feed {Y : Gl} {e : Nat} {P : PN} {x1 : Int} {x3 : Int} {iv av : IVt} (hx3 : InR x3) (h : ∀ X : Cx, CX Y X RX11 "feed" cX11_feed 5 (some .int) (e + 1) 0 0 →
    ((x3 < 1) →
      P (-1) iv av
    ) ∧
    ((¬ x3 < 1) →
      ((x3 ≤ 8) →
        OkN Y e mX2_room [.ref (gl_b Y + 10)] RV iv av 116 (fun r3 iv4 av5 =>
          (InR r3) →
          ((x3 ≤ r3) →
            L_X11_feed_30 Y X P x1 x3 0 iv4 av5
          ) ∧
          ((¬ x3 ≤ r3) →
            P (-3) iv4 av5
          )
        )
      ) ∧
      ((¬ x3 ≤ 8) →
        P (-1) iv av
      )
    )) : OkN Y (e + 1) mX11_feed [.ref (gl_b Y + 0), .long (i64 x1), .int (i32 x3)] RV iv av 116 P := by
  refine OkW.of rfl (by show _ ≤ 5; exact Nat.le_of_ble_eq_true rfl) fun X C0 hR => ?_
  have C : CX Y X RX11 "feed" cX11_feed 5 (some .int) (e + 1) 0 0 := C0
  replace h := h X C
  show Wa Y X 5 (g_MQ Y X 1 (g_N RV 116 P) 0 0) 0 0 0 [(0, .ref (gl_b Y + 0)), (1, .long (i64 x1)), (3, .int (i32 x3))] [] RV iv av 116
  refine r_iload_n (pc' := 1) C 2 rfl rfl dX11_feed_0 rfl ?_
  refine r_iconst (pc' := 2) C dX11_feed_1 rfl ?_
  refine r_icmp_lt (pc' := 5) (tgt := 11) C hx3 (by decide) dX11_feed_2 (by decide) rfl (fun c1 => ?_) (fun c1 => ?_)
  · replace h := h.1 c1
    refine r_iconst (pc' := 12) C dX11_feed_11 rfl ?_
    exact r_iret C (by decide) ⟨rfl, rfl, h⟩ dX11_feed_12
  · replace h := h.2 c1
    refine r_iload_n (pc' := 6) C 2 rfl rfl dX11_feed_5 rfl ?_
    refine r_bipush (pc' := 8) C dX11_feed_6 (by decide) rfl ?_
    refine r_icmp_le (pc' := 11) (tgt := 13) C hx3 (by decide) dX11_feed_8 (by decide) rfl (fun c2 => ?_) (fun c2 => ?_)
    · replace h := h.1 c2
      refine r_iload_n (pc' := 14) C 2 rfl rfl dX11_feed_13 rfl ?_
      refine r_aload_n (pc' := 15) C 0 rfl rfl dX11_feed_14 rfl ?_
      refine r_getr (pc' := 18) (k := 0) (r := 10) C fl_X11_28 (by decide) kc_0 (by decide) fr_11_2 RV_0_2 dX11_feed_15 rfl ?_
      refine c_Vi (pc' := 21) (mt := mX2_room) (as := []) (st := [.int (i32 x3)]) (k := 10) C h rfl cl_X2_room ml_X11_71 im_X2_room sl_X2_room (by omega) (Nat.le_refl _) (Nat.le_refl _) rfl (by decide) kc_10 (by decide) rfl rfl rfl (Nat.le_of_ble_eq_true rfl) dX11_feed_18 rfl (fun r3 iv4 av5 f6 h => ?_)
      replace h := h f6
      refine r_icmp_le (pc' := 24) (tgt := 27) C hx3 f6 dX11_feed_21 (by decide) rfl (fun c7 => ?_) (fun c7 => ?_)
      · replace h := h.1 c7
        refine r_iconst (pc' := 28) C dX11_feed_27 rfl ?_
        refine r_istore (pc' := 30) (ls' := [(0, .ref (gl_b Y + 0)), (1, .long (i64 x1)), (3, .int (i32 x3)), (4, .int (i32 0))]) C (by decide) rfl dX11_feed_28 rfl ?_
        exact Wa.sub [0, 1, 2, 3] rfl h
      · replace h := h.2 c7
        refine r_bipush (pc' := 26) C dX11_feed_24 (by decide) rfl ?_
        exact r_iret C (by decide) ⟨rfl, rfl, h⟩ dX11_feed_26
    · replace h := h.2 c2
      refine r_iconst (pc' := 12) C dX11_feed_11 rfl ?_
      exact r_iret C (by decide) ⟨rfl, rfl, h⟩ dX11_feed_12
set_option maxHeartbeats 4000000 in
set_option maxRecDepth 100000 in
theorem o_X11_write {Y : Gl} {e : Nat} {P : PN} {x1 : Int} {x2 : Int} {iv av : IVt} (hx1 : InR x1) (hx2 : InR x2) (h : 
    OkN Y (e + 3) mX11_writeTape [.ref (gl_b Y + 0), .int (i32 x1), .int (i32 x2)] RV iv av 116 (fun r1 iv2 av3 =>
      (InR r1) →
      OkN Y (e + 3) mX2_keep [.ref (gl_b Y + 10), .int (i32 0)] RV iv2 av3 116 (fun r5 iv6 av7 =>
        P r1 iv6 av7
      )
    )) : OkN Y (e + 4) mX11_write [.ref (gl_b Y + 0), .int (i32 x1), .int (i32 x2)] RV iv av 116 P := by
  refine OkW.of rfl (by show _ ≤ 4; exact Nat.le_of_ble_eq_true rfl) fun X C0 hR => ?_
  have C : CX Y X RX11 "write" cX11_write 4 (some .int) (e + 4) 0 0 := C0
  show Wa Y X 4 (g_MQ Y X 1 (g_N RV 116 P) 0 0) 0 0 0 [(0, .ref (gl_b Y + 0)), (1, .int (i32 x1)), (2, .int (i32 x2))] [] RV iv av 116
  refine r_aload_n (pc' := 1) C 0 rfl rfl dX11_write_0 rfl ?_
  refine r_iload_n (pc' := 2) C 1 rfl rfl dX11_write_1 rfl ?_
  refine r_iload_n (pc' := 3) C 2 rfl rfl dX11_write_2 rfl ?_
  refine c_Vi (pc' := 6) (mt := mX11_writeTape) (as := [.int (i32 x1), .int (i32 x2)]) (st := []) (k := 0) C h rfl cl_X11_writeTape ml_X11_81 im_X11_writeTape sl_X11_writeTape (by omega) (Nat.le_refl _) (Nat.le_refl _) rfl (by decide) kc_0 (by decide) rfl rfl rfl (Nat.le_of_ble_eq_true rfl) dX11_write_3 rfl (fun r1 iv2 av3 f4 h => ?_)
  replace h := h f4
  refine r_istore_n (pc' := 7) (ls' := [(0, .ref (gl_b Y + 0)), (1, .int (i32 x1)), (2, .int (i32 x2)), (3, .int (i32 r1))]) C (by decide) rfl rfl dX11_write_6 rfl ?_
  refine r_aload_n (pc' := 8) C 0 rfl rfl dX11_write_7 rfl ?_
  refine r_getr (pc' := 11) (k := 0) (r := 10) C fl_X11_28 (by decide) kc_0 (by decide) fr_11_2 RV_0_2 dX11_write_8 rfl ?_
  refine r_iconst (pc' := 12) C dX11_write_11 rfl ?_
  refine c_Vv (pc' := 15) (mt := mX2_keep) (as := [.int (i32 0)]) (st := []) (k := 10) C h rfl cl_X2_keep ml_X11_85 im_X2_keep sl_X2_keep (by omega) (Nat.le_refl _) (Nat.le_refl _) rfl (by decide) kc_10 (by decide) rfl rfl rfl (Nat.le_of_ble_eq_true rfl) dX11_write_12 rfl (fun r5 iv6 av7 h => ?_)
  refine r_iload_n (pc' := 16) C 3 rfl rfl dX11_write_15 rfl ?_
  exact r_iret C f4 ⟨rfl, rfl, h⟩ dX11_write_16
def L_X11_writeTape_60 (Y : Gl) (X : Cx) (P : PN) (x1 : Int) (x2 : Int) (x3 : Int) (x4 : Int) (x5 : Int) (iv av : IVt) : Prop := Wa Y X 7 (g_MQ Y X 1 (g_N RV 116 P) 0 0) 0 0 60 [(0, .ref (gl_b Y + 0)), (1, .int (i32 x1)), (2, .int (i32 x2)), (3, .int (i32 x3)), (4, .int (i32 x4)), (5, .int (i32 x5))] [] RV iv av 116
def L_X11_writeTape_69 (Y : Gl) (X : Cx) (P : PN) (x1 : Int) (x2 : Int) (x3 : Int) (x4 : Int) (x5 : Int) (x6 : Int) (iv av : IVt) : Prop := Wa Y X 7 (g_MQ Y X 1 (g_N RV 116 P) 0 0) 0 0 69 [(0, .ref (gl_b Y + 0)), (1, .int (i32 x1)), (2, .int (i32 x2)), (3, .int (i32 x3)), (4, .int (i32 x4)), (5, .int (i32 x5)), (6, .int (i32 x6))] [] RV iv av 116
set_option maxHeartbeats 4000000 in
set_option maxRecDepth 100000 in
theorem w_X11_writeTape_69 {Y : Gl} {X : Cx} {e : Nat} {P : PN} {x1 : Int} {x2 : Int} {x3 : Int} {x4 : Int} {x5 : Int} {x6 : Int} {iv av : IVt} (C : CX Y X RX11 "writeTape" cX11_writeTape 7 (some .int) (e + 3) 0 0) (hx3 : InR x3) (hx6 : InR x6) (h :
    ((x3 ≤ x6) →
      L_X11_writeTape_60 Y X P x1 x2 x3 x4 (x5 + 1) iv av
    ) ∧
    ((¬ x3 ≤ x6) →
      OkN Y (e + 2) mX2_at [.ref (gl_b Y + 10), .int (i32 x6)] RV iv av 116 (fun r2 iv3 av4 =>
        (InR r2) →
        (InR ((x4 + (x5 * x3)) + x6)) ∧
        OkN Y (e + 2) mX4_set [.ref (gl_b Y + 1), .int (i32 ((x4 + (x5 * x3)) + x6)), .int (i32 r2)] RV iv3 av4 116 (fun r7 iv8 av9 =>
          L_X11_writeTape_69 Y X P x1 x2 x3 x4 x5 (x6 + 1) iv8 av9
        )
      )
    )) : L_X11_writeTape_69 Y X P x1 x2 x3 x4 x5 x6 iv av := by
  unfold L_X11_writeTape_69
  refine r_iload (pc' := 71) C 6 rfl dX11_writeTape_69 rfl ?_
  refine r_iload_n (pc' := 72) C 3 rfl rfl dX11_writeTape_71 rfl ?_
  refine r_icmp_ge (pc' := 75) (tgt := 107) C hx6 hx3 dX11_writeTape_72 (by decide) rfl (fun c1 => ?_) (fun c1 => ?_)
  · replace h := h.1 c1
    refine r_iinc (pc' := 110) (ls' := [(0, .ref (gl_b Y + 0)), (1, .int (i32 x1)), (2, .int (i32 x2)), (3, .int (i32 x3)), (4, .int (i32 x4)), (5, .int (i32 (x5 + 1))), (6, .int (i32 x6))]) C 5 rfl (by decide) rfl dX11_writeTape_107 rfl ?_
    refine r_goto (tgt := 60) C dX11_writeTape_110 (by decide) ?_
    exact Wa.sub [0, 1, 2, 3, 4, 5] rfl h
  · replace h := h.2 c1
    refine r_aload_n (pc' := 76) C 0 rfl rfl dX11_writeTape_75 rfl ?_
    refine r_getr (pc' := 79) (k := 0) (r := 1) C fl_X11_10 (by decide) kc_0 (by decide) fr_11_0 RV_0_0 dX11_writeTape_76 rfl ?_
    refine r_iload (pc' := 81) C 4 rfl dX11_writeTape_79 rfl ?_
    refine r_iload (pc' := 83) C 5 rfl dX11_writeTape_81 rfl ?_
    refine r_iload_n (pc' := 84) C 3 rfl rfl dX11_writeTape_83 rfl ?_
    refine r_imul (pc' := 85) C dX11_writeTape_84 rfl ?_
    refine r_iadd (pc' := 86) C dX11_writeTape_85 rfl ?_
    refine r_iload (pc' := 88) C 6 rfl dX11_writeTape_86 rfl ?_
    refine r_iadd (pc' := 89) C dX11_writeTape_88 rfl ?_
    refine r_aload_n (pc' := 90) C 0 rfl rfl dX11_writeTape_89 rfl ?_
    refine r_getr (pc' := 93) (k := 0) (r := 10) C fl_X11_28 (by decide) kc_0 (by decide) fr_11_2 RV_0_2 dX11_writeTape_90 rfl ?_
    refine r_iload (pc' := 95) C 6 rfl dX11_writeTape_93 rfl ?_
    refine c_Vi (pc' := 98) (mt := mX2_at) (as := [.int (i32 x6)]) (st := [.int (i32 ((x4 + (x5 * x3)) + x6)), .ref (gl_b Y + 1)]) (k := 10) C h rfl cl_X2_at ml_X11_96 im_X2_at sl_X2_at (by omega) (Nat.le_refl _) (Nat.le_refl _) rfl (by decide) kc_10 (by decide) rfl rfl rfl (Nat.le_of_ble_eq_true rfl) dX11_writeTape_95 rfl (fun r2 iv3 av4 f5 h => ?_)
    replace h := h f5
    have o6 := h.1
    replace h := h.2
    refine c_Vv (pc' := 101) (mt := mX4_set) (as := [.int (i32 ((x4 + (x5 * x3)) + x6)), .int (i32 r2)]) (st := []) (k := 1) C h rfl cl_X4_set ml_X11_100 im_X4_set sl_X4_set (by omega) (Nat.le_refl _) (Nat.le_refl _) rfl (by decide) kc_1 (by decide) rfl rfl rfl (Nat.le_of_ble_eq_true rfl) dX11_writeTape_98 rfl (fun r7 iv8 av9 h => ?_)
    refine r_iinc (pc' := 104) (ls' := [(0, .ref (gl_b Y + 0)), (1, .int (i32 x1)), (2, .int (i32 x2)), (3, .int (i32 x3)), (4, .int (i32 x4)), (5, .int (i32 x5)), (6, .int (i32 (x6 + 1)))]) C 6 rfl (by decide) rfl dX11_writeTape_101 rfl ?_
    refine r_goto (tgt := 69) C dX11_writeTape_104 (by decide) ?_
    exact Wa.sub [0, 1, 2, 3, 4, 5, 6] rfl h
set_option maxHeartbeats 4000000 in
set_option maxRecDepth 100000 in
theorem w_X11_writeTape_60 {Y : Gl} {X : Cx} {e : Nat} {P : PN} {x1 : Int} {x2 : Int} {x3 : Int} {x4 : Int} {x5 : Int} {iv av : IVt} (C : CX Y X RX11 "writeTape" cX11_writeTape 7 (some .int) (e + 3) 0 0) (hx1 : InR x1) (hx2 : InR x2) (hx5 : InR x5) (h :
    ((x2 ≤ x5) →
      OkN Y (e + 2) mX4_count [.ref (gl_b Y + 1), .int (i32 x1)] RV iv av 116 (fun r2 iv3 av4 =>
        (InR r2) →
        P r2 iv3 av4
      )
    ) ∧
    ((¬ x2 ≤ x5) →
      L_X11_writeTape_69 Y X P x1 x2 x3 x4 x5 0 iv av
    )) : L_X11_writeTape_60 Y X P x1 x2 x3 x4 x5 iv av := by
  unfold L_X11_writeTape_60
  refine r_iload (pc' := 62) C 5 rfl dX11_writeTape_60 rfl ?_
  refine r_iload_n (pc' := 63) C 2 rfl rfl dX11_writeTape_62 rfl ?_
  refine r_icmp_ge (pc' := 66) (tgt := 113) C hx5 hx2 dX11_writeTape_63 (by decide) rfl (fun c1 => ?_) (fun c1 => ?_)
  · replace h := h.1 c1
    refine r_aload_n (pc' := 114) C 0 rfl rfl dX11_writeTape_113 rfl ?_
    refine r_getr (pc' := 117) (k := 0) (r := 1) C fl_X11_10 (by decide) kc_0 (by decide) fr_11_0 RV_0_0 dX11_writeTape_114 rfl ?_
    refine r_iload_n (pc' := 118) C 1 rfl rfl dX11_writeTape_117 rfl ?_
    refine c_Vi (pc' := 121) (mt := mX4_count) (as := [.int (i32 x1)]) (st := []) (k := 1) C h rfl cl_X4_count ml_X11_104 im_X4_count sl_X4_count (by omega) (Nat.le_refl _) (Nat.le_refl _) rfl (by decide) kc_1 (by decide) rfl rfl rfl (Nat.le_of_ble_eq_true rfl) dX11_writeTape_118 rfl (fun r2 iv3 av4 f5 h => ?_)
    replace h := h f5
    exact r_iret C f5 ⟨rfl, rfl, h⟩ dX11_writeTape_121
  · replace h := h.2 c1
    refine r_iconst (pc' := 67) C dX11_writeTape_66 rfl ?_
    refine r_istore (pc' := 69) (ls' := [(0, .ref (gl_b Y + 0)), (1, .int (i32 x1)), (2, .int (i32 x2)), (3, .int (i32 x3)), (4, .int (i32 x4)), (5, .int (i32 x5)), (6, .int (i32 0))]) C (by decide) rfl dX11_writeTape_67 rfl ?_
    exact Wa.sub [0, 1, 2, 3, 4, 5, 6] rfl h
set_option maxHeartbeats 4000000 in
set_option maxRecDepth 100000 in
theorem o_X11_writeTape {Y : Gl} {e : Nat} {P : PN} {x1 : Int} {x2 : Int} {iv av : IVt} (hx1 : InR x1) (hx2 : InR x2) (h : ∀ X : Cx, CX Y X RX11 "writeTape" cX11_writeTape 7 (some .int) (e + 3) 0 0 →
    OkN Y (e + 2) mX11_isFile [.int (i32 x1)] RV iv av 116 (fun r1 iv2 av3 =>
      (InR r1) →
      ((r1 = 0) →
        P (-1) iv2 av3
      ) ∧
      ((¬ r1 = 0) →
        ((x2 < 1) →
          P (-1) iv2 av3
        ) ∧
        ((¬ x2 < 1) →
          ((x2 ≤ 64) →
            OkN Y (e + 2) mX2_count [.ref (gl_b Y + 10)] RV iv2 av3 116 (fun r8 iv9 av10 =>
              (InR r8) →
              OkN Y (e + 2) mX4_room [.ref (gl_b Y + 1)] RV iv9 av10 116 (fun r12 iv13 av14 =>
                (InR r12) →
                (InR (r8 * x2)) ∧
                (((r8 * x2) ≤ r12) →
                  OkN Y (e + 2) mX4_open [.ref (gl_b Y + 1), .int (i32 x1), .int (i32 (r8 * x2))] RV iv13 av14 116 (fun r18 iv19 av20 =>
                    (InR r18) →
                    L_X11_writeTape_60 Y X P x1 x2 r8 r18 0 iv19 av20
                  )
                ) ∧
                ((¬ (r8 * x2) ≤ r12) →
                  P (-3) iv13 av14
                )
              )
            )
          ) ∧
          ((¬ x2 ≤ 64) →
            P (-1) iv2 av3
          )
        )
      )
    )) : OkN Y (e + 3) mX11_writeTape [.ref (gl_b Y + 0), .int (i32 x1), .int (i32 x2)] RV iv av 116 P := by
  refine OkW.of rfl (by show _ ≤ 7; exact Nat.le_of_ble_eq_true rfl) fun X C0 hR => ?_
  have C : CX Y X RX11 "writeTape" cX11_writeTape 7 (some .int) (e + 3) 0 0 := C0
  replace h := h X C
  show Wa Y X 7 (g_MQ Y X 1 (g_N RV 116 P) 0 0) 0 0 0 [(0, .ref (gl_b Y + 0)), (1, .int (i32 x1)), (2, .int (i32 x2))] [] RV iv av 116
  refine r_iload_n (pc' := 1) C 1 rfl rfl dX11_writeTape_0 rfl ?_
  refine c_Si (pc' := 4) (mt := mX11_isFile) (as := [.int (i32 x1)]) (st := []) C h rfl cl_X11_isFile ml_X11_88 sm_X11_isFile (by omega) (Nat.le_refl _) (Nat.le_refl _) rfl rfl (Nat.le_of_ble_eq_true rfl) dX11_writeTape_1 rfl (fun r1 iv2 av3 f4 h => ?_)
  replace h := h f4
  refine r_if_eq (pc' := 7) (tgt := 18) C f4 dX11_writeTape_4 (by decide) rfl (fun c5 => ?_) (fun c5 => ?_)
  · replace h := h.1 c5
    refine r_iconst (pc' := 19) C dX11_writeTape_18 rfl ?_
    exact r_iret C (by decide) ⟨rfl, rfl, h⟩ dX11_writeTape_19
  · replace h := h.2 c5
    refine r_iload_n (pc' := 8) C 2 rfl rfl dX11_writeTape_7 rfl ?_
    refine r_iconst (pc' := 9) C dX11_writeTape_8 rfl ?_
    refine r_icmp_lt (pc' := 12) (tgt := 18) C hx2 (by decide) dX11_writeTape_9 (by decide) rfl (fun c6 => ?_) (fun c6 => ?_)
    · replace h := h.1 c6
      refine r_iconst (pc' := 19) C dX11_writeTape_18 rfl ?_
      exact r_iret C (by decide) ⟨rfl, rfl, h⟩ dX11_writeTape_19
    · replace h := h.2 c6
      refine r_iload_n (pc' := 13) C 2 rfl rfl dX11_writeTape_12 rfl ?_
      refine r_bipush (pc' := 15) C dX11_writeTape_13 (by decide) rfl ?_
      refine r_icmp_le (pc' := 18) (tgt := 20) C hx2 (by decide) dX11_writeTape_15 (by decide) rfl (fun c7 => ?_) (fun c7 => ?_)
      · replace h := h.1 c7
        refine r_aload_n (pc' := 21) C 0 rfl rfl dX11_writeTape_20 rfl ?_
        refine r_getr (pc' := 24) (k := 0) (r := 10) C fl_X11_28 (by decide) kc_0 (by decide) fr_11_2 RV_0_2 dX11_writeTape_21 rfl ?_
        refine c_Vi (pc' := 27) (mt := mX2_count) (as := []) (st := []) (k := 10) C h rfl cl_X2_count ml_X11_78 im_X2_count sl_X2_count (by omega) (Nat.le_refl _) (Nat.le_refl _) rfl (by decide) kc_10 (by decide) rfl rfl rfl (Nat.le_of_ble_eq_true rfl) dX11_writeTape_24 rfl (fun r8 iv9 av10 f11 h => ?_)
        replace h := h f11
        refine r_istore_n (pc' := 28) (ls' := [(0, .ref (gl_b Y + 0)), (1, .int (i32 x1)), (2, .int (i32 x2)), (3, .int (i32 r8))]) C (by decide) rfl rfl dX11_writeTape_27 rfl ?_
        refine r_iload_n (pc' := 29) C 3 rfl rfl dX11_writeTape_28 rfl ?_
        refine r_iload_n (pc' := 30) C 2 rfl rfl dX11_writeTape_29 rfl ?_
        refine r_imul (pc' := 31) C dX11_writeTape_30 rfl ?_
        refine r_aload_n (pc' := 32) C 0 rfl rfl dX11_writeTape_31 rfl ?_
        refine r_getr (pc' := 35) (k := 0) (r := 1) C fl_X11_10 (by decide) kc_0 (by decide) fr_11_0 RV_0_0 dX11_writeTape_32 rfl ?_
        refine c_Vi (pc' := 38) (mt := mX4_room) (as := []) (st := [.int (i32 (r8 * x2))]) (k := 1) C h rfl cl_X4_room ml_X11_92 im_X4_room sl_X4_room (by omega) (Nat.le_refl _) (Nat.le_refl _) rfl (by decide) kc_1 (by decide) rfl rfl rfl (Nat.le_of_ble_eq_true rfl) dX11_writeTape_35 rfl (fun r12 iv13 av14 f15 h => ?_)
        replace h := h f15
        have o16 := h.1
        replace h := h.2
        refine r_icmp_le (pc' := 41) (tgt := 44) C o16 f15 dX11_writeTape_38 (by decide) rfl (fun c17 => ?_) (fun c17 => ?_)
        · replace h := h.1 c17
          refine r_aload_n (pc' := 45) C 0 rfl rfl dX11_writeTape_44 rfl ?_
          refine r_getr (pc' := 48) (k := 0) (r := 1) C fl_X11_10 (by decide) kc_0 (by decide) fr_11_0 RV_0_0 dX11_writeTape_45 rfl ?_
          refine r_iload_n (pc' := 49) C 1 rfl rfl dX11_writeTape_48 rfl ?_
          refine r_iload_n (pc' := 50) C 3 rfl rfl dX11_writeTape_49 rfl ?_
          refine r_iload_n (pc' := 51) C 2 rfl rfl dX11_writeTape_50 rfl ?_
          refine r_imul (pc' := 52) C dX11_writeTape_51 rfl ?_
          refine c_Vi (pc' := 55) (mt := mX4_open) (as := [.int (i32 x1), .int (i32 (r8 * x2))]) (st := []) (k := 1) C h rfl cl_X4_open ml_X11_93 im_X4_open sl_X4_open (by omega) (Nat.le_refl _) (Nat.le_refl _) rfl (by decide) kc_1 (by decide) rfl rfl rfl (Nat.le_of_ble_eq_true rfl) dX11_writeTape_52 rfl (fun r18 iv19 av20 f21 h => ?_)
          replace h := h f21
          refine r_istore (pc' := 57) (ls' := [(0, .ref (gl_b Y + 0)), (1, .int (i32 x1)), (2, .int (i32 x2)), (3, .int (i32 r8)), (4, .int (i32 r18))]) C (by decide) rfl dX11_writeTape_55 rfl ?_
          refine r_iconst (pc' := 58) C dX11_writeTape_57 rfl ?_
          refine r_istore (pc' := 60) (ls' := [(0, .ref (gl_b Y + 0)), (1, .int (i32 x1)), (2, .int (i32 x2)), (3, .int (i32 r8)), (4, .int (i32 r18)), (5, .int (i32 0))]) C (by decide) rfl dX11_writeTape_58 rfl ?_
          exact Wa.sub [0, 1, 2, 3, 4, 5] rfl h
        · replace h := h.2 c17
          refine r_bipush (pc' := 43) C dX11_writeTape_41 (by decide) rfl ?_
          exact r_iret C (by decide) ⟨rfl, rfl, h⟩ dX11_writeTape_43
      · replace h := h.2 c7
        refine r_iconst (pc' := 19) C dX11_writeTape_18 rfl ?_
        exact r_iret C (by decide) ⟨rfl, rfl, h⟩ dX11_writeTape_19
def L_X11_fill_64 (Y : Gl) (X : Cx) (P : PN) (x1 : Int) (x2 : Int) (x3 : Int) (x4 : Int) (x5 : Int) (x6 : Int) (x7 : Int) (iv av : IVt) : Prop := Wa Y X 8 (g_MQ Y X 1 (g_N RV 116 P) 0 0) 0 0 64 [(0, .ref (gl_b Y + 0)), (1, .int (i32 x1)), (2, .int (i32 x2)), (3, .int (i32 x3)), (4, .int (i32 x4)), (5, .int (i32 x5)), (6, .int (i32 x6)), (7, .int (i32 x7))] [] RV iv av 116
set_option maxHeartbeats 4000000 in
set_option maxRecDepth 100000 in
theorem w_X11_fill_64 {Y : Gl} {X : Cx} {e : Nat} {P : PN} {x1 : Int} {x2 : Int} {x3 : Int} {x4 : Int} {x5 : Int} {x6 : Int} {x7 : Int} {iv av : IVt} (C : CX Y X RX11 "fill" cX11_fill 8 (some .int) (e + 3) 0 0) (hx1 : InR x1) (hx2 : InR x2) (hx3 : InR x3) (hx4 : InR x4) (hx6 : InR x6) (hx7 : InR x7) (h :
    ((x4 ≤ x7) →
      OkN Y (e + 2) mX4_count [.ref (gl_b Y + 1), .int (i32 x1)] RV iv av 116 (fun r2 iv3 av4 =>
        (InR r2) →
        P r2 iv3 av4
      )
    ) ∧
    ((¬ x4 ≤ x7) →
      ((¬ x2 = 1) →
        ((¬ x2 = 1) →
          (InR (x5 + x7)) ∧
          OkN Y (e + 2) mX4_set [.ref (gl_b Y + 1), .int (i32 (x5 + x7)), .int (i32 x3)] RV iv av 116 (fun r9 iv10 av11 =>
            L_X11_fill_64 Y X P x1 x2 x3 x4 x5 x6 (x7 + 1) iv10 av11
          )
        ) ∧
        ((x2 = 1) →
          (InR (x5 + x7)) ∧
          OkN Y (e + 2) mX4_set [.ref (gl_b Y + 1), .int (i32 (x5 + x7)), .int (i32 (x6 / 65536))] RV iv av 116 (fun r14 iv15 av16 =>
            L_X11_fill_64 Y X P x1 x2 x3 x4 x5 x6 (x7 + 1) iv15 av16
          )
        )
      ) ∧
      ((x2 = 1) →
        ((¬ x2 = 1) →
          (InR (x5 + x7)) ∧
          OkN Y (e + 2) mX4_set [.ref (gl_b Y + 1), .int (i32 (x5 + x7)), .int (i32 x3)] RV iv av 116 (fun r20 iv21 av22 =>
            L_X11_fill_64 Y X P x1 x2 x3 x4 x5 (bm32 ((1103515245 * x6) + 12345)) (x7 + 1) iv21 av22
          )
        ) ∧
        ((x2 = 1) →
          (InR (x5 + x7)) ∧
          OkN Y (e + 2) mX4_set [.ref (gl_b Y + 1), .int (i32 (x5 + x7)), .int (i32 ((bm32 ((1103515245 * x6) + 12345)) / 65536))] RV iv av 116 (fun r25 iv26 av27 =>
            L_X11_fill_64 Y X P x1 x2 x3 x4 x5 (bm32 ((1103515245 * x6) + 12345)) (x7 + 1) iv26 av27
          )
        )
      )
    )) : L_X11_fill_64 Y X P x1 x2 x3 x4 x5 x6 x7 iv av := by
  unfold L_X11_fill_64
  refine r_iload (pc' := 66) C 7 rfl dX11_fill_64 rfl ?_
  refine r_iload (pc' := 68) C 4 rfl dX11_fill_66 rfl ?_
  refine r_icmp_ge (pc' := 71) (tgt := 119) C hx7 hx4 dX11_fill_68 (by decide) rfl (fun c1 => ?_) (fun c1 => ?_)
  · replace h := h.1 c1
    refine r_aload_n (pc' := 120) C 0 rfl rfl dX11_fill_119 rfl ?_
    refine r_getr (pc' := 123) (k := 0) (r := 1) C fl_X11_10 (by decide) kc_0 (by decide) fr_11_0 RV_0_0 dX11_fill_120 rfl ?_
    refine r_iload_n (pc' := 124) C 1 rfl rfl dX11_fill_123 rfl ?_
    refine c_Vi (pc' := 127) (mt := mX4_count) (as := [.int (i32 x1)]) (st := []) (k := 1) C h rfl cl_X4_count ml_X11_104 im_X4_count sl_X4_count (by omega) (Nat.le_refl _) (Nat.le_refl _) rfl (by decide) kc_1 (by decide) rfl rfl rfl (Nat.le_of_ble_eq_true rfl) dX11_fill_124 rfl (fun r2 iv3 av4 f5 h => ?_)
    replace h := h f5
    exact r_iret C f5 ⟨rfl, rfl, h⟩ dX11_fill_127
  · replace h := h.2 c1
    refine r_iload_n (pc' := 72) C 2 rfl rfl dX11_fill_71 rfl ?_
    refine r_iconst (pc' := 73) C dX11_fill_72 rfl ?_
    refine r_icmp_ne (pc' := 76) (tgt := 87) C hx2 (by decide) dX11_fill_73 (by decide) rfl (fun c6 => ?_) (fun c6 => ?_)
    · replace h := h.1 c6
      refine r_aload_n (pc' := 88) C 0 rfl rfl dX11_fill_87 rfl ?_
      refine r_getr (pc' := 91) (k := 0) (r := 1) C fl_X11_10 (by decide) kc_0 (by decide) fr_11_0 RV_0_0 dX11_fill_88 rfl ?_
      refine r_iload (pc' := 93) C 5 rfl dX11_fill_91 rfl ?_
      refine r_iload (pc' := 95) C 7 rfl dX11_fill_93 rfl ?_
      refine r_iadd (pc' := 96) C dX11_fill_95 rfl ?_
      refine r_iload_n (pc' := 97) C 2 rfl rfl dX11_fill_96 rfl ?_
      refine r_iconst (pc' := 98) C dX11_fill_97 rfl ?_
      refine r_icmp_ne (pc' := 101) (tgt := 109) C hx2 (by decide) dX11_fill_98 (by decide) rfl (fun c7 => ?_) (fun c7 => ?_)
      · replace h := h.1 c7
        refine r_iload_n (pc' := 110) C 3 rfl rfl dX11_fill_109 rfl ?_
        have o8 := h.1
        replace h := h.2
        refine c_Vv (pc' := 113) (mt := mX4_set) (as := [.int (i32 (x5 + x7)), .int (i32 x3)]) (st := []) (k := 1) C h rfl cl_X4_set ml_X11_100 im_X4_set sl_X4_set (by omega) (Nat.le_refl _) (Nat.le_refl _) rfl (by decide) kc_1 (by decide) rfl rfl rfl (Nat.le_of_ble_eq_true rfl) dX11_fill_110 rfl (fun r9 iv10 av11 h => ?_)
        refine r_iinc (pc' := 116) (ls' := [(0, .ref (gl_b Y + 0)), (1, .int (i32 x1)), (2, .int (i32 x2)), (3, .int (i32 x3)), (4, .int (i32 x4)), (5, .int (i32 x5)), (6, .int (i32 x6)), (7, .int (i32 (x7 + 1)))]) C 7 rfl (by decide) rfl dX11_fill_113 rfl ?_
        refine r_goto (tgt := 64) C dX11_fill_116 (by decide) ?_
        exact Wa.sub [0, 1, 2, 3, 4, 5, 6, 7] rfl h
      · replace h := h.2 c7
        refine r_iload (pc' := 103) C 6 rfl dX11_fill_101 rfl ?_
        refine r_bipush (pc' := 105) C dX11_fill_103 (by decide) rfl ?_
        refine r_ishrC (pc' := 106) (m := 65536) C hx6 (by decide) (by decide) dX11_fill_105 rfl ?_
        refine r_goto (tgt := 110) C dX11_fill_106 (by decide) ?_
        have o13 := h.1
        replace h := h.2
        refine c_Vv (pc' := 113) (mt := mX4_set) (as := [.int (i32 (x5 + x7)), .int (i32 (x6 / 65536))]) (st := []) (k := 1) C h rfl cl_X4_set ml_X11_100 im_X4_set sl_X4_set (by omega) (Nat.le_refl _) (Nat.le_refl _) rfl (by decide) kc_1 (by decide) rfl rfl rfl (Nat.le_of_ble_eq_true rfl) dX11_fill_110 rfl (fun r14 iv15 av16 h => ?_)
        refine r_iinc (pc' := 116) (ls' := [(0, .ref (gl_b Y + 0)), (1, .int (i32 x1)), (2, .int (i32 x2)), (3, .int (i32 x3)), (4, .int (i32 x4)), (5, .int (i32 x5)), (6, .int (i32 x6)), (7, .int (i32 (x7 + 1)))]) C 7 rfl (by decide) rfl dX11_fill_113 rfl ?_
        refine r_goto (tgt := 64) C dX11_fill_116 (by decide) ?_
        exact Wa.sub [0, 1, 2, 3, 4, 5, 6, 7] rfl h
    · replace h := h.2 c6
      refine r_ldc (pc' := 78) (x := 1103515245) C ct_X11_106 (by decide) dX11_fill_76 rfl ?_
      refine r_iload (pc' := 80) C 6 rfl dX11_fill_78 rfl ?_
      refine r_imul (pc' := 81) C dX11_fill_80 rfl ?_
      refine r_sipush (pc' := 84) C dX11_fill_81 (by decide) rfl ?_
      refine r_iadd (pc' := 85) C dX11_fill_84 rfl ?_
      refine r_wrap ?_
      refine r_istore (pc' := 87) (ls' := [(0, .ref (gl_b Y + 0)), (1, .int (i32 x1)), (2, .int (i32 x2)), (3, .int (i32 x3)), (4, .int (i32 x4)), (5, .int (i32 x5)), (6, .int (i32 (bm32 ((1103515245 * x6) + 12345)))), (7, .int (i32 x7))]) C (by decide) rfl dX11_fill_85 rfl ?_
      refine r_aload_n (pc' := 88) C 0 rfl rfl dX11_fill_87 rfl ?_
      refine r_getr (pc' := 91) (k := 0) (r := 1) C fl_X11_10 (by decide) kc_0 (by decide) fr_11_0 RV_0_0 dX11_fill_88 rfl ?_
      refine r_iload (pc' := 93) C 5 rfl dX11_fill_91 rfl ?_
      refine r_iload (pc' := 95) C 7 rfl dX11_fill_93 rfl ?_
      refine r_iadd (pc' := 96) C dX11_fill_95 rfl ?_
      refine r_iload_n (pc' := 97) C 2 rfl rfl dX11_fill_96 rfl ?_
      refine r_iconst (pc' := 98) C dX11_fill_97 rfl ?_
      refine r_icmp_ne (pc' := 101) (tgt := 109) C hx2 (by decide) dX11_fill_98 (by decide) rfl (fun c18 => ?_) (fun c18 => ?_)
      · replace h := h.1 c18
        refine r_iload_n (pc' := 110) C 3 rfl rfl dX11_fill_109 rfl ?_
        have o19 := h.1
        replace h := h.2
        refine c_Vv (pc' := 113) (mt := mX4_set) (as := [.int (i32 (x5 + x7)), .int (i32 x3)]) (st := []) (k := 1) C h rfl cl_X4_set ml_X11_100 im_X4_set sl_X4_set (by omega) (Nat.le_refl _) (Nat.le_refl _) rfl (by decide) kc_1 (by decide) rfl rfl rfl (Nat.le_of_ble_eq_true rfl) dX11_fill_110 rfl (fun r20 iv21 av22 h => ?_)
        refine r_iinc (pc' := 116) (ls' := [(0, .ref (gl_b Y + 0)), (1, .int (i32 x1)), (2, .int (i32 x2)), (3, .int (i32 x3)), (4, .int (i32 x4)), (5, .int (i32 x5)), (6, .int (i32 (bm32 ((1103515245 * x6) + 12345)))), (7, .int (i32 (x7 + 1)))]) C 7 rfl (by decide) rfl dX11_fill_113 rfl ?_
        refine r_goto (tgt := 64) C dX11_fill_116 (by decide) ?_
        exact Wa.sub [0, 1, 2, 3, 4, 5, 6, 7] rfl h
      · replace h := h.2 c18
        refine r_iload (pc' := 103) C 6 rfl dX11_fill_101 rfl ?_
        refine r_bipush (pc' := 105) C dX11_fill_103 (by decide) rfl ?_
        refine r_ishrC (pc' := 106) (m := 65536) C (bm32_in _) (by decide) (by decide) dX11_fill_105 rfl ?_
        refine r_goto (tgt := 110) C dX11_fill_106 (by decide) ?_
        have o24 := h.1
        replace h := h.2
        refine c_Vv (pc' := 113) (mt := mX4_set) (as := [.int (i32 (x5 + x7)), .int (i32 ((bm32 ((1103515245 * x6) + 12345)) / 65536))]) (st := []) (k := 1) C h rfl cl_X4_set ml_X11_100 im_X4_set sl_X4_set (by omega) (Nat.le_refl _) (Nat.le_refl _) rfl (by decide) kc_1 (by decide) rfl rfl rfl (Nat.le_of_ble_eq_true rfl) dX11_fill_110 rfl (fun r25 iv26 av27 h => ?_)
        refine r_iinc (pc' := 116) (ls' := [(0, .ref (gl_b Y + 0)), (1, .int (i32 x1)), (2, .int (i32 x2)), (3, .int (i32 x3)), (4, .int (i32 x4)), (5, .int (i32 x5)), (6, .int (i32 (bm32 ((1103515245 * x6) + 12345)))), (7, .int (i32 (x7 + 1)))]) C 7 rfl (by decide) rfl dX11_fill_113 rfl ?_
        refine r_goto (tgt := 64) C dX11_fill_116 (by decide) ?_
        exact Wa.sub [0, 1, 2, 3, 4, 5, 6, 7] rfl h
set_option maxHeartbeats 4000000 in
set_option maxRecDepth 100000 in
theorem o_X11_fill {Y : Gl} {e : Nat} {P : PN} {x1 : Int} {x2 : Int} {x3 : Int} {x4 : Int} {iv av : IVt} (hx1 : InR x1) (hx2 : InR x2) (hx4 : InR x4) (h : ∀ X : Cx, CX Y X RX11 "fill" cX11_fill 8 (some .int) (e + 3) 0 0 →
    OkN Y (e + 2) mX11_isFile [.int (i32 x1)] RV iv av 116 (fun r1 iv2 av3 =>
      (InR r1) →
      ((r1 = 0) →
        P (-1) iv2 av3
      ) ∧
      ((¬ r1 = 0) →
        ((x2 < 0) →
          P (-1) iv2 av3
        ) ∧
        ((¬ x2 < 0) →
          ((1 < x2) →
            P (-1) iv2 av3
          ) ∧
          ((¬ 1 < x2) →
            ((x4 < 1) →
              P (-1) iv2 av3
            ) ∧
            ((¬ x4 < 1) →
              ((x4 ≤ 65536) →
                OkN Y (e + 2) mX4_room [.ref (gl_b Y + 1)] RV iv2 av3 116 (fun r10 iv11 av12 =>
                  (InR r10) →
                  ((x4 ≤ r10) →
                    OkN Y (e + 2) mX4_open [.ref (gl_b Y + 1), .int (i32 x1), .int (i32 x4)] RV iv11 av12 116 (fun r15 iv16 av17 =>
                      (InR r15) →
                      L_X11_fill_64 Y X P x1 x2 x3 x4 r15 x3 0 iv16 av17
                    )
                  ) ∧
                  ((¬ x4 ≤ r10) →
                    P (-3) iv11 av12
                  )
                )
              ) ∧
              ((¬ x4 ≤ 65536) →
                P (-1) iv2 av3
              )
            )
          )
        )
      )
    )) : OkN Y (e + 3) mX11_fill [.ref (gl_b Y + 0), .int (i32 x1), .int (i32 x2), .int (i32 x3), .int (i32 x4)] RV iv av 116 P := by
  refine OkW.of rfl (by show _ ≤ 8; exact Nat.le_of_ble_eq_true rfl) fun X C0 hR => ?_
  have C : CX Y X RX11 "fill" cX11_fill 8 (some .int) (e + 3) 0 0 := C0
  replace h := h X C
  show Wa Y X 8 (g_MQ Y X 1 (g_N RV 116 P) 0 0) 0 0 0 [(0, .ref (gl_b Y + 0)), (1, .int (i32 x1)), (2, .int (i32 x2)), (3, .int (i32 x3)), (4, .int (i32 x4))] [] RV iv av 116
  refine r_iload_n (pc' := 1) C 1 rfl rfl dX11_fill_0 rfl ?_
  refine c_Si (pc' := 4) (mt := mX11_isFile) (as := [.int (i32 x1)]) (st := []) C h rfl cl_X11_isFile ml_X11_88 sm_X11_isFile (by omega) (Nat.le_refl _) (Nat.le_refl _) rfl rfl (Nat.le_of_ble_eq_true rfl) dX11_fill_1 rfl (fun r1 iv2 av3 f4 h => ?_)
  replace h := h f4
  refine r_if_eq (pc' := 7) (tgt := 29) C f4 dX11_fill_4 (by decide) rfl (fun c5 => ?_) (fun c5 => ?_)
  · replace h := h.1 c5
    refine r_iconst (pc' := 30) C dX11_fill_29 rfl ?_
    exact r_iret C (by decide) ⟨rfl, rfl, h⟩ dX11_fill_30
  · replace h := h.2 c5
    refine r_iload_n (pc' := 8) C 2 rfl rfl dX11_fill_7 rfl ?_
    refine r_if_lt (pc' := 11) (tgt := 29) C hx2 dX11_fill_8 (by decide) rfl (fun c6 => ?_) (fun c6 => ?_)
    · replace h := h.1 c6
      refine r_iconst (pc' := 30) C dX11_fill_29 rfl ?_
      exact r_iret C (by decide) ⟨rfl, rfl, h⟩ dX11_fill_30
    · replace h := h.2 c6
      refine r_iload_n (pc' := 12) C 2 rfl rfl dX11_fill_11 rfl ?_
      refine r_iconst (pc' := 13) C dX11_fill_12 rfl ?_
      refine r_icmp_gt (pc' := 16) (tgt := 29) C hx2 (by decide) dX11_fill_13 (by decide) rfl (fun c7 => ?_) (fun c7 => ?_)
      · replace h := h.1 c7
        refine r_iconst (pc' := 30) C dX11_fill_29 rfl ?_
        exact r_iret C (by decide) ⟨rfl, rfl, h⟩ dX11_fill_30
      · replace h := h.2 c7
        refine r_iload (pc' := 18) C 4 rfl dX11_fill_16 rfl ?_
        refine r_iconst (pc' := 19) C dX11_fill_18 rfl ?_
        refine r_icmp_lt (pc' := 22) (tgt := 29) C hx4 (by decide) dX11_fill_19 (by decide) rfl (fun c8 => ?_) (fun c8 => ?_)
        · replace h := h.1 c8
          refine r_iconst (pc' := 30) C dX11_fill_29 rfl ?_
          exact r_iret C (by decide) ⟨rfl, rfl, h⟩ dX11_fill_30
        · replace h := h.2 c8
          refine r_iload (pc' := 24) C 4 rfl dX11_fill_22 rfl ?_
          refine r_ldc (pc' := 26) (x := 65536) C ct_X11_36 (by decide) dX11_fill_24 rfl ?_
          refine r_icmp_le (pc' := 29) (tgt := 31) C hx4 (by decide) dX11_fill_26 (by decide) rfl (fun c9 => ?_) (fun c9 => ?_)
          · replace h := h.1 c9
            refine r_iload (pc' := 33) C 4 rfl dX11_fill_31 rfl ?_
            refine r_aload_n (pc' := 34) C 0 rfl rfl dX11_fill_33 rfl ?_
            refine r_getr (pc' := 37) (k := 0) (r := 1) C fl_X11_10 (by decide) kc_0 (by decide) fr_11_0 RV_0_0 dX11_fill_34 rfl ?_
            refine c_Vi (pc' := 40) (mt := mX4_room) (as := []) (st := [.int (i32 x4)]) (k := 1) C h rfl cl_X4_room ml_X11_92 im_X4_room sl_X4_room (by omega) (Nat.le_refl _) (Nat.le_refl _) rfl (by decide) kc_1 (by decide) rfl rfl rfl (Nat.le_of_ble_eq_true rfl) dX11_fill_37 rfl (fun r10 iv11 av12 f13 h => ?_)
            replace h := h f13
            refine r_icmp_le (pc' := 43) (tgt := 46) C hx4 f13 dX11_fill_40 (by decide) rfl (fun c14 => ?_) (fun c14 => ?_)
            · replace h := h.1 c14
              refine r_aload_n (pc' := 47) C 0 rfl rfl dX11_fill_46 rfl ?_
              refine r_getr (pc' := 50) (k := 0) (r := 1) C fl_X11_10 (by decide) kc_0 (by decide) fr_11_0 RV_0_0 dX11_fill_47 rfl ?_
              refine r_iload_n (pc' := 51) C 1 rfl rfl dX11_fill_50 rfl ?_
              refine r_iload (pc' := 53) C 4 rfl dX11_fill_51 rfl ?_
              refine c_Vi (pc' := 56) (mt := mX4_open) (as := [.int (i32 x1), .int (i32 x4)]) (st := []) (k := 1) C h rfl cl_X4_open ml_X11_93 im_X4_open sl_X4_open (by omega) (Nat.le_refl _) (Nat.le_refl _) rfl (by decide) kc_1 (by decide) rfl rfl rfl (Nat.le_of_ble_eq_true rfl) dX11_fill_53 rfl (fun r15 iv16 av17 f18 h => ?_)
              replace h := h f18
              refine r_istore (pc' := 58) (ls' := [(0, .ref (gl_b Y + 0)), (1, .int (i32 x1)), (2, .int (i32 x2)), (3, .int (i32 x3)), (4, .int (i32 x4)), (5, .int (i32 r15))]) C (by decide) rfl dX11_fill_56 rfl ?_
              refine r_iload_n (pc' := 59) C 3 rfl rfl dX11_fill_58 rfl ?_
              refine r_istore (pc' := 61) (ls' := [(0, .ref (gl_b Y + 0)), (1, .int (i32 x1)), (2, .int (i32 x2)), (3, .int (i32 x3)), (4, .int (i32 x4)), (5, .int (i32 r15)), (6, .int (i32 x3))]) C (by decide) rfl dX11_fill_59 rfl ?_
              refine r_iconst (pc' := 62) C dX11_fill_61 rfl ?_
              refine r_istore (pc' := 64) (ls' := [(0, .ref (gl_b Y + 0)), (1, .int (i32 x1)), (2, .int (i32 x2)), (3, .int (i32 x3)), (4, .int (i32 x4)), (5, .int (i32 r15)), (6, .int (i32 x3)), (7, .int (i32 0))]) C (by decide) rfl dX11_fill_62 rfl ?_
              exact Wa.sub [0, 1, 2, 3, 4, 5, 6, 7] rfl h
            · replace h := h.2 c14
              refine r_bipush (pc' := 45) C dX11_fill_43 (by decide) rfl ?_
              exact r_iret C (by decide) ⟨rfl, rfl, h⟩ dX11_fill_45
          · replace h := h.2 c9
            refine r_iconst (pc' := 30) C dX11_fill_29 rfl ?_
            exact r_iret C (by decide) ⟨rfl, rfl, h⟩ dX11_fill_30
set_option maxHeartbeats 4000000 in
set_option maxRecDepth 100000 in
theorem o_X11_clear {Y : Gl} {e : Nat} {P : PN} {x1 : Int} {iv av : IVt} (hx1 : InR x1) (h : 
    OkN Y (e + 2) mX11_isFile [.int (i32 x1)] RV iv av 116 (fun r1 iv2 av3 =>
      (InR r1) →
      ((¬ r1 = 0) →
        OkN Y (e + 2) mX4_count [.ref (gl_b Y + 1), .int (i32 x1)] RV iv2 av3 116 (fun r6 iv7 av8 =>
          (InR r6) →
          OkN Y (e + 2) mX4_drop [.ref (gl_b Y + 1), .int (i32 x1)] RV iv7 av8 116 (fun r10 iv11 av12 =>
            P r6 iv11 av12
          )
        )
      ) ∧
      ((r1 = 0) →
        P (-1) iv2 av3
      )
    )) : OkN Y (e + 3) mX11_clear [.ref (gl_b Y + 0), .int (i32 x1)] RV iv av 116 P := by
  refine OkW.of rfl (by show _ ≤ 3; exact Nat.le_of_ble_eq_true rfl) fun X C0 hR => ?_
  have C : CX Y X RX11 "clear" cX11_clear 3 (some .int) (e + 3) 0 0 := C0
  show Wa Y X 3 (g_MQ Y X 1 (g_N RV 116 P) 0 0) 0 0 0 [(0, .ref (gl_b Y + 0)), (1, .int (i32 x1))] [] RV iv av 116
  refine r_iload_n (pc' := 1) C 1 rfl rfl dX11_clear_0 rfl ?_
  refine c_Si (pc' := 4) (mt := mX11_isFile) (as := [.int (i32 x1)]) (st := []) C h rfl cl_X11_isFile ml_X11_88 sm_X11_isFile (by omega) (Nat.le_refl _) (Nat.le_refl _) rfl rfl (Nat.le_of_ble_eq_true rfl) dX11_clear_1 rfl (fun r1 iv2 av3 f4 h => ?_)
  replace h := h f4
  refine r_if_ne (pc' := 7) (tgt := 9) C f4 dX11_clear_4 (by decide) rfl (fun c5 => ?_) (fun c5 => ?_)
  · replace h := h.1 c5
    refine r_aload_n (pc' := 10) C 0 rfl rfl dX11_clear_9 rfl ?_
    refine r_getr (pc' := 13) (k := 0) (r := 1) C fl_X11_10 (by decide) kc_0 (by decide) fr_11_0 RV_0_0 dX11_clear_10 rfl ?_
    refine r_iload_n (pc' := 14) C 1 rfl rfl dX11_clear_13 rfl ?_
    refine c_Vi (pc' := 17) (mt := mX4_count) (as := [.int (i32 x1)]) (st := []) (k := 1) C h rfl cl_X4_count ml_X11_104 im_X4_count sl_X4_count (by omega) (Nat.le_refl _) (Nat.le_refl _) rfl (by decide) kc_1 (by decide) rfl rfl rfl (Nat.le_of_ble_eq_true rfl) dX11_clear_14 rfl (fun r6 iv7 av8 f9 h => ?_)
    replace h := h f9
    refine r_istore_n (pc' := 18) (ls' := [(0, .ref (gl_b Y + 0)), (1, .int (i32 x1)), (2, .int (i32 r6))]) C (by decide) rfl rfl dX11_clear_17 rfl ?_
    refine r_aload_n (pc' := 19) C 0 rfl rfl dX11_clear_18 rfl ?_
    refine r_getr (pc' := 22) (k := 0) (r := 1) C fl_X11_10 (by decide) kc_0 (by decide) fr_11_0 RV_0_0 dX11_clear_19 rfl ?_
    refine r_iload_n (pc' := 23) C 1 rfl rfl dX11_clear_22 rfl ?_
    refine c_Vv (pc' := 26) (mt := mX4_drop) (as := [.int (i32 x1)]) (st := []) (k := 1) C h rfl cl_X4_drop ml_X11_107 im_X4_drop sl_X4_drop (by omega) (Nat.le_refl _) (Nat.le_refl _) rfl (by decide) kc_1 (by decide) rfl rfl rfl (Nat.le_of_ble_eq_true rfl) dX11_clear_23 rfl (fun r10 iv11 av12 h => ?_)
    refine r_iload_n (pc' := 27) C 2 rfl rfl dX11_clear_26 rfl ?_
    exact r_iret C f9 ⟨rfl, rfl, h⟩ dX11_clear_27
  · replace h := h.2 c5
    refine r_iconst (pc' := 8) C dX11_clear_7 rfl ?_
    exact r_iret C (by decide) ⟨rfl, rfl, h⟩ dX11_clear_8
def L_X11_put_51 (Y : Gl) (X : Cx) (P : PN) (x2 : Int) (x3 : Int) (x4 : Int) (iv av : IVt) : Prop := Wa Y X 7 (g_MQ Y X 1 (g_N RV 116 P) 0 0) 0 0 51 [(0, .ref (gl_b Y + 0)), (2, .int (i32 x2)), (3, .int (i32 x3)), (4, .int (i32 x4))] [] RV iv av 116
set_option maxHeartbeats 4000000 in
set_option maxRecDepth 100000 in
theorem w_X11_put_51 {Y : Gl} {X : Cx} {e : Nat} {P : PN} {x2 : Int} {x3 : Int} {x4 : Int} {iv av : IVt} (C : CX Y X RX11 "put" cX11_put 7 (some .int) (e + 7) 0 0) (hx2 : InR x2) (hx3 : InR x3) (hx4 : InR x4) (h :
    ((64 ≤ x4) →
      OkN Y (e + 6) mX2_count [.ref (gl_b Y + 14)] RV iv av 116 (fun r2 iv3 av4 =>
        (InR r2) →
        ((r2 ≤ 0) →
          OkN Y (e + 6) mX2_count [.ref (gl_b Y + 12)] RV iv3 av4 116 (fun r7 iv8 av9 =>
            (InR r7) →
            P r7 iv8 av9
          )
        ) ∧
        ((¬ r2 ≤ 0) →
          OkN Y (e + 6) mX11_closeFragment [.ref (gl_b Y + 0), .int (i32 x2)] RV iv3 av4 116 (fun r11 iv12 av13 =>
            OkN Y (e + 6) mX2_count [.ref (gl_b Y + 12)] RV iv12 av13 116 (fun r15 iv16 av17 =>
              (InR r15) →
              P r15 iv16 av17
            )
          )
        )
      )
    ) ∧
    ((¬ 64 ≤ x4) →
      OkN Y (e + 6) mX4_twin [.ref (gl_b Y + 1), .int (i32 x4)] RV iv av 116 (fun r19 iv20 av21 =>
        (InR r19) →
        ((r19 < 0) →
          OkN Y (e + 6) mX11_putBlocks [.ref (gl_b Y + 0), .int (i32 x4), .int (i32 x2), .int (i32 x3)] RV iv20 av21 116 (fun r24 iv25 av26 =>
            (InR r24) →
            ((r24 ≤ 0) →
              ((r24 ≤ 0) →
                L_X11_put_51 Y X P x2 x3 (x4 + 1) iv25 av26
              ) ∧
              ((¬ r24 ≤ 0) →
                OkN Y (e + 6) mX11_joinFragment [.ref (gl_b Y + 0), .int (i32 x4), .int (i32 r24)] RV iv25 av26 116 (fun r30 iv31 av32 =>
                  L_X11_put_51 Y X P x2 x3 (x4 + 1) iv31 av32
                )
              )
            ) ∧
            ((¬ r24 ≤ 0) →
              OkN Y (e + 6) mX5_blockBytes [.ref (gl_b Y + 5)] RV iv25 av26 116 (fun r34 iv35 av36 =>
                (InR r34) →
                OkN Y (e + 6) mX2_count [.ref (gl_b Y + 14)] RV iv35 av36 116 (fun r38 iv39 av40 =>
                  (InR r38) →
                  (InR (r34 - r38)) ∧
                  ((r24 ≤ (r34 - r38)) →
                    ((r24 ≤ 0) →
                      L_X11_put_51 Y X P x2 x3 (x4 + 1) iv39 av40
                    ) ∧
                    ((¬ r24 ≤ 0) →
                      OkN Y (e + 6) mX11_joinFragment [.ref (gl_b Y + 0), .int (i32 x4), .int (i32 r24)] RV iv39 av40 116 (fun r45 iv46 av47 =>
                        L_X11_put_51 Y X P x2 x3 (x4 + 1) iv46 av47
                      )
                    )
                  ) ∧
                  ((¬ r24 ≤ (r34 - r38)) →
                    OkN Y (e + 6) mX11_closeFragment [.ref (gl_b Y + 0), .int (i32 x2)] RV iv39 av40 116 (fun r49 iv50 av51 =>
                      ((r24 ≤ 0) →
                        L_X11_put_51 Y X P x2 x3 (x4 + 1) iv50 av51
                      ) ∧
                      ((¬ r24 ≤ 0) →
                        OkN Y (e + 6) mX11_joinFragment [.ref (gl_b Y + 0), .int (i32 x4), .int (i32 r24)] RV iv50 av51 116 (fun r54 iv55 av56 =>
                          L_X11_put_51 Y X P x2 x3 (x4 + 1) iv55 av56
                        )
                      )
                    )
                  )
                )
              )
            )
          )
        ) ∧
        ((¬ r19 < 0) →
          OkN Y (e + 6) mX5_share [.ref (gl_b Y + 5), .int (i32 x4), .int (i32 r19)] RV iv20 av21 116 (fun r58 iv59 av60 =>
            L_X11_put_51 Y X P x2 x3 (x4 + 1) iv59 av60
          )
        )
      )
    )) : L_X11_put_51 Y X P x2 x3 x4 iv av := by
  unfold L_X11_put_51
  refine r_iload (pc' := 53) C 3 rfl dX11_put_51 rfl ?_
  refine r_bipush (pc' := 55) C dX11_put_53 (by decide) rfl ?_
  refine r_icmp_ge (pc' := 58) (tgt := 147) C hx4 (by decide) dX11_put_55 (by decide) rfl (fun c1 => ?_) (fun c1 => ?_)
  · replace h := h.1 c1
    refine r_aload_n (pc' := 148) C 0 rfl rfl dX11_put_147 rfl ?_
    refine r_getr (pc' := 151) (k := 0) (r := 14) C fl_X11_37 (by decide) kc_0 (by decide) fr_11_4 RV_0_4 dX11_put_148 rfl ?_
    refine c_Vi (pc' := 154) (mt := mX2_count) (as := []) (st := []) (k := 14) C h rfl cl_X2_count ml_X11_78 im_X2_count sl_X2_count (by omega) (Nat.le_refl _) (Nat.le_refl _) rfl (by decide) kc_14 (by decide) rfl rfl rfl (Nat.le_of_ble_eq_true rfl) dX11_put_151 rfl (fun r2 iv3 av4 f5 h => ?_)
    replace h := h f5
    refine r_if_le (pc' := 157) (tgt := 162) C f5 dX11_put_154 (by decide) rfl (fun c6 => ?_) (fun c6 => ?_)
    · replace h := h.1 c6
      refine r_aload_n (pc' := 163) C 0 rfl rfl dX11_put_162 rfl ?_
      refine r_getr (pc' := 166) (k := 0) (r := 12) C fl_X11_33 (by decide) kc_0 (by decide) fr_11_3 RV_0_3 dX11_put_163 rfl ?_
      refine c_Vi (pc' := 169) (mt := mX2_count) (as := []) (st := []) (k := 12) C h rfl cl_X2_count ml_X11_78 im_X2_count sl_X2_count (by omega) (Nat.le_refl _) (Nat.le_refl _) rfl (by decide) kc_12 (by decide) rfl rfl rfl (Nat.le_of_ble_eq_true rfl) dX11_put_166 rfl (fun r7 iv8 av9 f10 h => ?_)
      replace h := h f10
      exact r_iret C f10 ⟨rfl, rfl, h⟩ dX11_put_169
    · replace h := h.2 c6
      refine r_aload_n (pc' := 158) C 0 rfl rfl dX11_put_157 rfl ?_
      refine r_iload_n (pc' := 159) C 1 rfl rfl dX11_put_158 rfl ?_
      refine c_Vv (pc' := 162) (mt := mX11_closeFragment) (as := [.int (i32 x2)]) (st := []) (k := 0) C h rfl cl_X11_closeFragment ml_X11_130 im_X11_closeFragment sl_X11_closeFragment (by omega) (Nat.le_refl _) (Nat.le_refl _) rfl (by decide) kc_0 (by decide) rfl rfl rfl (Nat.le_of_ble_eq_true rfl) dX11_put_159 rfl (fun r11 iv12 av13 h => ?_)
      refine r_aload_n (pc' := 163) C 0 rfl rfl dX11_put_162 rfl ?_
      refine r_getr (pc' := 166) (k := 0) (r := 12) C fl_X11_33 (by decide) kc_0 (by decide) fr_11_3 RV_0_3 dX11_put_163 rfl ?_
      refine c_Vi (pc' := 169) (mt := mX2_count) (as := []) (st := []) (k := 12) C h rfl cl_X2_count ml_X11_78 im_X2_count sl_X2_count (by omega) (Nat.le_refl _) (Nat.le_refl _) rfl (by decide) kc_12 (by decide) rfl rfl rfl (Nat.le_of_ble_eq_true rfl) dX11_put_166 rfl (fun r15 iv16 av17 f18 h => ?_)
      replace h := h f18
      exact r_iret C f18 ⟨rfl, rfl, h⟩ dX11_put_169
  · replace h := h.2 c1
    refine r_aload_n (pc' := 59) C 0 rfl rfl dX11_put_58 rfl ?_
    refine r_getr (pc' := 62) (k := 0) (r := 1) C fl_X11_10 (by decide) kc_0 (by decide) fr_11_0 RV_0_0 dX11_put_59 rfl ?_
    refine r_iload (pc' := 64) C 3 rfl dX11_put_62 rfl ?_
    refine c_Vi (pc' := 67) (mt := mX4_twin) (as := [.int (i32 x4)]) (st := []) (k := 1) C h rfl cl_X4_twin ml_X11_117 im_X4_twin sl_X4_twin (by omega) (Nat.le_refl _) (Nat.le_refl _) rfl (by decide) kc_1 (by decide) rfl rfl rfl (Nat.le_of_ble_eq_true rfl) dX11_put_64 rfl (fun r19 iv20 av21 f22 h => ?_)
    replace h := h f22
    refine r_istore (pc' := 69) (ls' := [(0, .ref (gl_b Y + 0)), (2, .int (i32 x2)), (3, .int (i32 x3)), (4, .int (i32 x4)), (5, .int (i32 r19))]) C (by decide) rfl dX11_put_67 rfl ?_
    refine r_iload (pc' := 71) C 4 rfl dX11_put_69 rfl ?_
    refine r_if_lt (pc' := 74) (tgt := 88) C f22 dX11_put_71 (by decide) rfl (fun c23 => ?_) (fun c23 => ?_)
    · replace h := h.1 c23
      refine r_aload_n (pc' := 89) C 0 rfl rfl dX11_put_88 rfl ?_
      refine r_iload (pc' := 91) C 3 rfl dX11_put_89 rfl ?_
      refine r_iload_n (pc' := 92) C 1 rfl rfl dX11_put_91 rfl ?_
      refine r_iload_n (pc' := 93) C 2 rfl rfl dX11_put_92 rfl ?_
      refine c_Vi (pc' := 96) (mt := mX11_putBlocks) (as := [.int (i32 x4), .int (i32 x2), .int (i32 x3)]) (st := []) (k := 0) C h rfl cl_X11_putBlocks ml_X11_123 im_X11_putBlocks sl_X11_putBlocks (by omega) (Nat.le_refl _) (Nat.le_refl _) rfl (by decide) kc_0 (by decide) rfl rfl rfl (Nat.le_of_ble_eq_true rfl) dX11_put_93 rfl (fun r24 iv25 av26 f27 h => ?_)
      replace h := h f27
      refine r_istore (pc' := 98) (ls' := [(0, .ref (gl_b Y + 0)), (2, .int (i32 x2)), (3, .int (i32 x3)), (4, .int (i32 x4)), (5, .int (i32 r19)), (6, .int (i32 r24))]) C (by decide) rfl dX11_put_96 rfl ?_
      refine r_iload (pc' := 100) C 5 rfl dX11_put_98 rfl ?_
      refine r_if_le (pc' := 103) (tgt := 128) C f27 dX11_put_100 (by decide) rfl (fun c28 => ?_) (fun c28 => ?_)
      · replace h := h.1 c28
        refine r_iload (pc' := 130) C 5 rfl dX11_put_128 rfl ?_
        refine r_if_le (pc' := 133) (tgt := 141) C f27 dX11_put_130 (by decide) rfl (fun c29 => ?_) (fun c29 => ?_)
        · replace h := h.1 c29
          refine r_iinc (pc' := 144) (ls' := [(0, .ref (gl_b Y + 0)), (2, .int (i32 x2)), (3, .int (i32 x3)), (4, .int (i32 (x4 + 1))), (5, .int (i32 r19)), (6, .int (i32 r24))]) C 3 rfl (by decide) rfl dX11_put_141 rfl ?_
          refine r_goto (tgt := 51) C dX11_put_144 (by decide) ?_
          exact Wa.sub [0, 1, 2, 3] rfl h
        · replace h := h.2 c29
          refine r_aload_n (pc' := 134) C 0 rfl rfl dX11_put_133 rfl ?_
          refine r_iload (pc' := 136) C 3 rfl dX11_put_134 rfl ?_
          refine r_iload (pc' := 138) C 5 rfl dX11_put_136 rfl ?_
          refine c_Vv (pc' := 141) (mt := mX11_joinFragment) (as := [.int (i32 x4), .int (i32 r24)]) (st := []) (k := 0) C h rfl cl_X11_joinFragment ml_X11_134 im_X11_joinFragment sl_X11_joinFragment (by omega) (Nat.le_refl _) (Nat.le_refl _) rfl (by decide) kc_0 (by decide) rfl rfl rfl (Nat.le_of_ble_eq_true rfl) dX11_put_138 rfl (fun r30 iv31 av32 h => ?_)
          refine r_iinc (pc' := 144) (ls' := [(0, .ref (gl_b Y + 0)), (2, .int (i32 x2)), (3, .int (i32 x3)), (4, .int (i32 (x4 + 1))), (5, .int (i32 r19)), (6, .int (i32 r24))]) C 3 rfl (by decide) rfl dX11_put_141 rfl ?_
          refine r_goto (tgt := 51) C dX11_put_144 (by decide) ?_
          exact Wa.sub [0, 1, 2, 3] rfl h
      · replace h := h.2 c28
        refine r_iload (pc' := 105) C 5 rfl dX11_put_103 rfl ?_
        refine r_aload_n (pc' := 106) C 0 rfl rfl dX11_put_105 rfl ?_
        refine r_getr (pc' := 109) (k := 0) (r := 5) C fl_X11_19 (by decide) kc_0 (by decide) fr_11_1 RV_0_1 dX11_put_106 rfl ?_
        refine c_Vi (pc' := 112) (mt := mX5_blockBytes) (as := []) (st := [.int (i32 r24)]) (k := 5) C h rfl cl_X5_blockBytes ml_X11_127 im_X5_blockBytes sl_X5_blockBytes (by omega) (Nat.le_refl _) (Nat.le_refl _) rfl (by decide) kc_5 (by decide) rfl rfl rfl (Nat.le_of_ble_eq_true rfl) dX11_put_109 rfl (fun r34 iv35 av36 f37 h => ?_)
        replace h := h f37
        refine r_aload_n (pc' := 113) C 0 rfl rfl dX11_put_112 rfl ?_
        refine r_getr (pc' := 116) (k := 0) (r := 14) C fl_X11_37 (by decide) kc_0 (by decide) fr_11_4 RV_0_4 dX11_put_113 rfl ?_
        refine c_Vi (pc' := 119) (mt := mX2_count) (as := []) (st := [.int (i32 r34), .int (i32 r24)]) (k := 14) C h rfl cl_X2_count ml_X11_78 im_X2_count sl_X2_count (by omega) (Nat.le_refl _) (Nat.le_refl _) rfl (by decide) kc_14 (by decide) rfl rfl rfl (Nat.le_of_ble_eq_true rfl) dX11_put_116 rfl (fun r38 iv39 av40 f41 h => ?_)
        replace h := h f41
        refine r_isub (pc' := 120) C dX11_put_119 rfl ?_
        have o42 := h.1
        replace h := h.2
        refine r_icmp_le (pc' := 123) (tgt := 128) C f27 o42 dX11_put_120 (by decide) rfl (fun c43 => ?_) (fun c43 => ?_)
        · replace h := h.1 c43
          refine r_iload (pc' := 130) C 5 rfl dX11_put_128 rfl ?_
          refine r_if_le (pc' := 133) (tgt := 141) C f27 dX11_put_130 (by decide) rfl (fun c44 => ?_) (fun c44 => ?_)
          · replace h := h.1 c44
            refine r_iinc (pc' := 144) (ls' := [(0, .ref (gl_b Y + 0)), (2, .int (i32 x2)), (3, .int (i32 x3)), (4, .int (i32 (x4 + 1))), (5, .int (i32 r19)), (6, .int (i32 r24))]) C 3 rfl (by decide) rfl dX11_put_141 rfl ?_
            refine r_goto (tgt := 51) C dX11_put_144 (by decide) ?_
            exact Wa.sub [0, 1, 2, 3] rfl h
          · replace h := h.2 c44
            refine r_aload_n (pc' := 134) C 0 rfl rfl dX11_put_133 rfl ?_
            refine r_iload (pc' := 136) C 3 rfl dX11_put_134 rfl ?_
            refine r_iload (pc' := 138) C 5 rfl dX11_put_136 rfl ?_
            refine c_Vv (pc' := 141) (mt := mX11_joinFragment) (as := [.int (i32 x4), .int (i32 r24)]) (st := []) (k := 0) C h rfl cl_X11_joinFragment ml_X11_134 im_X11_joinFragment sl_X11_joinFragment (by omega) (Nat.le_refl _) (Nat.le_refl _) rfl (by decide) kc_0 (by decide) rfl rfl rfl (Nat.le_of_ble_eq_true rfl) dX11_put_138 rfl (fun r45 iv46 av47 h => ?_)
            refine r_iinc (pc' := 144) (ls' := [(0, .ref (gl_b Y + 0)), (2, .int (i32 x2)), (3, .int (i32 x3)), (4, .int (i32 (x4 + 1))), (5, .int (i32 r19)), (6, .int (i32 r24))]) C 3 rfl (by decide) rfl dX11_put_141 rfl ?_
            refine r_goto (tgt := 51) C dX11_put_144 (by decide) ?_
            exact Wa.sub [0, 1, 2, 3] rfl h
        · replace h := h.2 c43
          refine r_aload_n (pc' := 124) C 0 rfl rfl dX11_put_123 rfl ?_
          refine r_iload_n (pc' := 125) C 1 rfl rfl dX11_put_124 rfl ?_
          refine c_Vv (pc' := 128) (mt := mX11_closeFragment) (as := [.int (i32 x2)]) (st := []) (k := 0) C h rfl cl_X11_closeFragment ml_X11_130 im_X11_closeFragment sl_X11_closeFragment (by omega) (Nat.le_refl _) (Nat.le_refl _) rfl (by decide) kc_0 (by decide) rfl rfl rfl (Nat.le_of_ble_eq_true rfl) dX11_put_125 rfl (fun r49 iv50 av51 h => ?_)
          refine r_iload (pc' := 130) C 5 rfl dX11_put_128 rfl ?_
          refine r_if_le (pc' := 133) (tgt := 141) C f27 dX11_put_130 (by decide) rfl (fun c53 => ?_) (fun c53 => ?_)
          · replace h := h.1 c53
            refine r_iinc (pc' := 144) (ls' := [(0, .ref (gl_b Y + 0)), (2, .int (i32 x2)), (3, .int (i32 x3)), (4, .int (i32 (x4 + 1))), (5, .int (i32 r19)), (6, .int (i32 r24))]) C 3 rfl (by decide) rfl dX11_put_141 rfl ?_
            refine r_goto (tgt := 51) C dX11_put_144 (by decide) ?_
            exact Wa.sub [0, 1, 2, 3] rfl h
          · replace h := h.2 c53
            refine r_aload_n (pc' := 134) C 0 rfl rfl dX11_put_133 rfl ?_
            refine r_iload (pc' := 136) C 3 rfl dX11_put_134 rfl ?_
            refine r_iload (pc' := 138) C 5 rfl dX11_put_136 rfl ?_
            refine c_Vv (pc' := 141) (mt := mX11_joinFragment) (as := [.int (i32 x4), .int (i32 r24)]) (st := []) (k := 0) C h rfl cl_X11_joinFragment ml_X11_134 im_X11_joinFragment sl_X11_joinFragment (by omega) (Nat.le_refl _) (Nat.le_refl _) rfl (by decide) kc_0 (by decide) rfl rfl rfl (Nat.le_of_ble_eq_true rfl) dX11_put_138 rfl (fun r54 iv55 av56 h => ?_)
            refine r_iinc (pc' := 144) (ls' := [(0, .ref (gl_b Y + 0)), (2, .int (i32 x2)), (3, .int (i32 x3)), (4, .int (i32 (x4 + 1))), (5, .int (i32 r19)), (6, .int (i32 r24))]) C 3 rfl (by decide) rfl dX11_put_141 rfl ?_
            refine r_goto (tgt := 51) C dX11_put_144 (by decide) ?_
            exact Wa.sub [0, 1, 2, 3] rfl h
    · replace h := h.2 c23
      refine r_aload_n (pc' := 75) C 0 rfl rfl dX11_put_74 rfl ?_
      refine r_getr (pc' := 78) (k := 0) (r := 5) C fl_X11_19 (by decide) kc_0 (by decide) fr_11_1 RV_0_1 dX11_put_75 rfl ?_
      refine r_iload (pc' := 80) C 3 rfl dX11_put_78 rfl ?_
      refine r_iload (pc' := 82) C 4 rfl dX11_put_80 rfl ?_
      refine c_Vv (pc' := 85) (mt := mX5_share) (as := [.int (i32 x4), .int (i32 r19)]) (st := []) (k := 5) C h rfl cl_X5_share ml_X11_120 im_X5_share sl_X5_share (by omega) (Nat.le_refl _) (Nat.le_refl _) rfl (by decide) kc_5 (by decide) rfl rfl rfl (Nat.le_of_ble_eq_true rfl) dX11_put_82 rfl (fun r58 iv59 av60 h => ?_)
      refine r_goto (tgt := 141) C dX11_put_85 (by decide) ?_
      refine r_iinc (pc' := 144) (ls' := [(0, .ref (gl_b Y + 0)), (2, .int (i32 x2)), (3, .int (i32 x3)), (4, .int (i32 (x4 + 1))), (5, .int (i32 r19))]) C 3 rfl (by decide) rfl dX11_put_141 rfl ?_
      refine r_goto (tgt := 51) C dX11_put_144 (by decide) ?_
      exact Wa.sub [0, 1, 2, 3] rfl h
set_option maxHeartbeats 4000000 in
set_option maxRecDepth 100000 in
theorem o_X11_put {Y : Gl} {e : Nat} {P : PN} {x1 : Int} {x2 : Int} {x3 : Int} {iv av : IVt} (hx1 : InR x1) (h : ∀ X : Cx, CX Y X RX11 "put" cX11_put 7 (some .int) (e + 7) 0 0 →
    ((x1 < 12) →
      P (-1) iv av
    ) ∧
    ((¬ x1 < 12) →
      ((x1 ≤ 16) →
        OkN Y (e + 6) mX4_bytes [.ref (gl_b Y + 1)] RV iv av 116 (fun r3 iv4 av5 =>
          (r3 = 2) ∧
          OkN Y (e + 6) mX2_count [.ref (gl_b Y + 2)] RV iv4 av5 116 (fun r7 iv8 av9 =>
            (InR r7) →
            ((r7 ≤ 131072) →
              OkN Y (e + 6) mX2_keep [.ref (gl_b Y + 12), .int (i32 0)] RV iv8 av9 116 (fun r12 iv13 av14 =>
                OkN Y (e + 6) mX5_begin [.ref (gl_b Y + 5), .int (i32 x1)] RV iv13 av14 116 (fun r16 iv17 av18 =>
                  L_X11_put_51 Y X P x2 x3 0 iv17 av18
                )
              )
            ) ∧
            ((¬ r7 ≤ 131072) →
              P (-3) iv8 av9
            )
          )
        )
      ) ∧
      ((¬ x1 ≤ 16) →
        P (-1) iv av
      )
    )) : OkN Y (e + 7) mX11_put [.ref (gl_b Y + 0), .int (i32 x1), .int (i32 x2), .int (i32 x3)] RV iv av 116 P := by
  refine OkW.of rfl (by show _ ≤ 7; exact Nat.le_of_ble_eq_true rfl) fun X C0 hR => ?_
  have C : CX Y X RX11 "put" cX11_put 7 (some .int) (e + 7) 0 0 := C0
  replace h := h X C
  show Wa Y X 7 (g_MQ Y X 1 (g_N RV 116 P) 0 0) 0 0 0 [(0, .ref (gl_b Y + 0)), (1, .int (i32 x1)), (2, .int (i32 x2)), (3, .int (i32 x3))] [] RV iv av 116
  refine r_iload_n (pc' := 1) C 1 rfl rfl dX11_put_0 rfl ?_
  refine r_bipush (pc' := 3) C dX11_put_1 (by decide) rfl ?_
  refine r_icmp_lt (pc' := 6) (tgt := 12) C hx1 (by decide) dX11_put_3 (by decide) rfl (fun c1 => ?_) (fun c1 => ?_)
  · replace h := h.1 c1
    refine r_iconst (pc' := 13) C dX11_put_12 rfl ?_
    exact r_iret C (by decide) ⟨rfl, rfl, h⟩ dX11_put_13
  · replace h := h.2 c1
    refine r_iload_n (pc' := 7) C 1 rfl rfl dX11_put_6 rfl ?_
    refine r_bipush (pc' := 9) C dX11_put_7 (by decide) rfl ?_
    refine r_icmp_le (pc' := 12) (tgt := 14) C hx1 (by decide) dX11_put_9 (by decide) rfl (fun c2 => ?_) (fun c2 => ?_)
    · replace h := h.1 c2
      refine r_aload_n (pc' := 15) C 0 rfl rfl dX11_put_14 rfl ?_
      refine r_getr (pc' := 18) (k := 0) (r := 1) C fl_X11_10 (by decide) kc_0 (by decide) fr_11_0 RV_0_0 dX11_put_15 rfl ?_
      refine c_Va (pc' := 21) (mt := mX4_bytes) (as := []) (st := []) (k := 1) C h rfl cl_X4_bytes ml_X11_110 im_X4_bytes sl_X4_bytes (by omega) (Nat.le_refl _) (Nat.le_refl _) rfl (by decide) kc_1 (by decide) rfl rfl rfl (Nat.le_of_ble_eq_true rfl) dX11_put_18 rfl (fun r3 iv4 av5 h => ?_)
      obtain ⟨rfl, h⟩ := h
      show Wa _ _ _ _ _ _ _ _ [.ref (gl_b Y + 2)] _ _ _ _
      refine c_Vi (pc' := 24) (mt := mX2_count) (as := []) (st := []) (k := 2) C h rfl cl_X2_count ml_X11_78 im_X2_count sl_X2_count (by omega) (Nat.le_refl _) (Nat.le_refl _) rfl (by decide) kc_2 (by decide) rfl rfl rfl (Nat.le_of_ble_eq_true rfl) dX11_put_21 rfl (fun r7 iv8 av9 f10 h => ?_)
      replace h := h f10
      refine r_ldc (pc' := 26) (x := 131072) C ct_X11_32 (by decide) dX11_put_24 rfl ?_
      refine r_icmp_le (pc' := 29) (tgt := 32) C f10 (by decide) dX11_put_26 (by decide) rfl (fun c11 => ?_) (fun c11 => ?_)
      · replace h := h.1 c11
        refine r_aload_n (pc' := 33) C 0 rfl rfl dX11_put_32 rfl ?_
        refine r_getr (pc' := 36) (k := 0) (r := 12) C fl_X11_33 (by decide) kc_0 (by decide) fr_11_3 RV_0_3 dX11_put_33 rfl ?_
        refine r_iconst (pc' := 37) C dX11_put_36 rfl ?_
        refine c_Vv (pc' := 40) (mt := mX2_keep) (as := [.int (i32 0)]) (st := []) (k := 12) C h rfl cl_X2_keep ml_X11_85 im_X2_keep sl_X2_keep (by omega) (Nat.le_refl _) (Nat.le_refl _) rfl (by decide) kc_12 (by decide) rfl rfl rfl (Nat.le_of_ble_eq_true rfl) dX11_put_37 rfl (fun r12 iv13 av14 h => ?_)
        refine r_aload_n (pc' := 41) C 0 rfl rfl dX11_put_40 rfl ?_
        refine r_getr (pc' := 44) (k := 0) (r := 5) C fl_X11_19 (by decide) kc_0 (by decide) fr_11_1 RV_0_1 dX11_put_41 rfl ?_
        refine r_iload_n (pc' := 45) C 1 rfl rfl dX11_put_44 rfl ?_
        refine c_Vv (pc' := 48) (mt := mX5_begin) (as := [.int (i32 x1)]) (st := []) (k := 5) C h rfl cl_X5_begin ml_X11_114 im_X5_begin sl_X5_begin (by omega) (Nat.le_refl _) (Nat.le_refl _) rfl (by decide) kc_5 (by decide) rfl rfl rfl (Nat.le_of_ble_eq_true rfl) dX11_put_45 rfl (fun r16 iv17 av18 h => ?_)
        refine r_iconst (pc' := 49) C dX11_put_48 rfl ?_
        refine r_istore (pc' := 51) (ls' := [(0, .ref (gl_b Y + 0)), (1, .int (i32 x1)), (2, .int (i32 x2)), (3, .int (i32 x3)), (4, .int (i32 0))]) C (by decide) rfl dX11_put_49 rfl ?_
        exact Wa.sub [0, 2, 3, 4] rfl h
      · replace h := h.2 c11
        refine r_bipush (pc' := 31) C dX11_put_29 (by decide) rfl ?_
        exact r_iret C (by decide) ⟨rfl, rfl, h⟩ dX11_put_31
    · replace h := h.2 c2
      refine r_iconst (pc' := 13) C dX11_put_12 rfl ?_
      exact r_iret C (by decide) ⟨rfl, rfl, h⟩ dX11_put_13
def L_X11_putBlocks_77 (Y : Gl) (X : Cx) (P : PN) (x1 : Int) (x2 : Int) (x4 : Int) (x5 : Int) (x6 : Int) (x7 : Int) (x8 : Int) (iv av : IVt) : Prop := Wa Y X 10 (g_MQ Y X 1 (g_N RV 116 P) 0 0) 0 0 77 [(0, .ref (gl_b Y + 0)), (1, .int (i32 x1)), (2, .int (i32 x2)), (4, .int (i32 x4)), (5, .int (i32 x5)), (6, .int (i32 x6)), (7, .int (i32 x7)), (8, .int (i32 x8))] [] RV iv av 116
set_option maxHeartbeats 4000000 in
set_option maxRecDepth 100000 in
theorem w_X11_putBlocks_77 {Y : Gl} {X : Cx} {e : Nat} {P : PN} {x1 : Int} {x2 : Int} {x4 : Int} {x5 : Int} {x6 : Int} {x7 : Int} {x8 : Int} {iv av : IVt} (C : CX Y X RX11 "putBlocks" cX11_putBlocks 10 (some .int) (e + 6) 0 0) (hx1 : InR x1) (hx2 : InR x2) (hx5 : InR x5) (hx6 : InR x6) (hx8 : InR x8) (h :
    (InR (x4 - x6)) ∧
    (((x4 - x6) ≤ x8) →
      P x6 iv av
    ) ∧
    ((¬ (x4 - x6) ≤ x8) →
      (InR (x4 - x8)) ∧
      OkN Y (e + 5) mX4_bytes [.ref (gl_b Y + 1)] RV iv av 116 (fun r4 iv5 av6 =>
        (r4 = 2) ∧
        (InR (x7 + x8)) ∧
        OkN Y (e + 5) mX2_isZero [.ref (gl_b Y + 2), .int (i32 (x7 + x8)), .int (i32 (min x5 (x4 - x8)))] RV iv5 av6 116 (fun r9 iv10 av11 =>
          (InR r9) →
          ((r9 = 0) →
            OkN Y (e + 5) mX4_bytes [.ref (gl_b Y + 1)] RV iv10 av11 116 (fun r14 iv15 av16 =>
              (r14 = 2) ∧
              OkN Y (e + 5) mX11_append [.ref (gl_b Y + 0), .ref (gl_b Y + 2), .int (i32 (x7 + x8)), .int (i32 (min x5 (x4 - x8))), .int (i32 x2)] RV iv15 av16 116 (fun r18 iv19 av20 =>
                (InR r18) →
                OkN Y (e + 5) mX5_addBlock [.ref (gl_b Y + 5), .int (i32 x1), .int (i32 r18)] RV iv19 av20 116 (fun r22 iv23 av24 =>
                  L_X11_putBlocks_77 Y X P x1 x2 x4 x5 x6 x7 (x8 + x5) iv23 av24
                )
              )
            )
          ) ∧
          ((¬ r9 = 0) →
            OkN Y (e + 5) mX5_addZeros [.ref (gl_b Y + 5), .int (i32 x1), .int (i32 (min x5 (x4 - x8)))] RV iv10 av11 116 (fun r26 iv27 av28 =>
              L_X11_putBlocks_77 Y X P x1 x2 x4 x5 x6 x7 (x8 + x5) iv27 av28
            )
          )
        )
      )
    )) : L_X11_putBlocks_77 Y X P x1 x2 x4 x5 x6 x7 x8 iv av := by
  unfold L_X11_putBlocks_77
  refine r_iload (pc' := 79) C 7 rfl dX11_putBlocks_77 rfl ?_
  refine r_iload (pc' := 81) C 3 rfl dX11_putBlocks_79 rfl ?_
  refine r_iload (pc' := 83) C 5 rfl dX11_putBlocks_81 rfl ?_
  refine r_isub (pc' := 84) C dX11_putBlocks_83 rfl ?_
  have o1 := h.1
  replace h := h.2
  refine r_icmp_ge (pc' := 87) (tgt := 169) C hx8 o1 dX11_putBlocks_84 (by decide) rfl (fun c2 => ?_) (fun c2 => ?_)
  · replace h := h.1 c2
    refine r_iload (pc' := 171) C 5 rfl dX11_putBlocks_169 rfl ?_
    exact r_iret C hx6 ⟨rfl, rfl, h⟩ dX11_putBlocks_171
  · replace h := h.2 c2
    refine r_iload (pc' := 89) C 4 rfl dX11_putBlocks_87 rfl ?_
    refine r_iload (pc' := 91) C 3 rfl dX11_putBlocks_89 rfl ?_
    refine r_iload (pc' := 93) C 7 rfl dX11_putBlocks_91 rfl ?_
    refine r_isub (pc' := 94) C dX11_putBlocks_93 rfl ?_
    have o3 := h.1
    replace h := h.2
    refine r_min (pc' := 97) C ml_X11_143 wd_min_s wd_math wd_min_c (by omega) (Nat.le_of_ble_eq_true rfl) (Nat.le_refl _) (Nat.le_refl _) hx5 o3 dX11_putBlocks_94 rfl ?_
    refine r_istore (pc' := 99) (ls' := [(0, .ref (gl_b Y + 0)), (1, .int (i32 x1)), (2, .int (i32 x2)), (4, .int (i32 x4)), (5, .int (i32 x5)), (6, .int (i32 x6)), (7, .int (i32 x7)), (8, .int (i32 x8)), (9, .int (i32 (min x5 (x4 - x8))))]) C (by decide) rfl dX11_putBlocks_97 rfl ?_
    refine r_aload_n (pc' := 100) C 0 rfl rfl dX11_putBlocks_99 rfl ?_
    refine r_getr (pc' := 103) (k := 0) (r := 1) C fl_X11_10 (by decide) kc_0 (by decide) fr_11_0 RV_0_0 dX11_putBlocks_100 rfl ?_
    refine c_Va (pc' := 106) (mt := mX4_bytes) (as := []) (st := []) (k := 1) C h rfl cl_X4_bytes ml_X11_110 im_X4_bytes sl_X4_bytes (by omega) (Nat.le_refl _) (Nat.le_refl _) rfl (by decide) kc_1 (by decide) rfl rfl rfl (Nat.le_of_ble_eq_true rfl) dX11_putBlocks_103 rfl (fun r4 iv5 av6 h => ?_)
    obtain ⟨rfl, h⟩ := h
    show Wa _ _ _ _ _ _ _ _ [.ref (gl_b Y + 2)] _ _ _ _
    refine r_iload (pc' := 108) C 6 rfl dX11_putBlocks_106 rfl ?_
    refine r_iload (pc' := 110) C 7 rfl dX11_putBlocks_108 rfl ?_
    refine r_iadd (pc' := 111) C dX11_putBlocks_110 rfl ?_
    refine r_iload (pc' := 113) C 8 rfl dX11_putBlocks_111 rfl ?_
    have o8 := h.1
    replace h := h.2
    refine c_Vi (pc' := 116) (mt := mX2_isZero) (as := [.int (i32 (x7 + x8)), .int (i32 (min x5 (x4 - x8)))]) (st := []) (k := 2) C h rfl cl_X2_isZero ml_X11_148 im_X2_isZero sl_X2_isZero (by omega) (Nat.le_refl _) (Nat.le_refl _) rfl (by decide) kc_2 (by decide) rfl rfl rfl (Nat.le_of_ble_eq_true rfl) dX11_putBlocks_113 rfl (fun r9 iv10 av11 f12 h => ?_)
    replace h := h f12
    refine r_if_eq (pc' := 119) (tgt := 132) C f12 dX11_putBlocks_116 (by decide) rfl (fun c13 => ?_) (fun c13 => ?_)
    · replace h := h.1 c13
      refine r_aload_n (pc' := 133) C 0 rfl rfl dX11_putBlocks_132 rfl ?_
      refine r_getr (pc' := 136) (k := 0) (r := 5) C fl_X11_19 (by decide) kc_0 (by decide) fr_11_1 RV_0_1 dX11_putBlocks_133 rfl ?_
      refine r_iload_n (pc' := 137) C 1 rfl rfl dX11_putBlocks_136 rfl ?_
      refine r_aload_n (pc' := 138) C 0 rfl rfl dX11_putBlocks_137 rfl ?_
      refine r_aload_n (pc' := 139) C 0 rfl rfl dX11_putBlocks_138 rfl ?_
      refine r_getr (pc' := 142) (k := 0) (r := 1) C fl_X11_10 (by decide) kc_0 (by decide) fr_11_0 RV_0_0 dX11_putBlocks_139 rfl ?_
      refine c_Va (pc' := 145) (mt := mX4_bytes) (as := []) (st := [.ref (gl_b Y + 0), .int (i32 x1), .ref (gl_b Y + 5)]) (k := 1) C h rfl cl_X4_bytes ml_X11_110 im_X4_bytes sl_X4_bytes (by omega) (Nat.le_refl _) (Nat.le_refl _) rfl (by decide) kc_1 (by decide) rfl rfl rfl (Nat.le_of_ble_eq_true rfl) dX11_putBlocks_142 rfl (fun r14 iv15 av16 h => ?_)
      obtain ⟨rfl, h⟩ := h
      show Wa _ _ _ _ _ _ _ _ [.ref (gl_b Y + 2), .ref (gl_b Y + 0), .int (i32 x1), .ref (gl_b Y + 5)] _ _ _ _
      refine r_iload (pc' := 147) C 6 rfl dX11_putBlocks_145 rfl ?_
      refine r_iload (pc' := 149) C 7 rfl dX11_putBlocks_147 rfl ?_
      refine r_iadd (pc' := 150) C dX11_putBlocks_149 rfl ?_
      refine r_iload (pc' := 152) C 8 rfl dX11_putBlocks_150 rfl ?_
      refine r_iload_n (pc' := 153) C 2 rfl rfl dX11_putBlocks_152 rfl ?_
      refine c_Vi (pc' := 156) (mt := mX11_append) (as := [.ref (gl_b Y + 2), .int (i32 (x7 + x8)), .int (i32 (min x5 (x4 - x8))), .int (i32 x2)]) (st := [.int (i32 x1), .ref (gl_b Y + 5)]) (k := 0) C h rfl cl_X11_append ml_X11_155 im_X11_append sl_X11_append (by omega) (Nat.le_refl _) (Nat.le_refl _) rfl (by decide) kc_0 (by decide) rfl rfl rfl (Nat.le_of_ble_eq_true rfl) dX11_putBlocks_153 rfl (fun r18 iv19 av20 f21 h => ?_)
      replace h := h f21
      refine c_Vv (pc' := 159) (mt := mX5_addBlock) (as := [.int (i32 x1), .int (i32 r18)]) (st := []) (k := 5) C h rfl cl_X5_addBlock ml_X11_159 im_X5_addBlock sl_X5_addBlock (by omega) (Nat.le_refl _) (Nat.le_refl _) rfl (by decide) kc_5 (by decide) rfl rfl rfl (Nat.le_of_ble_eq_true rfl) dX11_putBlocks_156 rfl (fun r22 iv23 av24 h => ?_)
      refine r_iload (pc' := 161) C 7 rfl dX11_putBlocks_159 rfl ?_
      refine r_iload (pc' := 163) C 4 rfl dX11_putBlocks_161 rfl ?_
      refine r_iadd (pc' := 164) C dX11_putBlocks_163 rfl ?_
      refine r_istore (pc' := 166) (ls' := [(0, .ref (gl_b Y + 0)), (1, .int (i32 x1)), (2, .int (i32 x2)), (4, .int (i32 x4)), (5, .int (i32 x5)), (6, .int (i32 x6)), (7, .int (i32 x7)), (8, .int (i32 (x8 + x5))), (9, .int (i32 (min x5 (x4 - x8))))]) C (by decide) rfl dX11_putBlocks_164 rfl ?_
      refine r_goto (tgt := 77) C dX11_putBlocks_166 (by decide) ?_
      exact Wa.sub [0, 1, 2, 3, 4, 5, 6, 7] rfl h
    · replace h := h.2 c13
      refine r_aload_n (pc' := 120) C 0 rfl rfl dX11_putBlocks_119 rfl ?_
      refine r_getr (pc' := 123) (k := 0) (r := 5) C fl_X11_19 (by decide) kc_0 (by decide) fr_11_1 RV_0_1 dX11_putBlocks_120 rfl ?_
      refine r_iload_n (pc' := 124) C 1 rfl rfl dX11_putBlocks_123 rfl ?_
      refine r_iload (pc' := 126) C 8 rfl dX11_putBlocks_124 rfl ?_
      refine c_Vv (pc' := 129) (mt := mX5_addZeros) (as := [.int (i32 x1), .int (i32 (min x5 (x4 - x8)))]) (st := []) (k := 5) C h rfl cl_X5_addZeros ml_X11_152 im_X5_addZeros sl_X5_addZeros (by omega) (Nat.le_refl _) (Nat.le_refl _) rfl (by decide) kc_5 (by decide) rfl rfl rfl (Nat.le_of_ble_eq_true rfl) dX11_putBlocks_126 rfl (fun r26 iv27 av28 h => ?_)
      refine r_goto (tgt := 159) C dX11_putBlocks_129 (by decide) ?_
      refine r_iload (pc' := 161) C 7 rfl dX11_putBlocks_159 rfl ?_
      refine r_iload (pc' := 163) C 4 rfl dX11_putBlocks_161 rfl ?_
      refine r_iadd (pc' := 164) C dX11_putBlocks_163 rfl ?_
      refine r_istore (pc' := 166) (ls' := [(0, .ref (gl_b Y + 0)), (1, .int (i32 x1)), (2, .int (i32 x2)), (4, .int (i32 x4)), (5, .int (i32 x5)), (6, .int (i32 x6)), (7, .int (i32 x7)), (8, .int (i32 (x8 + x5))), (9, .int (i32 (min x5 (x4 - x8))))]) C (by decide) rfl dX11_putBlocks_164 rfl ?_
      refine r_goto (tgt := 77) C dX11_putBlocks_166 (by decide) ?_
      exact Wa.sub [0, 1, 2, 3, 4, 5, 6, 7] rfl h
set_option maxHeartbeats 4000000 in
set_option maxRecDepth 100000 in
theorem o_X11_putBlocks {Y : Gl} {e : Nat} {P : PN} {x1 : Int} {x2 : Int} {x3 : Int} {iv av : IVt} (hx1 : InR x1) (hx3 : InR x3) (h : ∀ X : Cx, CX Y X RX11 "putBlocks" cX11_putBlocks 10 (some .int) (e + 6) 0 0 →
    OkN Y (e + 5) mX4_count [.ref (gl_b Y + 1), .int (i32 x1)] RV iv av 116 (fun r1 iv2 av3 =>
      (InR r1) →
      OkN Y (e + 5) mX5_blockBytes [.ref (gl_b Y + 5)] RV iv2 av3 116 (fun r5 iv6 av7 =>
        (InR r5) →
        ((x3 = 0) →
          OkN Y (e + 5) mX4_start [.ref (gl_b Y + 1), .int (i32 x1)] RV iv6 av7 116 (fun r10 iv11 av12 =>
            (InR r10) →
            ((r1 ≤ 0) →
              OkN Y (e + 5) mX5_open [.ref (gl_b Y + 5), .int (i32 x1), .int (i32 r1), .int (i32 0)] RV iv11 av12 116 (fun r15 iv16 av17 =>
                L_X11_putBlocks_77 Y X P x1 x2 r1 r5 0 r10 0 iv16 av17
              )
            ) ∧
            ((¬ r1 ≤ 0) →
              OkN Y (e + 5) mX2_count [.ref (gl_b Y + 12)] RV iv11 av12 116 (fun r19 iv20 av21 =>
                (InR r19) →
                OkN Y (e + 5) mX5_open [.ref (gl_b Y + 5), .int (i32 x1), .int (i32 r1), .int (i32 r19)] RV iv20 av21 116 (fun r23 iv24 av25 =>
                  L_X11_putBlocks_77 Y X P x1 x2 r1 r5 0 r10 0 iv24 av25
                )
              )
            )
          )
        ) ∧
        ((¬ x3 = 0) →
          OkN Y (e + 5) mX4_start [.ref (gl_b Y + 1), .int (i32 x1)] RV iv6 av7 116 (fun r27 iv28 av29 =>
            (InR r27) →
            ((r1 ≤ (g_and r1 (r5 - 1))) →
              OkN Y (e + 5) mX5_open [.ref (gl_b Y + 5), .int (i32 x1), .int (i32 r1), .int (i32 0)] RV iv28 av29 116 (fun r32 iv33 av34 =>
                L_X11_putBlocks_77 Y X P x1 x2 r1 r5 (g_and r1 (r5 - 1)) r27 0 iv33 av34
              )
            ) ∧
            ((¬ r1 ≤ (g_and r1 (r5 - 1))) →
              OkN Y (e + 5) mX2_count [.ref (gl_b Y + 12)] RV iv28 av29 116 (fun r36 iv37 av38 =>
                (InR r36) →
                OkN Y (e + 5) mX5_open [.ref (gl_b Y + 5), .int (i32 x1), .int (i32 r1), .int (i32 r36)] RV iv37 av38 116 (fun r40 iv41 av42 =>
                  L_X11_putBlocks_77 Y X P x1 x2 r1 r5 (g_and r1 (r5 - 1)) r27 0 iv41 av42
                )
              )
            )
          )
        )
      )
    )) : OkN Y (e + 6) mX11_putBlocks [.ref (gl_b Y + 0), .int (i32 x1), .int (i32 x2), .int (i32 x3)] RV iv av 116 P := by
  refine OkW.of rfl (by show _ ≤ 10; exact Nat.le_of_ble_eq_true rfl) fun X C0 hR => ?_
  have C : CX Y X RX11 "putBlocks" cX11_putBlocks 10 (some .int) (e + 6) 0 0 := C0
  replace h := h X C
  show Wa Y X 10 (g_MQ Y X 1 (g_N RV 116 P) 0 0) 0 0 0 [(0, .ref (gl_b Y + 0)), (1, .int (i32 x1)), (2, .int (i32 x2)), (3, .int (i32 x3))] [] RV iv av 116
  refine r_aload_n (pc' := 1) C 0 rfl rfl dX11_putBlocks_0 rfl ?_
  refine r_getr (pc' := 4) (k := 0) (r := 1) C fl_X11_10 (by decide) kc_0 (by decide) fr_11_0 RV_0_0 dX11_putBlocks_1 rfl ?_
  refine r_iload_n (pc' := 5) C 1 rfl rfl dX11_putBlocks_4 rfl ?_
  refine c_Vi (pc' := 8) (mt := mX4_count) (as := [.int (i32 x1)]) (st := []) (k := 1) C h rfl cl_X4_count ml_X11_104 im_X4_count sl_X4_count (by omega) (Nat.le_refl _) (Nat.le_refl _) rfl (by decide) kc_1 (by decide) rfl rfl rfl (Nat.le_of_ble_eq_true rfl) dX11_putBlocks_5 rfl (fun r1 iv2 av3 f4 h => ?_)
  replace h := h f4
  refine r_istore (pc' := 10) (ls' := [(0, .ref (gl_b Y + 0)), (1, .int (i32 x1)), (2, .int (i32 x2)), (3, .int (i32 x3)), (4, .int (i32 r1))]) C (by decide) rfl dX11_putBlocks_8 rfl ?_
  refine r_aload_n (pc' := 11) C 0 rfl rfl dX11_putBlocks_10 rfl ?_
  refine r_getr (pc' := 14) (k := 0) (r := 5) C fl_X11_19 (by decide) kc_0 (by decide) fr_11_1 RV_0_1 dX11_putBlocks_11 rfl ?_
  refine c_Vi (pc' := 17) (mt := mX5_blockBytes) (as := []) (st := []) (k := 5) C h rfl cl_X5_blockBytes ml_X11_127 im_X5_blockBytes sl_X5_blockBytes (by omega) (Nat.le_refl _) (Nat.le_refl _) rfl (by decide) kc_5 (by decide) rfl rfl rfl (Nat.le_of_ble_eq_true rfl) dX11_putBlocks_14 rfl (fun r5 iv6 av7 f8 h => ?_)
  replace h := h f8
  refine r_istore (pc' := 19) (ls' := [(0, .ref (gl_b Y + 0)), (1, .int (i32 x1)), (2, .int (i32 x2)), (3, .int (i32 x3)), (4, .int (i32 r1)), (5, .int (i32 r5))]) C (by decide) rfl dX11_putBlocks_17 rfl ?_
  refine r_iload_n (pc' := 20) C 3 rfl rfl dX11_putBlocks_19 rfl ?_
  refine r_if_eq (pc' := 23) (tgt := 33) C hx3 dX11_putBlocks_20 (by decide) rfl (fun c9 => ?_) (fun c9 => ?_)
  · replace h := h.1 c9
    refine r_iconst (pc' := 34) C dX11_putBlocks_33 rfl ?_
    refine r_istore (pc' := 36) (ls' := [(0, .ref (gl_b Y + 0)), (1, .int (i32 x1)), (2, .int (i32 x2)), (3, .int (i32 x3)), (4, .int (i32 r1)), (5, .int (i32 r5)), (6, .int (i32 0))]) C (by decide) rfl dX11_putBlocks_34 rfl ?_
    refine r_aload_n (pc' := 37) C 0 rfl rfl dX11_putBlocks_36 rfl ?_
    refine r_getr (pc' := 40) (k := 0) (r := 1) C fl_X11_10 (by decide) kc_0 (by decide) fr_11_0 RV_0_0 dX11_putBlocks_37 rfl ?_
    refine r_iload_n (pc' := 41) C 1 rfl rfl dX11_putBlocks_40 rfl ?_
    refine c_Vi (pc' := 44) (mt := mX4_start) (as := [.int (i32 x1)]) (st := []) (k := 1) C h rfl cl_X4_start ml_X11_137 im_X4_start sl_X4_start (by omega) (Nat.le_refl _) (Nat.le_refl _) rfl (by decide) kc_1 (by decide) rfl rfl rfl (Nat.le_of_ble_eq_true rfl) dX11_putBlocks_41 rfl (fun r10 iv11 av12 f13 h => ?_)
    replace h := h f13
    refine r_istore (pc' := 46) (ls' := [(0, .ref (gl_b Y + 0)), (1, .int (i32 x1)), (2, .int (i32 x2)), (3, .int (i32 x3)), (4, .int (i32 r1)), (5, .int (i32 r5)), (6, .int (i32 0)), (7, .int (i32 r10))]) C (by decide) rfl dX11_putBlocks_44 rfl ?_
    refine r_aload_n (pc' := 47) C 0 rfl rfl dX11_putBlocks_46 rfl ?_
    refine r_getr (pc' := 50) (k := 0) (r := 5) C fl_X11_19 (by decide) kc_0 (by decide) fr_11_1 RV_0_1 dX11_putBlocks_47 rfl ?_
    refine r_iload_n (pc' := 51) C 1 rfl rfl dX11_putBlocks_50 rfl ?_
    refine r_iload (pc' := 53) C 4 rfl dX11_putBlocks_51 rfl ?_
    refine r_iload (pc' := 55) C 4 rfl dX11_putBlocks_53 rfl ?_
    refine r_iload (pc' := 57) C 6 rfl dX11_putBlocks_55 rfl ?_
    refine r_icmp_le (pc' := 60) (tgt := 70) C f4 (by decide) dX11_putBlocks_57 (by decide) rfl (fun c14 => ?_) (fun c14 => ?_)
    · replace h := h.1 c14
      refine r_iconst (pc' := 71) C dX11_putBlocks_70 rfl ?_
      refine c_Vv (pc' := 74) (mt := mX5_open) (as := [.int (i32 x1), .int (i32 r1), .int (i32 0)]) (st := []) (k := 5) C h rfl cl_X5_open ml_X11_140 im_X5_open sl_X5_open (by omega) (Nat.le_refl _) (Nat.le_refl _) rfl (by decide) kc_5 (by decide) rfl rfl rfl (Nat.le_of_ble_eq_true rfl) dX11_putBlocks_71 rfl (fun r15 iv16 av17 h => ?_)
      refine r_iconst (pc' := 75) C dX11_putBlocks_74 rfl ?_
      refine r_istore (pc' := 77) (ls' := [(0, .ref (gl_b Y + 0)), (1, .int (i32 x1)), (2, .int (i32 x2)), (3, .int (i32 x3)), (4, .int (i32 r1)), (5, .int (i32 r5)), (6, .int (i32 0)), (7, .int (i32 r10)), (8, .int (i32 0))]) C (by decide) rfl dX11_putBlocks_75 rfl ?_
      exact Wa.sub [0, 1, 2, 4, 5, 6, 7, 8] rfl h
    · replace h := h.2 c14
      refine r_aload_n (pc' := 61) C 0 rfl rfl dX11_putBlocks_60 rfl ?_
      refine r_getr (pc' := 64) (k := 0) (r := 12) C fl_X11_33 (by decide) kc_0 (by decide) fr_11_3 RV_0_3 dX11_putBlocks_61 rfl ?_
      refine c_Vi (pc' := 67) (mt := mX2_count) (as := []) (st := [.int (i32 r1), .int (i32 x1), .ref (gl_b Y + 5)]) (k := 12) C h rfl cl_X2_count ml_X11_78 im_X2_count sl_X2_count (by omega) (Nat.le_refl _) (Nat.le_refl _) rfl (by decide) kc_12 (by decide) rfl rfl rfl (Nat.le_of_ble_eq_true rfl) dX11_putBlocks_64 rfl (fun r19 iv20 av21 f22 h => ?_)
      replace h := h f22
      refine r_goto (tgt := 71) C dX11_putBlocks_67 (by decide) ?_
      refine c_Vv (pc' := 74) (mt := mX5_open) (as := [.int (i32 x1), .int (i32 r1), .int (i32 r19)]) (st := []) (k := 5) C h rfl cl_X5_open ml_X11_140 im_X5_open sl_X5_open (by omega) (Nat.le_refl _) (Nat.le_refl _) rfl (by decide) kc_5 (by decide) rfl rfl rfl (Nat.le_of_ble_eq_true rfl) dX11_putBlocks_71 rfl (fun r23 iv24 av25 h => ?_)
      refine r_iconst (pc' := 75) C dX11_putBlocks_74 rfl ?_
      refine r_istore (pc' := 77) (ls' := [(0, .ref (gl_b Y + 0)), (1, .int (i32 x1)), (2, .int (i32 x2)), (3, .int (i32 x3)), (4, .int (i32 r1)), (5, .int (i32 r5)), (6, .int (i32 0)), (7, .int (i32 r10)), (8, .int (i32 0))]) C (by decide) rfl dX11_putBlocks_75 rfl ?_
      exact Wa.sub [0, 1, 2, 4, 5, 6, 7, 8] rfl h
  · replace h := h.2 c9
    refine r_iload (pc' := 25) C 4 rfl dX11_putBlocks_23 rfl ?_
    refine r_iload (pc' := 27) C 5 rfl dX11_putBlocks_25 rfl ?_
    refine r_iconst (pc' := 28) C dX11_putBlocks_27 rfl ?_
    refine r_isub (pc' := 29) C dX11_putBlocks_28 rfl ?_
    refine r_iand (pc' := 30) C dX11_putBlocks_29 rfl ?_
    refine r_goto (tgt := 34) C dX11_putBlocks_30 (by decide) ?_
    refine r_istore (pc' := 36) (ls' := [(0, .ref (gl_b Y + 0)), (1, .int (i32 x1)), (2, .int (i32 x2)), (3, .int (i32 x3)), (4, .int (i32 r1)), (5, .int (i32 r5)), (6, .int (i32 (g_and r1 (r5 - 1))))]) C (by decide) rfl dX11_putBlocks_34 rfl ?_
    refine r_aload_n (pc' := 37) C 0 rfl rfl dX11_putBlocks_36 rfl ?_
    refine r_getr (pc' := 40) (k := 0) (r := 1) C fl_X11_10 (by decide) kc_0 (by decide) fr_11_0 RV_0_0 dX11_putBlocks_37 rfl ?_
    refine r_iload_n (pc' := 41) C 1 rfl rfl dX11_putBlocks_40 rfl ?_
    refine c_Vi (pc' := 44) (mt := mX4_start) (as := [.int (i32 x1)]) (st := []) (k := 1) C h rfl cl_X4_start ml_X11_137 im_X4_start sl_X4_start (by omega) (Nat.le_refl _) (Nat.le_refl _) rfl (by decide) kc_1 (by decide) rfl rfl rfl (Nat.le_of_ble_eq_true rfl) dX11_putBlocks_41 rfl (fun r27 iv28 av29 f30 h => ?_)
    replace h := h f30
    refine r_istore (pc' := 46) (ls' := [(0, .ref (gl_b Y + 0)), (1, .int (i32 x1)), (2, .int (i32 x2)), (3, .int (i32 x3)), (4, .int (i32 r1)), (5, .int (i32 r5)), (6, .int (i32 (g_and r1 (r5 - 1)))), (7, .int (i32 r27))]) C (by decide) rfl dX11_putBlocks_44 rfl ?_
    refine r_aload_n (pc' := 47) C 0 rfl rfl dX11_putBlocks_46 rfl ?_
    refine r_getr (pc' := 50) (k := 0) (r := 5) C fl_X11_19 (by decide) kc_0 (by decide) fr_11_1 RV_0_1 dX11_putBlocks_47 rfl ?_
    refine r_iload_n (pc' := 51) C 1 rfl rfl dX11_putBlocks_50 rfl ?_
    refine r_iload (pc' := 53) C 4 rfl dX11_putBlocks_51 rfl ?_
    refine r_iload (pc' := 55) C 4 rfl dX11_putBlocks_53 rfl ?_
    refine r_iload (pc' := 57) C 6 rfl dX11_putBlocks_55 rfl ?_
    refine r_icmp_le (pc' := 60) (tgt := 70) C f4 (g_and_in _ _) dX11_putBlocks_57 (by decide) rfl (fun c31 => ?_) (fun c31 => ?_)
    · replace h := h.1 c31
      refine r_iconst (pc' := 71) C dX11_putBlocks_70 rfl ?_
      refine c_Vv (pc' := 74) (mt := mX5_open) (as := [.int (i32 x1), .int (i32 r1), .int (i32 0)]) (st := []) (k := 5) C h rfl cl_X5_open ml_X11_140 im_X5_open sl_X5_open (by omega) (Nat.le_refl _) (Nat.le_refl _) rfl (by decide) kc_5 (by decide) rfl rfl rfl (Nat.le_of_ble_eq_true rfl) dX11_putBlocks_71 rfl (fun r32 iv33 av34 h => ?_)
      refine r_iconst (pc' := 75) C dX11_putBlocks_74 rfl ?_
      refine r_istore (pc' := 77) (ls' := [(0, .ref (gl_b Y + 0)), (1, .int (i32 x1)), (2, .int (i32 x2)), (3, .int (i32 x3)), (4, .int (i32 r1)), (5, .int (i32 r5)), (6, .int (i32 (g_and r1 (r5 - 1)))), (7, .int (i32 r27)), (8, .int (i32 0))]) C (by decide) rfl dX11_putBlocks_75 rfl ?_
      exact Wa.sub [0, 1, 2, 4, 5, 6, 7, 8] rfl h
    · replace h := h.2 c31
      refine r_aload_n (pc' := 61) C 0 rfl rfl dX11_putBlocks_60 rfl ?_
      refine r_getr (pc' := 64) (k := 0) (r := 12) C fl_X11_33 (by decide) kc_0 (by decide) fr_11_3 RV_0_3 dX11_putBlocks_61 rfl ?_
      refine c_Vi (pc' := 67) (mt := mX2_count) (as := []) (st := [.int (i32 r1), .int (i32 x1), .ref (gl_b Y + 5)]) (k := 12) C h rfl cl_X2_count ml_X11_78 im_X2_count sl_X2_count (by omega) (Nat.le_refl _) (Nat.le_refl _) rfl (by decide) kc_12 (by decide) rfl rfl rfl (Nat.le_of_ble_eq_true rfl) dX11_putBlocks_64 rfl (fun r36 iv37 av38 f39 h => ?_)
      replace h := h f39
      refine r_goto (tgt := 71) C dX11_putBlocks_67 (by decide) ?_
      refine c_Vv (pc' := 74) (mt := mX5_open) (as := [.int (i32 x1), .int (i32 r1), .int (i32 r36)]) (st := []) (k := 5) C h rfl cl_X5_open ml_X11_140 im_X5_open sl_X5_open (by omega) (Nat.le_refl _) (Nat.le_refl _) rfl (by decide) kc_5 (by decide) rfl rfl rfl (Nat.le_of_ble_eq_true rfl) dX11_putBlocks_71 rfl (fun r40 iv41 av42 h => ?_)
      refine r_iconst (pc' := 75) C dX11_putBlocks_74 rfl ?_
      refine r_istore (pc' := 77) (ls' := [(0, .ref (gl_b Y + 0)), (1, .int (i32 x1)), (2, .int (i32 x2)), (3, .int (i32 x3)), (4, .int (i32 r1)), (5, .int (i32 r5)), (6, .int (i32 (g_and r1 (r5 - 1)))), (7, .int (i32 r27)), (8, .int (i32 0))]) C (by decide) rfl dX11_putBlocks_75 rfl ?_
      exact Wa.sub [0, 1, 2, 4, 5, 6, 7, 8] rfl h
set_option maxHeartbeats 4000000 in
set_option maxRecDepth 100000 in
theorem o_X11_joinFragment {Y : Gl} {e : Nat} {P : PN} {x1 : Int} {x2 : Int} {iv av : IVt} (hx1 : InR x1) (hx2 : InR x2) (h : 
    OkN Y (e + 1) mX2_count [.ref (gl_b Y + 14)] RV iv av 116 (fun r1 iv2 av3 =>
      (InR r1) →
      OkN Y (e + 1) mX5_join [.ref (gl_b Y + 5), .int (i32 x1), .int (i32 r1)] RV iv2 av3 116 (fun r5 iv6 av7 =>
        OkN Y (e + 1) mX4_bytes [.ref (gl_b Y + 1)] RV iv6 av7 116 (fun r9 iv10 av11 =>
          (r9 = 2) ∧
          (InR (x1 + 1)) ∧
          OkN Y (e + 1) mX4_start [.ref (gl_b Y + 1), .int (i32 (x1 + 1))] RV iv10 av11 116 (fun r14 iv15 av16 =>
            (InR r14) →
            (InR (r14 - x2)) ∧
            OkN Y (e + 1) mX2_addAll [.ref (gl_b Y + 14), .ref (gl_b Y + 2), .int (i32 (r14 - x2)), .int (i32 x2)] RV iv15 av16 116 (fun r19 iv20 av21 =>
              P 0 iv20 av21
            )
          )
        )
      )
    )) : OkN Y (e + 2) mX11_joinFragment [.ref (gl_b Y + 0), .int (i32 x1), .int (i32 x2)] RV iv av 116 P := by
  refine OkW.of rfl (by show _ ≤ 3; exact Nat.le_of_ble_eq_true rfl) fun X C0 hR => ?_
  have C : CX Y X RX11 "joinFragment" cX11_joinFragment 3 none (e + 2) 0 0 := C0
  show Wa Y X 3 (g_MQ Y X 0 (g_N RV 116 P) 0 0) 0 0 0 [(0, .ref (gl_b Y + 0)), (1, .int (i32 x1)), (2, .int (i32 x2))] [] RV iv av 116
  refine r_aload_n (pc' := 1) C 0 rfl rfl dX11_joinFragment_0 rfl ?_
  refine r_getr (pc' := 4) (k := 0) (r := 5) C fl_X11_19 (by decide) kc_0 (by decide) fr_11_1 RV_0_1 dX11_joinFragment_1 rfl ?_
  refine r_iload_n (pc' := 5) C 1 rfl rfl dX11_joinFragment_4 rfl ?_
  refine r_aload_n (pc' := 6) C 0 rfl rfl dX11_joinFragment_5 rfl ?_
  refine r_getr (pc' := 9) (k := 0) (r := 14) C fl_X11_37 (by decide) kc_0 (by decide) fr_11_4 RV_0_4 dX11_joinFragment_6 rfl ?_
  refine c_Vi (pc' := 12) (mt := mX2_count) (as := []) (st := [.int (i32 x1), .ref (gl_b Y + 5)]) (k := 14) C h rfl cl_X2_count ml_X11_78 im_X2_count sl_X2_count (by omega) (Nat.le_refl _) (Nat.le_refl _) rfl (by decide) kc_14 (by decide) rfl rfl rfl (Nat.le_of_ble_eq_true rfl) dX11_joinFragment_9 rfl (fun r1 iv2 av3 f4 h => ?_)
  replace h := h f4
  refine c_Vv (pc' := 15) (mt := mX5_join) (as := [.int (i32 x1), .int (i32 r1)]) (st := []) (k := 5) C h rfl cl_X5_join ml_X11_162 im_X5_join sl_X5_join (by omega) (Nat.le_refl _) (Nat.le_refl _) rfl (by decide) kc_5 (by decide) rfl rfl rfl (Nat.le_of_ble_eq_true rfl) dX11_joinFragment_12 rfl (fun r5 iv6 av7 h => ?_)
  refine r_aload_n (pc' := 16) C 0 rfl rfl dX11_joinFragment_15 rfl ?_
  refine r_getr (pc' := 19) (k := 0) (r := 14) C fl_X11_37 (by decide) kc_0 (by decide) fr_11_4 RV_0_4 dX11_joinFragment_16 rfl ?_
  refine r_aload_n (pc' := 20) C 0 rfl rfl dX11_joinFragment_19 rfl ?_
  refine r_getr (pc' := 23) (k := 0) (r := 1) C fl_X11_10 (by decide) kc_0 (by decide) fr_11_0 RV_0_0 dX11_joinFragment_20 rfl ?_
  refine c_Va (pc' := 26) (mt := mX4_bytes) (as := []) (st := [.ref (gl_b Y + 14)]) (k := 1) C h rfl cl_X4_bytes ml_X11_110 im_X4_bytes sl_X4_bytes (by omega) (Nat.le_refl _) (Nat.le_refl _) rfl (by decide) kc_1 (by decide) rfl rfl rfl (Nat.le_of_ble_eq_true rfl) dX11_joinFragment_23 rfl (fun r9 iv10 av11 h => ?_)
  obtain ⟨rfl, h⟩ := h
  show Wa _ _ _ _ _ _ _ _ [.ref (gl_b Y + 2), .ref (gl_b Y + 14)] _ _ _ _
  refine r_aload_n (pc' := 27) C 0 rfl rfl dX11_joinFragment_26 rfl ?_
  refine r_getr (pc' := 30) (k := 0) (r := 1) C fl_X11_10 (by decide) kc_0 (by decide) fr_11_0 RV_0_0 dX11_joinFragment_27 rfl ?_
  refine r_iload_n (pc' := 31) C 1 rfl rfl dX11_joinFragment_30 rfl ?_
  refine r_iconst (pc' := 32) C dX11_joinFragment_31 rfl ?_
  refine r_iadd (pc' := 33) C dX11_joinFragment_32 rfl ?_
  have o13 := h.1
  replace h := h.2
  refine c_Vi (pc' := 36) (mt := mX4_start) (as := [.int (i32 (x1 + 1))]) (st := [.ref (gl_b Y + 2), .ref (gl_b Y + 14)]) (k := 1) C h rfl cl_X4_start ml_X11_137 im_X4_start sl_X4_start (by omega) (Nat.le_refl _) (Nat.le_refl _) rfl (by decide) kc_1 (by decide) rfl rfl rfl (Nat.le_of_ble_eq_true rfl) dX11_joinFragment_33 rfl (fun r14 iv15 av16 f17 h => ?_)
  replace h := h f17
  refine r_iload_n (pc' := 37) C 2 rfl rfl dX11_joinFragment_36 rfl ?_
  refine r_isub (pc' := 38) C dX11_joinFragment_37 rfl ?_
  refine r_iload_n (pc' := 39) C 2 rfl rfl dX11_joinFragment_38 rfl ?_
  have o18 := h.1
  replace h := h.2
  refine c_Vv (pc' := 42) (mt := mX2_addAll) (as := [.ref (gl_b Y + 2), .int (i32 (r14 - x2)), .int (i32 x2)]) (st := []) (k := 14) C h rfl cl_X2_addAll ml_X11_165 im_X2_addAll sl_X2_addAll (by omega) (Nat.le_refl _) (Nat.le_refl _) rfl (by decide) kc_14 (by decide) rfl rfl rfl (Nat.le_of_ble_eq_true rfl) dX11_joinFragment_39 rfl (fun r19 iv20 av21 h => ?_)
  exact r_vret C ⟨rfl, rfl, h⟩ dX11_joinFragment_42
set_option maxHeartbeats 4000000 in
set_option maxRecDepth 100000 in
theorem o_X11_closeFragment {Y : Gl} {e : Nat} {P : PN} {x1 : Int} {iv av : IVt} (hx1 : InR x1) (h : 
    OkN Y (e + 5) mX2_count [.ref (gl_b Y + 12)] RV iv av 116 (fun r1 iv2 av3 =>
      (InR r1) →
      OkN Y (e + 5) mX2_count [.ref (gl_b Y + 14)] RV iv2 av3 116 (fun r5 iv6 av7 =>
        (InR r5) →
        OkN Y (e + 5) mX11_append [.ref (gl_b Y + 0), .ref (gl_b Y + 14), .int (i32 0), .int (i32 r5), .int (i32 x1)] RV iv6 av7 116 (fun r9 iv10 av11 =>
          (InR r9) →
          OkN Y (e + 5) mX5_addFragment [.ref (gl_b Y + 5), .int (i32 r1), .int (i32 r9)] RV iv10 av11 116 (fun r13 iv14 av15 =>
            OkN Y (e + 5) mX2_keep [.ref (gl_b Y + 14), .int (i32 0)] RV iv14 av15 116 (fun r17 iv18 av19 =>
              P 0 iv18 av19
            )
          )
        )
      )
    )) : OkN Y (e + 6) mX11_closeFragment [.ref (gl_b Y + 0), .int (i32 x1)] RV iv av 116 P := by
  refine OkW.of rfl (by show _ ≤ 3; exact Nat.le_of_ble_eq_true rfl) fun X C0 hR => ?_
  have C : CX Y X RX11 "closeFragment" cX11_closeFragment 3 none (e + 6) 0 0 := C0
  show Wa Y X 3 (g_MQ Y X 0 (g_N RV 116 P) 0 0) 0 0 0 [(0, .ref (gl_b Y + 0)), (1, .int (i32 x1))] [] RV iv av 116
  refine r_aload_n (pc' := 1) C 0 rfl rfl dX11_closeFragment_0 rfl ?_
  refine r_getr (pc' := 4) (k := 0) (r := 12) C fl_X11_33 (by decide) kc_0 (by decide) fr_11_3 RV_0_3 dX11_closeFragment_1 rfl ?_
  refine c_Vi (pc' := 7) (mt := mX2_count) (as := []) (st := []) (k := 12) C h rfl cl_X2_count ml_X11_78 im_X2_count sl_X2_count (by omega) (Nat.le_refl _) (Nat.le_refl _) rfl (by decide) kc_12 (by decide) rfl rfl rfl (Nat.le_of_ble_eq_true rfl) dX11_closeFragment_4 rfl (fun r1 iv2 av3 f4 h => ?_)
  replace h := h f4
  refine r_istore_n (pc' := 8) (ls' := [(0, .ref (gl_b Y + 0)), (1, .int (i32 x1)), (2, .int (i32 r1))]) C (by decide) rfl rfl dX11_closeFragment_7 rfl ?_
  refine r_aload_n (pc' := 9) C 0 rfl rfl dX11_closeFragment_8 rfl ?_
  refine r_getr (pc' := 12) (k := 0) (r := 5) C fl_X11_19 (by decide) kc_0 (by decide) fr_11_1 RV_0_1 dX11_closeFragment_9 rfl ?_
  refine r_iload_n (pc' := 13) C 2 rfl rfl dX11_closeFragment_12 rfl ?_
  refine r_aload_n (pc' := 14) C 0 rfl rfl dX11_closeFragment_13 rfl ?_
  refine r_aload_n (pc' := 15) C 0 rfl rfl dX11_closeFragment_14 rfl ?_
  refine r_getr (pc' := 18) (k := 0) (r := 14) C fl_X11_37 (by decide) kc_0 (by decide) fr_11_4 RV_0_4 dX11_closeFragment_15 rfl ?_
  refine r_iconst (pc' := 19) C dX11_closeFragment_18 rfl ?_
  refine r_aload_n (pc' := 20) C 0 rfl rfl dX11_closeFragment_19 rfl ?_
  refine r_getr (pc' := 23) (k := 0) (r := 14) C fl_X11_37 (by decide) kc_0 (by decide) fr_11_4 RV_0_4 dX11_closeFragment_20 rfl ?_
  refine c_Vi (pc' := 26) (mt := mX2_count) (as := []) (st := [.int (i32 0), .ref (gl_b Y + 14), .ref (gl_b Y + 0), .int (i32 r1), .ref (gl_b Y + 5)]) (k := 14) C h rfl cl_X2_count ml_X11_78 im_X2_count sl_X2_count (by omega) (Nat.le_refl _) (Nat.le_refl _) rfl (by decide) kc_14 (by decide) rfl rfl rfl (Nat.le_of_ble_eq_true rfl) dX11_closeFragment_23 rfl (fun r5 iv6 av7 f8 h => ?_)
  replace h := h f8
  refine r_iload_n (pc' := 27) C 1 rfl rfl dX11_closeFragment_26 rfl ?_
  refine c_Vi (pc' := 30) (mt := mX11_append) (as := [.ref (gl_b Y + 14), .int (i32 0), .int (i32 r5), .int (i32 x1)]) (st := [.int (i32 r1), .ref (gl_b Y + 5)]) (k := 0) C h rfl cl_X11_append ml_X11_155 im_X11_append sl_X11_append (by omega) (Nat.le_refl _) (Nat.le_refl _) rfl (by decide) kc_0 (by decide) rfl rfl rfl (Nat.le_of_ble_eq_true rfl) dX11_closeFragment_27 rfl (fun r9 iv10 av11 f12 h => ?_)
  replace h := h f12
  refine c_Vv (pc' := 33) (mt := mX5_addFragment) (as := [.int (i32 r1), .int (i32 r9)]) (st := []) (k := 5) C h rfl cl_X5_addFragment ml_X11_169 im_X5_addFragment sl_X5_addFragment (by omega) (Nat.le_refl _) (Nat.le_refl _) rfl (by decide) kc_5 (by decide) rfl rfl rfl (Nat.le_of_ble_eq_true rfl) dX11_closeFragment_30 rfl (fun r13 iv14 av15 h => ?_)
  refine r_aload_n (pc' := 34) C 0 rfl rfl dX11_closeFragment_33 rfl ?_
  refine r_getr (pc' := 37) (k := 0) (r := 14) C fl_X11_37 (by decide) kc_0 (by decide) fr_11_4 RV_0_4 dX11_closeFragment_34 rfl ?_
  refine r_iconst (pc' := 38) C dX11_closeFragment_37 rfl ?_
  refine c_Vv (pc' := 41) (mt := mX2_keep) (as := [.int (i32 0)]) (st := []) (k := 14) C h rfl cl_X2_keep ml_X11_85 im_X2_keep sl_X2_keep (by omega) (Nat.le_refl _) (Nat.le_refl _) rfl (by decide) kc_14 (by decide) rfl rfl rfl (Nat.le_of_ble_eq_true rfl) dX11_closeFragment_38 rfl (fun r17 iv18 av19 h => ?_)
  exact r_vret C ⟨rfl, rfl, h⟩ dX11_closeFragment_41
set_option maxHeartbeats 4000000 in
set_option maxRecDepth 100000 in
theorem o_X11_append {Y : Gl} {e : Nat} {P : PN} {k1 : Nat} {x2 : Int} {x3 : Int} {x4 : Int} {iv av : IVt} (Kk1 : BytesK k1) (hx2 : InR x2) (hx3 : InR x3) (hx4 : InR x4) (h : 
    OkN Y (e + 4) mX2_count [.ref (gl_b Y + 12)] RV iv av 116 (fun r1 iv2 av3 =>
      (InR r1) →
      ((x4 = 0) →
        OkN Y (e + 4) mX2_addAll [.ref (gl_b Y + 12), .ref (gl_b Y + k1), .int (i32 x2), .int (i32 x3)] RV iv2 av3 116 (fun r6 iv7 av8 =>
          (InR (16777216 + x3)) ∧
          P (16777216 + x3) iv7 av8
        )
      ) ∧
      ((¬ x4 = 0) →
        OkN Y (e + 4) mX8_pack [.ref (gl_b Y + 22), .ref (gl_b Y + k1), .int (i32 x2), .int (i32 x3)] RV iv2 av3 116 (fun r11 iv12 av13 =>
          OkN Y (e + 4) mX2_count [.ref (gl_b Y + 12)] RV iv12 av13 116 (fun r15 iv16 av17 =>
            (InR r15) →
            (InR (r15 - r1)) ∧
            ((x3 ≤ (r15 - r1)) →
              OkN Y (e + 4) mX2_keep [.ref (gl_b Y + 12), .int (i32 r1)] RV iv16 av17 116 (fun r21 iv22 av23 =>
                OkN Y (e + 4) mX2_addAll [.ref (gl_b Y + 12), .ref (gl_b Y + k1), .int (i32 x2), .int (i32 x3)] RV iv22 av23 116 (fun r25 iv26 av27 =>
                  (InR (16777216 + x3)) ∧
                  P (16777216 + x3) iv26 av27
                )
              )
            ) ∧
            ((¬ x3 ≤ (r15 - r1)) →
              P (r15 - r1) iv16 av17
            )
          )
        )
      )
    )) : OkN Y (e + 5) mX11_append [.ref (gl_b Y + 0), .ref (gl_b Y + k1), .int (i32 x2), .int (i32 x3), .int (i32 x4)] RV iv av 116 P := by
  obtain ⟨hk1c, hk1a, hk1l, hk1r0⟩ := Kk1
  refine OkW.of rfl (by show _ ≤ 7; exact Nat.le_of_ble_eq_true rfl) fun X C0 hR => ?_
  have C : CX Y X RX11 "append" cX11_append 7 (some .int) (e + 5) 0 0 := C0
  show Wa Y X 7 (g_MQ Y X 1 (g_N RV 116 P) 0 0) 0 0 0 [(0, .ref (gl_b Y + 0)), (1, .ref (gl_b Y + k1)), (2, .int (i32 x2)), (3, .int (i32 x3)), (4, .int (i32 x4))] [] RV iv av 116
  refine r_aload_n (pc' := 1) C 0 rfl rfl dX11_append_0 rfl ?_
  refine r_getr (pc' := 4) (k := 0) (r := 12) C fl_X11_33 (by decide) kc_0 (by decide) fr_11_3 RV_0_3 dX11_append_1 rfl ?_
  refine c_Vi (pc' := 7) (mt := mX2_count) (as := []) (st := []) (k := 12) C h rfl cl_X2_count ml_X11_78 im_X2_count sl_X2_count (by omega) (Nat.le_refl _) (Nat.le_refl _) rfl (by decide) kc_12 (by decide) rfl rfl rfl (Nat.le_of_ble_eq_true rfl) dX11_append_4 rfl (fun r1 iv2 av3 f4 h => ?_)
  replace h := h f4
  refine r_istore (pc' := 9) (ls' := [(0, .ref (gl_b Y + 0)), (1, .ref (gl_b Y + k1)), (2, .int (i32 x2)), (3, .int (i32 x3)), (4, .int (i32 x4)), (5, .int (i32 r1))]) C (by decide) rfl dX11_append_7 rfl ?_
  refine r_iload (pc' := 11) C 4 rfl dX11_append_9 rfl ?_
  refine r_if_eq (pc' := 14) (tgt := 54) C hx4 dX11_append_11 (by decide) rfl (fun c5 => ?_) (fun c5 => ?_)
  · replace h := h.1 c5
    refine r_aload_n (pc' := 55) C 0 rfl rfl dX11_append_54 rfl ?_
    refine r_getr (pc' := 58) (k := 0) (r := 12) C fl_X11_33 (by decide) kc_0 (by decide) fr_11_3 RV_0_3 dX11_append_55 rfl ?_
    refine r_aload_n (pc' := 59) C 1 rfl rfl dX11_append_58 rfl ?_
    refine r_iload_n (pc' := 60) C 2 rfl rfl dX11_append_59 rfl ?_
    refine r_iload_n (pc' := 61) C 3 rfl rfl dX11_append_60 rfl ?_
    refine c_Vv (pc' := 64) (mt := mX2_addAll) (as := [.ref (gl_b Y + k1), .int (i32 x2), .int (i32 x3)]) (st := []) (k := 12) C h rfl cl_X2_addAll ml_X11_165 im_X2_addAll sl_X2_addAll (by omega) (Nat.le_refl _) (Nat.le_refl _) rfl (by decide) kc_12 (by decide) rfl rfl rfl (Nat.le_of_ble_eq_true rfl) dX11_append_61 rfl (fun r6 iv7 av8 h => ?_)
    refine r_ldc (pc' := 66) (x := 16777216) C ct_X11_175 (by decide) dX11_append_64 rfl ?_
    refine r_iload_n (pc' := 67) C 3 rfl rfl dX11_append_66 rfl ?_
    refine r_iadd (pc' := 68) C dX11_append_67 rfl ?_
    have o10 := h.1
    replace h := h.2
    exact r_iret C o10 ⟨rfl, rfl, h⟩ dX11_append_68
  · replace h := h.2 c5
    refine r_aload_n (pc' := 15) C 0 rfl rfl dX11_append_14 rfl ?_
    refine r_getr (pc' := 18) (k := 0) (r := 22) C fl_X11_54 (by decide) kc_0 (by decide) fr_11_8 RV_0_8 dX11_append_15 rfl ?_
    refine r_aload_n (pc' := 19) C 1 rfl rfl dX11_append_18 rfl ?_
    refine r_iload_n (pc' := 20) C 2 rfl rfl dX11_append_19 rfl ?_
    refine r_iload_n (pc' := 21) C 3 rfl rfl dX11_append_20 rfl ?_
    refine c_Vv (pc' := 24) (mt := mX8_pack) (as := [.ref (gl_b Y + k1), .int (i32 x2), .int (i32 x3)]) (st := []) (k := 22) C h rfl cl_X8_pack ml_X11_172 im_X8_pack sl_X8_pack (by omega) (Nat.le_refl _) (Nat.le_refl _) rfl (by decide) kc_22 (by decide) rfl rfl rfl (Nat.le_of_ble_eq_true rfl) dX11_append_21 rfl (fun r11 iv12 av13 h => ?_)
    refine r_aload_n (pc' := 25) C 0 rfl rfl dX11_append_24 rfl ?_
    refine r_getr (pc' := 28) (k := 0) (r := 12) C fl_X11_33 (by decide) kc_0 (by decide) fr_11_3 RV_0_3 dX11_append_25 rfl ?_
    refine c_Vi (pc' := 31) (mt := mX2_count) (as := []) (st := []) (k := 12) C h rfl cl_X2_count ml_X11_78 im_X2_count sl_X2_count (by omega) (Nat.le_refl _) (Nat.le_refl _) rfl (by decide) kc_12 (by decide) rfl rfl rfl (Nat.le_of_ble_eq_true rfl) dX11_append_28 rfl (fun r15 iv16 av17 f18 h => ?_)
    replace h := h f18
    refine r_iload (pc' := 33) C 5 rfl dX11_append_31 rfl ?_
    refine r_isub (pc' := 34) C dX11_append_33 rfl ?_
    refine r_istore (pc' := 36) (ls' := [(0, .ref (gl_b Y + 0)), (1, .ref (gl_b Y + k1)), (2, .int (i32 x2)), (3, .int (i32 x3)), (4, .int (i32 x4)), (5, .int (i32 r1)), (6, .int (i32 (r15 - r1)))]) C (by decide) rfl dX11_append_34 rfl ?_
    refine r_iload (pc' := 38) C 6 rfl dX11_append_36 rfl ?_
    refine r_iload_n (pc' := 39) C 3 rfl rfl dX11_append_38 rfl ?_
    have o19 := h.1
    replace h := h.2
    refine r_icmp_ge (pc' := 42) (tgt := 45) C o19 hx3 dX11_append_39 (by decide) rfl (fun c20 => ?_) (fun c20 => ?_)
    · replace h := h.1 c20
      refine r_aload_n (pc' := 46) C 0 rfl rfl dX11_append_45 rfl ?_
      refine r_getr (pc' := 49) (k := 0) (r := 12) C fl_X11_33 (by decide) kc_0 (by decide) fr_11_3 RV_0_3 dX11_append_46 rfl ?_
      refine r_iload (pc' := 51) C 5 rfl dX11_append_49 rfl ?_
      refine c_Vv (pc' := 54) (mt := mX2_keep) (as := [.int (i32 r1)]) (st := []) (k := 12) C h rfl cl_X2_keep ml_X11_85 im_X2_keep sl_X2_keep (by omega) (Nat.le_refl _) (Nat.le_refl _) rfl (by decide) kc_12 (by decide) rfl rfl rfl (Nat.le_of_ble_eq_true rfl) dX11_append_51 rfl (fun r21 iv22 av23 h => ?_)
      refine r_aload_n (pc' := 55) C 0 rfl rfl dX11_append_54 rfl ?_
      refine r_getr (pc' := 58) (k := 0) (r := 12) C fl_X11_33 (by decide) kc_0 (by decide) fr_11_3 RV_0_3 dX11_append_55 rfl ?_
      refine r_aload_n (pc' := 59) C 1 rfl rfl dX11_append_58 rfl ?_
      refine r_iload_n (pc' := 60) C 2 rfl rfl dX11_append_59 rfl ?_
      refine r_iload_n (pc' := 61) C 3 rfl rfl dX11_append_60 rfl ?_
      refine c_Vv (pc' := 64) (mt := mX2_addAll) (as := [.ref (gl_b Y + k1), .int (i32 x2), .int (i32 x3)]) (st := []) (k := 12) C h rfl cl_X2_addAll ml_X11_165 im_X2_addAll sl_X2_addAll (by omega) (Nat.le_refl _) (Nat.le_refl _) rfl (by decide) kc_12 (by decide) rfl rfl rfl (Nat.le_of_ble_eq_true rfl) dX11_append_61 rfl (fun r25 iv26 av27 h => ?_)
      refine r_ldc (pc' := 66) (x := 16777216) C ct_X11_175 (by decide) dX11_append_64 rfl ?_
      refine r_iload_n (pc' := 67) C 3 rfl rfl dX11_append_66 rfl ?_
      refine r_iadd (pc' := 68) C dX11_append_67 rfl ?_
      have o29 := h.1
      replace h := h.2
      exact r_iret C o29 ⟨rfl, rfl, h⟩ dX11_append_68
    · replace h := h.2 c20
      refine r_iload (pc' := 44) C 6 rfl dX11_append_42 rfl ?_
      exact r_iret C o19 ⟨rfl, rfl, h⟩ dX11_append_44
set_option maxHeartbeats 4000000 in
set_option maxRecDepth 100000 in
theorem o_X11_about {Y : Gl} {e : Nat} {P : PN} {x1 : Int} {x2 : Int} {iv av : IVt} (hx1 : InR x1) (hx2 : InR x2) (h : 
    OkN Y (e + 1) mX11_isFile [.int (i32 x1)] RV iv av 116 (fun r1 iv2 av3 =>
      (InR r1) →
      ((r1 = 0) →
        P (-1) iv2 av3
      ) ∧
      ((¬ r1 = 0) →
        ((x2 < 0) →
          P (-1) iv2 av3
        ) ∧
        ((¬ x2 < 0) →
          ((x2 ≤ 6) →
            ((¬ x2 = 0) →
              OkN Y (e + 1) mX5_fact [.ref (gl_b Y + 5), .int (i32 x1), .int (i32 x2)] RV iv2 av3 116 (fun r9 iv10 av11 =>
                (InR r9) →
                P r9 iv10 av11
              )
            ) ∧
            ((x2 = 0) →
              OkN Y (e + 1) mX4_count [.ref (gl_b Y + 1), .int (i32 x1)] RV iv2 av3 116 (fun r13 iv14 av15 =>
                (InR r13) →
                P r13 iv14 av15
              )
            )
          ) ∧
          ((¬ x2 ≤ 6) →
            P (-1) iv2 av3
          )
        )
      )
    )) : OkN Y (e + 2) mX11_about [.ref (gl_b Y + 0), .int (i32 x1), .int (i32 x2)] RV iv av 116 P := by
  refine OkW.of rfl (by show _ ≤ 3; exact Nat.le_of_ble_eq_true rfl) fun X C0 hR => ?_
  have C : CX Y X RX11 "about" cX11_about 3 (some .int) (e + 2) 0 0 := C0
  show Wa Y X 3 (g_MQ Y X 1 (g_N RV 116 P) 0 0) 0 0 0 [(0, .ref (gl_b Y + 0)), (1, .int (i32 x1)), (2, .int (i32 x2))] [] RV iv av 116
  refine r_iload_n (pc' := 1) C 1 rfl rfl dX11_about_0 rfl ?_
  refine c_Si (pc' := 4) (mt := mX11_isFile) (as := [.int (i32 x1)]) (st := []) C h rfl cl_X11_isFile ml_X11_88 sm_X11_isFile (by omega) (Nat.le_refl _) (Nat.le_refl _) rfl rfl (Nat.le_of_ble_eq_true rfl) dX11_about_1 rfl (fun r1 iv2 av3 f4 h => ?_)
  replace h := h f4
  refine r_if_eq (pc' := 7) (tgt := 17) C f4 dX11_about_4 (by decide) rfl (fun c5 => ?_) (fun c5 => ?_)
  · replace h := h.1 c5
    refine r_iconst (pc' := 18) C dX11_about_17 rfl ?_
    exact r_iret C (by decide) ⟨rfl, rfl, h⟩ dX11_about_18
  · replace h := h.2 c5
    refine r_iload_n (pc' := 8) C 2 rfl rfl dX11_about_7 rfl ?_
    refine r_if_lt (pc' := 11) (tgt := 17) C hx2 dX11_about_8 (by decide) rfl (fun c6 => ?_) (fun c6 => ?_)
    · replace h := h.1 c6
      refine r_iconst (pc' := 18) C dX11_about_17 rfl ?_
      exact r_iret C (by decide) ⟨rfl, rfl, h⟩ dX11_about_18
    · replace h := h.2 c6
      refine r_iload_n (pc' := 12) C 2 rfl rfl dX11_about_11 rfl ?_
      refine r_bipush (pc' := 14) C dX11_about_12 (by decide) rfl ?_
      refine r_icmp_le (pc' := 17) (tgt := 19) C hx2 (by decide) dX11_about_14 (by decide) rfl (fun c7 => ?_) (fun c7 => ?_)
      · replace h := h.1 c7
        refine r_iload_n (pc' := 20) C 2 rfl rfl dX11_about_19 rfl ?_
        refine r_if_ne (pc' := 23) (tgt := 34) C hx2 dX11_about_20 (by decide) rfl (fun c8 => ?_) (fun c8 => ?_)
        · replace h := h.1 c8
          refine r_aload_n (pc' := 35) C 0 rfl rfl dX11_about_34 rfl ?_
          refine r_getr (pc' := 38) (k := 0) (r := 5) C fl_X11_19 (by decide) kc_0 (by decide) fr_11_1 RV_0_1 dX11_about_35 rfl ?_
          refine r_iload_n (pc' := 39) C 1 rfl rfl dX11_about_38 rfl ?_
          refine r_iload_n (pc' := 40) C 2 rfl rfl dX11_about_39 rfl ?_
          refine c_Vi (pc' := 43) (mt := mX5_fact) (as := [.int (i32 x1), .int (i32 x2)]) (st := []) (k := 5) C h rfl cl_X5_fact ml_X11_176 im_X5_fact sl_X5_fact (by omega) (Nat.le_refl _) (Nat.le_refl _) rfl (by decide) kc_5 (by decide) rfl rfl rfl (Nat.le_of_ble_eq_true rfl) dX11_about_40 rfl (fun r9 iv10 av11 f12 h => ?_)
          replace h := h f12
          exact r_iret C f12 ⟨rfl, rfl, h⟩ dX11_about_43
        · replace h := h.2 c8
          refine r_aload_n (pc' := 24) C 0 rfl rfl dX11_about_23 rfl ?_
          refine r_getr (pc' := 27) (k := 0) (r := 1) C fl_X11_10 (by decide) kc_0 (by decide) fr_11_0 RV_0_0 dX11_about_24 rfl ?_
          refine r_iload_n (pc' := 28) C 1 rfl rfl dX11_about_27 rfl ?_
          refine c_Vi (pc' := 31) (mt := mX4_count) (as := [.int (i32 x1)]) (st := []) (k := 1) C h rfl cl_X4_count ml_X11_104 im_X4_count sl_X4_count (by omega) (Nat.le_refl _) (Nat.le_refl _) rfl (by decide) kc_1 (by decide) rfl rfl rfl (Nat.le_of_ble_eq_true rfl) dX11_about_28 rfl (fun r13 iv14 av15 f16 h => ?_)
          replace h := h f16
          refine r_goto (tgt := 43) C dX11_about_31 (by decide) ?_
          exact r_iret C f16 ⟨rfl, rfl, h⟩ dX11_about_43
      · replace h := h.2 c7
        refine r_iconst (pc' := 18) C dX11_about_17 rfl ?_
        exact r_iret C (by decide) ⟨rfl, rfl, h⟩ dX11_about_18
set_option maxHeartbeats 4000000 in
set_option maxRecDepth 100000 in
theorem o_X11_number {Y : Gl} {e : Nat} {P : PN} {x1 : Int} {x2 : Int} {iv av : IVt} (hx1 : InR x1) (hx2 : InR x2) (h : 
    OkN Y (e + 1) mX11_isFile [.int (i32 x1)] RV iv av 116 (fun r1 iv2 av3 =>
      (InR r1) →
      ((¬ r1 = 0) →
        ((x2 < 0) →
          P (-2) iv2 av3
        ) ∧
        ((¬ x2 < 0) →
          OkN Y (e + 1) mX5_fact [.ref (gl_b Y + 5), .int (i32 x1), .int (i32 3)] RV iv2 av3 116 (fun r7 iv8 av9 =>
            (InR r7) →
            ((x2 < r7) →
              OkN Y (e + 1) mX5_blockNumber [.ref (gl_b Y + 5), .int (i32 x1), .int (i32 x2)] RV iv8 av9 116 (fun r12 iv13 av14 =>
                (InR r12) →
                P r12 iv13 av14
              )
            ) ∧
            ((¬ x2 < r7) →
              P (-2) iv8 av9
            )
          )
        )
      ) ∧
      ((r1 = 0) →
        P (-1) iv2 av3
      )
    )) : OkN Y (e + 2) mX11_number [.ref (gl_b Y + 0), .int (i32 x1), .int (i32 x2)] RV iv av 116 P := by
  refine OkW.of rfl (by show _ ≤ 3; exact Nat.le_of_ble_eq_true rfl) fun X C0 hR => ?_
  have C : CX Y X RX11 "number" cX11_number 3 (some .int) (e + 2) 0 0 := C0
  show Wa Y X 3 (g_MQ Y X 1 (g_N RV 116 P) 0 0) 0 0 0 [(0, .ref (gl_b Y + 0)), (1, .int (i32 x1)), (2, .int (i32 x2))] [] RV iv av 116
  refine r_iload_n (pc' := 1) C 1 rfl rfl dX11_number_0 rfl ?_
  refine c_Si (pc' := 4) (mt := mX11_isFile) (as := [.int (i32 x1)]) (st := []) C h rfl cl_X11_isFile ml_X11_88 sm_X11_isFile (by omega) (Nat.le_refl _) (Nat.le_refl _) rfl rfl (Nat.le_of_ble_eq_true rfl) dX11_number_1 rfl (fun r1 iv2 av3 f4 h => ?_)
  replace h := h f4
  refine r_if_ne (pc' := 7) (tgt := 9) C f4 dX11_number_4 (by decide) rfl (fun c5 => ?_) (fun c5 => ?_)
  · replace h := h.1 c5
    refine r_iload_n (pc' := 10) C 2 rfl rfl dX11_number_9 rfl ?_
    refine r_if_lt (pc' := 13) (tgt := 26) C hx2 dX11_number_10 (by decide) rfl (fun c6 => ?_) (fun c6 => ?_)
    · replace h := h.1 c6
      refine r_bipush (pc' := 28) C dX11_number_26 (by decide) rfl ?_
      exact r_iret C (by decide) ⟨rfl, rfl, h⟩ dX11_number_28
    · replace h := h.2 c6
      refine r_iload_n (pc' := 14) C 2 rfl rfl dX11_number_13 rfl ?_
      refine r_aload_n (pc' := 15) C 0 rfl rfl dX11_number_14 rfl ?_
      refine r_getr (pc' := 18) (k := 0) (r := 5) C fl_X11_19 (by decide) kc_0 (by decide) fr_11_1 RV_0_1 dX11_number_15 rfl ?_
      refine r_iload_n (pc' := 19) C 1 rfl rfl dX11_number_18 rfl ?_
      refine r_iconst (pc' := 20) C dX11_number_19 rfl ?_
      refine c_Vi (pc' := 23) (mt := mX5_fact) (as := [.int (i32 x1), .int (i32 3)]) (st := [.int (i32 x2)]) (k := 5) C h rfl cl_X5_fact ml_X11_176 im_X5_fact sl_X5_fact (by omega) (Nat.le_refl _) (Nat.le_refl _) rfl (by decide) kc_5 (by decide) rfl rfl rfl (Nat.le_of_ble_eq_true rfl) dX11_number_20 rfl (fun r7 iv8 av9 f10 h => ?_)
      replace h := h f10
      refine r_icmp_lt (pc' := 26) (tgt := 29) C hx2 f10 dX11_number_23 (by decide) rfl (fun c11 => ?_) (fun c11 => ?_)
      · replace h := h.1 c11
        refine r_aload_n (pc' := 30) C 0 rfl rfl dX11_number_29 rfl ?_
        refine r_getr (pc' := 33) (k := 0) (r := 5) C fl_X11_19 (by decide) kc_0 (by decide) fr_11_1 RV_0_1 dX11_number_30 rfl ?_
        refine r_iload_n (pc' := 34) C 1 rfl rfl dX11_number_33 rfl ?_
        refine r_iload_n (pc' := 35) C 2 rfl rfl dX11_number_34 rfl ?_
        refine c_Vi (pc' := 38) (mt := mX5_blockNumber) (as := [.int (i32 x1), .int (i32 x2)]) (st := []) (k := 5) C h rfl cl_X5_blockNumber ml_X11_179 im_X5_blockNumber sl_X5_blockNumber (by omega) (Nat.le_refl _) (Nat.le_refl _) rfl (by decide) kc_5 (by decide) rfl rfl rfl (Nat.le_of_ble_eq_true rfl) dX11_number_35 rfl (fun r12 iv13 av14 f15 h => ?_)
        replace h := h f15
        exact r_iret C f15 ⟨rfl, rfl, h⟩ dX11_number_38
      · replace h := h.2 c11
        refine r_bipush (pc' := 28) C dX11_number_26 (by decide) rfl ?_
        exact r_iret C (by decide) ⟨rfl, rfl, h⟩ dX11_number_28
  · replace h := h.2 c5
    refine r_iconst (pc' := 8) C dX11_number_7 rfl ?_
    exact r_iret C (by decide) ⟨rfl, rfl, h⟩ dX11_number_8
set_option maxHeartbeats 4000000 in
set_option maxRecDepth 100000 in
theorem o_X11_fragments {Y : Gl} {e : Nat} {P : PN} {iv av : IVt} (h : 
    OkN Y e mX5_fragmentCount [.ref (gl_b Y + 5)] RV iv av 116 (fun r1 iv2 av3 =>
      (InR r1) →
      P r1 iv2 av3
    )) : OkN Y (e + 1) mX11_fragments [.ref (gl_b Y + 0)] RV iv av 116 P := by
  refine OkW.of rfl (by show _ ≤ 1; exact Nat.le_of_ble_eq_true rfl) fun X C0 hR => ?_
  have C : CX Y X RX11 "fragments" cX11_fragments 1 (some .int) (e + 1) 0 0 := C0
  show Wa Y X 1 (g_MQ Y X 1 (g_N RV 116 P) 0 0) 0 0 0 [(0, .ref (gl_b Y + 0))] [] RV iv av 116
  refine r_aload_n (pc' := 1) C 0 rfl rfl dX11_fragments_0 rfl ?_
  refine r_getr (pc' := 4) (k := 0) (r := 5) C fl_X11_19 (by decide) kc_0 (by decide) fr_11_1 RV_0_1 dX11_fragments_1 rfl ?_
  refine c_Vi (pc' := 7) (mt := mX5_fragmentCount) (as := []) (st := []) (k := 5) C h rfl cl_X5_fragmentCount ml_X11_182 im_X5_fragmentCount sl_X5_fragmentCount (by omega) (Nat.le_refl _) (Nat.le_refl _) rfl (by decide) kc_5 (by decide) rfl rfl rfl (Nat.le_of_ble_eq_true rfl) dX11_fragments_4 rfl (fun r1 iv2 av3 f4 h => ?_)
  replace h := h f4
  exact r_iret C f4 ⟨rfl, rfl, h⟩ dX11_fragments_7
set_option maxHeartbeats 4000000 in
set_option maxRecDepth 100000 in
theorem o_X11_fragment {Y : Gl} {e : Nat} {P : PN} {x1 : Int} {x2 : Int} {iv av : IVt} (hx1 : InR x1) (hx2 : InR x2) (h : 
    ((x2 < 0) →
      P (-1) iv av
    ) ∧
    ((¬ x2 < 0) →
      ((x2 ≤ 1) →
        ((x1 < 0) →
          P (-2) iv av
        ) ∧
        ((¬ x1 < 0) →
          OkN Y e mX5_fragmentCount [.ref (gl_b Y + 5)] RV iv av 116 (fun r4 iv5 av6 =>
            (InR r4) →
            ((x1 < r4) →
              ((¬ x2 = 0) →
                OkN Y e mX5_fragmentNumber [.ref (gl_b Y + 5), .int (i32 x1)] RV iv5 av6 116 (fun r10 iv11 av12 =>
                  (InR r10) →
                  P r10 iv11 av12
                )
              ) ∧
              ((x2 = 0) →
                OkN Y e mX5_fragmentBegin [.ref (gl_b Y + 5), .int (i32 x1)] RV iv5 av6 116 (fun r14 iv15 av16 =>
                  (InR r14) →
                  P r14 iv15 av16
                )
              )
            ) ∧
            ((¬ x1 < r4) →
              P (-2) iv5 av6
            )
          )
        )
      ) ∧
      ((¬ x2 ≤ 1) →
        P (-1) iv av
      )
    )) : OkN Y (e + 1) mX11_fragment [.ref (gl_b Y + 0), .int (i32 x1), .int (i32 x2)] RV iv av 116 P := by
  refine OkW.of rfl (by show _ ≤ 3; exact Nat.le_of_ble_eq_true rfl) fun X C0 hR => ?_
  have C : CX Y X RX11 "fragment" cX11_fragment 3 (some .int) (e + 1) 0 0 := C0
  show Wa Y X 3 (g_MQ Y X 1 (g_N RV 116 P) 0 0) 0 0 0 [(0, .ref (gl_b Y + 0)), (1, .int (i32 x1)), (2, .int (i32 x2))] [] RV iv av 116
  refine r_iload_n (pc' := 1) C 2 rfl rfl dX11_fragment_0 rfl ?_
  refine r_if_lt (pc' := 4) (tgt := 9) C hx2 dX11_fragment_1 (by decide) rfl (fun c1 => ?_) (fun c1 => ?_)
  · replace h := h.1 c1
    refine r_iconst (pc' := 10) C dX11_fragment_9 rfl ?_
    exact r_iret C (by decide) ⟨rfl, rfl, h⟩ dX11_fragment_10
  · replace h := h.2 c1
    refine r_iload_n (pc' := 5) C 2 rfl rfl dX11_fragment_4 rfl ?_
    refine r_iconst (pc' := 6) C dX11_fragment_5 rfl ?_
    refine r_icmp_le (pc' := 9) (tgt := 11) C hx2 (by decide) dX11_fragment_6 (by decide) rfl (fun c2 => ?_) (fun c2 => ?_)
    · replace h := h.1 c2
      refine r_iload_n (pc' := 12) C 1 rfl rfl dX11_fragment_11 rfl ?_
      refine r_if_lt (pc' := 15) (tgt := 26) C hx1 dX11_fragment_12 (by decide) rfl (fun c3 => ?_) (fun c3 => ?_)
      · replace h := h.1 c3
        refine r_bipush (pc' := 28) C dX11_fragment_26 (by decide) rfl ?_
        exact r_iret C (by decide) ⟨rfl, rfl, h⟩ dX11_fragment_28
      · replace h := h.2 c3
        refine r_iload_n (pc' := 16) C 1 rfl rfl dX11_fragment_15 rfl ?_
        refine r_aload_n (pc' := 17) C 0 rfl rfl dX11_fragment_16 rfl ?_
        refine r_getr (pc' := 20) (k := 0) (r := 5) C fl_X11_19 (by decide) kc_0 (by decide) fr_11_1 RV_0_1 dX11_fragment_17 rfl ?_
        refine c_Vi (pc' := 23) (mt := mX5_fragmentCount) (as := []) (st := [.int (i32 x1)]) (k := 5) C h rfl cl_X5_fragmentCount ml_X11_182 im_X5_fragmentCount sl_X5_fragmentCount (by omega) (Nat.le_refl _) (Nat.le_refl _) rfl (by decide) kc_5 (by decide) rfl rfl rfl (Nat.le_of_ble_eq_true rfl) dX11_fragment_20 rfl (fun r4 iv5 av6 f7 h => ?_)
        replace h := h f7
        refine r_icmp_lt (pc' := 26) (tgt := 29) C hx1 f7 dX11_fragment_23 (by decide) rfl (fun c8 => ?_) (fun c8 => ?_)
        · replace h := h.1 c8
          refine r_iload_n (pc' := 30) C 2 rfl rfl dX11_fragment_29 rfl ?_
          refine r_if_ne (pc' := 33) (tgt := 44) C hx2 dX11_fragment_30 (by decide) rfl (fun c9 => ?_) (fun c9 => ?_)
          · replace h := h.1 c9
            refine r_aload_n (pc' := 45) C 0 rfl rfl dX11_fragment_44 rfl ?_
            refine r_getr (pc' := 48) (k := 0) (r := 5) C fl_X11_19 (by decide) kc_0 (by decide) fr_11_1 RV_0_1 dX11_fragment_45 rfl ?_
            refine r_iload_n (pc' := 49) C 1 rfl rfl dX11_fragment_48 rfl ?_
            refine c_Vi (pc' := 52) (mt := mX5_fragmentNumber) (as := [.int (i32 x1)]) (st := []) (k := 5) C h rfl cl_X5_fragmentNumber ml_X11_188 im_X5_fragmentNumber sl_X5_fragmentNumber (by omega) (Nat.le_refl _) (Nat.le_refl _) rfl (by decide) kc_5 (by decide) rfl rfl rfl (Nat.le_of_ble_eq_true rfl) dX11_fragment_49 rfl (fun r10 iv11 av12 f13 h => ?_)
            replace h := h f13
            exact r_iret C f13 ⟨rfl, rfl, h⟩ dX11_fragment_52
          · replace h := h.2 c9
            refine r_aload_n (pc' := 34) C 0 rfl rfl dX11_fragment_33 rfl ?_
            refine r_getr (pc' := 37) (k := 0) (r := 5) C fl_X11_19 (by decide) kc_0 (by decide) fr_11_1 RV_0_1 dX11_fragment_34 rfl ?_
            refine r_iload_n (pc' := 38) C 1 rfl rfl dX11_fragment_37 rfl ?_
            refine c_Vi (pc' := 41) (mt := mX5_fragmentBegin) (as := [.int (i32 x1)]) (st := []) (k := 5) C h rfl cl_X5_fragmentBegin ml_X11_185 im_X5_fragmentBegin sl_X5_fragmentBegin (by omega) (Nat.le_refl _) (Nat.le_refl _) rfl (by decide) kc_5 (by decide) rfl rfl rfl (Nat.le_of_ble_eq_true rfl) dX11_fragment_38 rfl (fun r14 iv15 av16 f17 h => ?_)
            replace h := h f17
            refine r_goto (tgt := 52) C dX11_fragment_41 (by decide) ?_
            exact r_iret C f17 ⟨rfl, rfl, h⟩ dX11_fragment_52
        · replace h := h.2 c8
          refine r_bipush (pc' := 28) C dX11_fragment_26 (by decide) rfl ?_
          exact r_iret C (by decide) ⟨rfl, rfl, h⟩ dX11_fragment_28
    · replace h := h.2 c2
      refine r_iconst (pc' := 10) C dX11_fragment_9 rfl ?_
      exact r_iret C (by decide) ⟨rfl, rfl, h⟩ dX11_fragment_10
set_option maxHeartbeats 4000000 in
set_option maxRecDepth 100000 in
theorem o_X11_size {Y : Gl} {e : Nat} {P : PN} {iv av : IVt} (h : 
    OkN Y e mX2_count [.ref (gl_b Y + 12)] RV iv av 116 (fun r1 iv2 av3 =>
      (InR r1) →
      P r1 iv2 av3
    )) : OkN Y (e + 1) mX11_size [.ref (gl_b Y + 0)] RV iv av 116 P := by
  refine OkW.of rfl (by show _ ≤ 1; exact Nat.le_of_ble_eq_true rfl) fun X C0 hR => ?_
  have C : CX Y X RX11 "size" cX11_size 1 (some .int) (e + 1) 0 0 := C0
  show Wa Y X 1 (g_MQ Y X 1 (g_N RV 116 P) 0 0) 0 0 0 [(0, .ref (gl_b Y + 0))] [] RV iv av 116
  refine r_aload_n (pc' := 1) C 0 rfl rfl dX11_size_0 rfl ?_
  refine r_getr (pc' := 4) (k := 0) (r := 12) C fl_X11_33 (by decide) kc_0 (by decide) fr_11_3 RV_0_3 dX11_size_1 rfl ?_
  refine c_Vi (pc' := 7) (mt := mX2_count) (as := []) (st := []) (k := 12) C h rfl cl_X2_count ml_X11_78 im_X2_count sl_X2_count (by omega) (Nat.le_refl _) (Nat.le_refl _) rfl (by decide) kc_12 (by decide) rfl rfl rfl (Nat.le_of_ble_eq_true rfl) dX11_size_4 rfl (fun r1 iv2 av3 f4 h => ?_)
  replace h := h f4
  exact r_iret C f4 ⟨rfl, rfl, h⟩ dX11_size_7
set_option maxHeartbeats 4000000 in
set_option maxRecDepth 100000 in
theorem o_X11_word {Y : Gl} {e : Nat} {P : PN} {x1 : Int} {iv av : IVt} (hx1 : InR x1) (h : 
    OkN Y (e + 1) mX2_eightFrom [.ref (gl_b Y + 12), .int (i32 x1)] RV iv av 116 (fun r1 iv2 av3 =>
      (InL r1) →
      P r1 iv2 av3
    )) : OkN Y (e + 2) mX11_word [.ref (gl_b Y + 0), .int (i32 x1)] RV iv av 116 P := by
  refine OkW.of rfl (by show _ ≤ 2; exact Nat.le_of_ble_eq_true rfl) fun X C0 hR => ?_
  have C : CX Y X RX11 "word" cX11_word 2 (some .long) (e + 2) 0 0 := C0
  show Wa Y X 2 (g_MQ Y X 2 (g_N RV 116 P) 0 0) 0 0 0 [(0, .ref (gl_b Y + 0)), (1, .int (i32 x1))] [] RV iv av 116
  refine r_aload_n (pc' := 1) C 0 rfl rfl dX11_word_0 rfl ?_
  refine r_getr (pc' := 4) (k := 0) (r := 12) C fl_X11_33 (by decide) kc_0 (by decide) fr_11_3 RV_0_3 dX11_word_1 rfl ?_
  refine r_iload_n (pc' := 5) C 1 rfl rfl dX11_word_4 rfl ?_
  refine c_Vl (pc' := 8) (mt := mX2_eightFrom) (as := [.int (i32 x1)]) (st := []) (k := 12) C h rfl cl_X2_eightFrom ml_X11_191 im_X2_eightFrom sl_X2_eightFrom (by omega) (Nat.le_refl _) (Nat.le_refl _) rfl (by decide) kc_12 (by decide) rfl rfl rfl (Nat.le_of_ble_eq_true rfl) dX11_word_5 rfl (fun r1 iv2 av3 f4 h => ?_)
  replace h := h f4
  exact r_lret C f4 ⟨rfl, rfl, h⟩ dX11_word_8
set_option maxHeartbeats 4000000 in
set_option maxRecDepth 100000 in
theorem o_X11_patch {Y : Gl} {e : Nat} {P : PN} {x1 : Int} {x2 : Int} {iv av : IVt} (hx1 : InR x1) (hx2 : InR x2) (h : 
    ((x1 < 0) →
      P (-2) iv av
    ) ∧
    ((¬ x1 < 0) →
      OkN Y e mX2_count [.ref (gl_b Y + 12)] RV iv av 116 (fun r2 iv3 av4 =>
        (InR r2) →
        ((x1 < r2) →
          OkN Y e mX2_at [.ref (gl_b Y + 12), .int (i32 x1)] RV iv3 av4 116 (fun r7 iv8 av9 =>
            (InR r7) →
            OkN Y e mX2_set [.ref (gl_b Y + 12), .int (i32 x1), .int (i32 x2)] RV iv8 av9 116 (fun r11 iv12 av13 =>
              P r7 iv12 av13
            )
          )
        ) ∧
        ((¬ x1 < r2) →
          P (-2) iv3 av4
        )
      )
    )) : OkN Y (e + 1) mX11_patch [.ref (gl_b Y + 0), .int (i32 x1), .int (i32 x2)] RV iv av 116 P := by
  refine OkW.of rfl (by show _ ≤ 4; exact Nat.le_of_ble_eq_true rfl) fun X C0 hR => ?_
  have C : CX Y X RX11 "patch" cX11_patch 4 (some .int) (e + 1) 0 0 := C0
  show Wa Y X 4 (g_MQ Y X 1 (g_N RV 116 P) 0 0) 0 0 0 [(0, .ref (gl_b Y + 0)), (1, .int (i32 x1)), (2, .int (i32 x2))] [] RV iv av 116
  refine r_iload_n (pc' := 1) C 1 rfl rfl dX11_patch_0 rfl ?_
  refine r_if_lt (pc' := 4) (tgt := 15) C hx1 dX11_patch_1 (by decide) rfl (fun c1 => ?_) (fun c1 => ?_)
  · replace h := h.1 c1
    refine r_bipush (pc' := 17) C dX11_patch_15 (by decide) rfl ?_
    exact r_iret C (by decide) ⟨rfl, rfl, h⟩ dX11_patch_17
  · replace h := h.2 c1
    refine r_iload_n (pc' := 5) C 1 rfl rfl dX11_patch_4 rfl ?_
    refine r_aload_n (pc' := 6) C 0 rfl rfl dX11_patch_5 rfl ?_
    refine r_getr (pc' := 9) (k := 0) (r := 12) C fl_X11_33 (by decide) kc_0 (by decide) fr_11_3 RV_0_3 dX11_patch_6 rfl ?_
    refine c_Vi (pc' := 12) (mt := mX2_count) (as := []) (st := [.int (i32 x1)]) (k := 12) C h rfl cl_X2_count ml_X11_78 im_X2_count sl_X2_count (by omega) (Nat.le_refl _) (Nat.le_refl _) rfl (by decide) kc_12 (by decide) rfl rfl rfl (Nat.le_of_ble_eq_true rfl) dX11_patch_9 rfl (fun r2 iv3 av4 f5 h => ?_)
    replace h := h f5
    refine r_icmp_lt (pc' := 15) (tgt := 18) C hx1 f5 dX11_patch_12 (by decide) rfl (fun c6 => ?_) (fun c6 => ?_)
    · replace h := h.1 c6
      refine r_aload_n (pc' := 19) C 0 rfl rfl dX11_patch_18 rfl ?_
      refine r_getr (pc' := 22) (k := 0) (r := 12) C fl_X11_33 (by decide) kc_0 (by decide) fr_11_3 RV_0_3 dX11_patch_19 rfl ?_
      refine r_iload_n (pc' := 23) C 1 rfl rfl dX11_patch_22 rfl ?_
      refine c_Vi (pc' := 26) (mt := mX2_at) (as := [.int (i32 x1)]) (st := []) (k := 12) C h rfl cl_X2_at ml_X11_96 im_X2_at sl_X2_at (by omega) (Nat.le_refl _) (Nat.le_refl _) rfl (by decide) kc_12 (by decide) rfl rfl rfl (Nat.le_of_ble_eq_true rfl) dX11_patch_23 rfl (fun r7 iv8 av9 f10 h => ?_)
      replace h := h f10
      refine r_istore_n (pc' := 27) (ls' := [(0, .ref (gl_b Y + 0)), (1, .int (i32 x1)), (2, .int (i32 x2)), (3, .int (i32 r7))]) C (by decide) rfl rfl dX11_patch_26 rfl ?_
      refine r_aload_n (pc' := 28) C 0 rfl rfl dX11_patch_27 rfl ?_
      refine r_getr (pc' := 31) (k := 0) (r := 12) C fl_X11_33 (by decide) kc_0 (by decide) fr_11_3 RV_0_3 dX11_patch_28 rfl ?_
      refine r_iload_n (pc' := 32) C 1 rfl rfl dX11_patch_31 rfl ?_
      refine r_iload_n (pc' := 33) C 2 rfl rfl dX11_patch_32 rfl ?_
      refine c_Vv (pc' := 36) (mt := mX2_set) (as := [.int (i32 x1), .int (i32 x2)]) (st := []) (k := 12) C h rfl cl_X2_set ml_X11_195 im_X2_set sl_X2_set (by omega) (Nat.le_refl _) (Nat.le_refl _) rfl (by decide) kc_12 (by decide) rfl rfl rfl (Nat.le_of_ble_eq_true rfl) dX11_patch_33 rfl (fun r11 iv12 av13 h => ?_)
      refine r_iload_n (pc' := 37) C 3 rfl rfl dX11_patch_36 rfl ?_
      exact r_iret C f10 ⟨rfl, rfl, h⟩ dX11_patch_37
    · replace h := h.2 c6
      refine r_bipush (pc' := 17) C dX11_patch_15 (by decide) rfl ?_
      exact r_iret C (by decide) ⟨rfl, rfl, h⟩ dX11_patch_17
set_option maxHeartbeats 4000000 in
set_option maxRecDepth 100000 in
theorem o_X11_cut {Y : Gl} {e : Nat} {P : PN} {x1 : Int} {iv av : IVt} (hx1 : InR x1) (h : 
    ((x1 < 0) →
      P (-1) iv av
    ) ∧
    ((¬ x1 < 0) →
      OkN Y e mX2_count [.ref (gl_b Y + 12)] RV iv av 116 (fun r2 iv3 av4 =>
        (InR r2) →
        ((x1 ≤ r2) →
          OkN Y e mX2_count [.ref (gl_b Y + 12)] RV iv3 av4 116 (fun r7 iv8 av9 =>
            (InR r7) →
            OkN Y e mX2_keep [.ref (gl_b Y + 12), .int (i32 x1)] RV iv8 av9 116 (fun r11 iv12 av13 =>
              (InR (r7 - x1)) ∧
              P (r7 - x1) iv12 av13
            )
          )
        ) ∧
        ((¬ x1 ≤ r2) →
          P (-1) iv3 av4
        )
      )
    )) : OkN Y (e + 1) mX11_cut [.ref (gl_b Y + 0), .int (i32 x1)] RV iv av 116 P := by
  refine OkW.of rfl (by show _ ≤ 3; exact Nat.le_of_ble_eq_true rfl) fun X C0 hR => ?_
  have C : CX Y X RX11 "cut" cX11_cut 3 (some .int) (e + 1) 0 0 := C0
  show Wa Y X 3 (g_MQ Y X 1 (g_N RV 116 P) 0 0) 0 0 0 [(0, .ref (gl_b Y + 0)), (1, .int (i32 x1))] [] RV iv av 116
  refine r_iload_n (pc' := 1) C 1 rfl rfl dX11_cut_0 rfl ?_
  refine r_if_lt (pc' := 4) (tgt := 15) C hx1 dX11_cut_1 (by decide) rfl (fun c1 => ?_) (fun c1 => ?_)
  · replace h := h.1 c1
    refine r_iconst (pc' := 16) C dX11_cut_15 rfl ?_
    exact r_iret C (by decide) ⟨rfl, rfl, h⟩ dX11_cut_16
  · replace h := h.2 c1
    refine r_iload_n (pc' := 5) C 1 rfl rfl dX11_cut_4 rfl ?_
    refine r_aload_n (pc' := 6) C 0 rfl rfl dX11_cut_5 rfl ?_
    refine r_getr (pc' := 9) (k := 0) (r := 12) C fl_X11_33 (by decide) kc_0 (by decide) fr_11_3 RV_0_3 dX11_cut_6 rfl ?_
    refine c_Vi (pc' := 12) (mt := mX2_count) (as := []) (st := [.int (i32 x1)]) (k := 12) C h rfl cl_X2_count ml_X11_78 im_X2_count sl_X2_count (by omega) (Nat.le_refl _) (Nat.le_refl _) rfl (by decide) kc_12 (by decide) rfl rfl rfl (Nat.le_of_ble_eq_true rfl) dX11_cut_9 rfl (fun r2 iv3 av4 f5 h => ?_)
    replace h := h f5
    refine r_icmp_le (pc' := 15) (tgt := 17) C hx1 f5 dX11_cut_12 (by decide) rfl (fun c6 => ?_) (fun c6 => ?_)
    · replace h := h.1 c6
      refine r_aload_n (pc' := 18) C 0 rfl rfl dX11_cut_17 rfl ?_
      refine r_getr (pc' := 21) (k := 0) (r := 12) C fl_X11_33 (by decide) kc_0 (by decide) fr_11_3 RV_0_3 dX11_cut_18 rfl ?_
      refine c_Vi (pc' := 24) (mt := mX2_count) (as := []) (st := []) (k := 12) C h rfl cl_X2_count ml_X11_78 im_X2_count sl_X2_count (by omega) (Nat.le_refl _) (Nat.le_refl _) rfl (by decide) kc_12 (by decide) rfl rfl rfl (Nat.le_of_ble_eq_true rfl) dX11_cut_21 rfl (fun r7 iv8 av9 f10 h => ?_)
      replace h := h f10
      refine r_iload_n (pc' := 25) C 1 rfl rfl dX11_cut_24 rfl ?_
      refine r_isub (pc' := 26) C dX11_cut_25 rfl ?_
      refine r_istore_n (pc' := 27) (ls' := [(0, .ref (gl_b Y + 0)), (1, .int (i32 x1)), (2, .int (i32 (r7 - x1)))]) C (by decide) rfl rfl dX11_cut_26 rfl ?_
      refine r_aload_n (pc' := 28) C 0 rfl rfl dX11_cut_27 rfl ?_
      refine r_getr (pc' := 31) (k := 0) (r := 12) C fl_X11_33 (by decide) kc_0 (by decide) fr_11_3 RV_0_3 dX11_cut_28 rfl ?_
      refine r_iload_n (pc' := 32) C 1 rfl rfl dX11_cut_31 rfl ?_
      refine c_Vv (pc' := 35) (mt := mX2_keep) (as := [.int (i32 x1)]) (st := []) (k := 12) C h rfl cl_X2_keep ml_X11_85 im_X2_keep sl_X2_keep (by omega) (Nat.le_refl _) (Nat.le_refl _) rfl (by decide) kc_12 (by decide) rfl rfl rfl (Nat.le_of_ble_eq_true rfl) dX11_cut_32 rfl (fun r11 iv12 av13 h => ?_)
      refine r_iload_n (pc' := 36) C 2 rfl rfl dX11_cut_35 rfl ?_
      have o15 := h.1
      replace h := h.2
      exact r_iret C o15 ⟨rfl, rfl, h⟩ dX11_cut_36
    · replace h := h.2 c6
      refine r_iconst (pc' := 16) C dX11_cut_15 rfl ?_
      exact r_iret C (by decide) ⟨rfl, rfl, h⟩ dX11_cut_16
def L_X11_read_96 (Y : Gl) (X : Cx) (P : PN) (x1 : Int) (x2 : Int) (x4 : Int) (x5 : Int) (x6 : Int) (x7 : Int) (iv av : IVt) : Prop := Wa Y X 10 (g_MQ Y X 1 (g_N RV 116 P) 0 0) 0 0 96 [(0, .ref (gl_b Y + 0)), (1, .int (i32 x1)), (2, .int (i32 x2)), (4, .int (i32 x4)), (5, .int (i32 x5)), (6, .int (i32 x6)), (7, .int (i32 x7))] [] RV iv av 116
set_option maxHeartbeats 4000000 in
set_option maxRecDepth 100000 in
theorem w_X11_read_96 {Y : Gl} {X : Cx} {e : Nat} {P : PN} {x1 : Int} {x2 : Int} {x4 : Int} {x5 : Int} {x6 : Int} {x7 : Int} {iv av : IVt} (C : CX Y X RX11 "read" cX11_read 10 (some .int) (e + 6) 0 0) (hx1 : InR x1) (hx2 : InR x2) (hx4 : InR x4) (hx5 : InR x5) (hx6 : InR x6) (hx7 : InR x7) (h :
    ((x5 < x7) →
      OkN Y (e + 5) mX2_keep [.ref (gl_b Y + 20), .int (i32 0)] RV iv av 116 (fun r2 iv3 av4 =>
        OkN Y (e + 5) mX2_count [.ref (gl_b Y + 18)] RV iv3 av4 116 (fun r6 iv7 av8 =>
          (InR r6) →
          OkN Y (e + 5) mX2_addAll [.ref (gl_b Y + 20), .ref (gl_b Y + 18), .int (i32 0), .int (i32 r6)] RV iv7 av8 116 (fun r10 iv11 av12 =>
            OkN Y (e + 5) mX2_count [.ref (gl_b Y + 20)] RV (up2 iv11 0 10 x6) av12 116 (fun r14 iv15 av16 =>
              (InR r14) →
              P r14 iv15 av16
            )
          )
        )
      )
    ) ∧
    ((¬ x5 < x7) →
      OkN Y (e + 5) mX5_log [.ref (gl_b Y + 5)] RV iv av 116 (fun r18 iv19 av20 =>
        (InR r18) →
        (0 ≤ r18 ∧ r18 ≤ 31) ∧
        (InR (x7 * 2 ^ r18.toNat)) ∧
        OkN Y (e + 5) mX5_log [.ref (gl_b Y + 5)] RV iv19 av20 116 (fun r24 iv25 av26 =>
          (InR r24) →
          (0 ≤ r24 ∧ r24 ≤ 31) ∧
          (InR ((x7 + 1) * 2 ^ r24.toNat)) ∧
          OkN Y (e + 5) mX11_readPiece [.ref (gl_b Y + 0), .int (i32 x1), .int (i32 x7), .int (i32 (max x2 (x7 * 2 ^ r18.toNat))), .int (i32 (min x4 ((x7 + 1) * 2 ^ r24.toNat)))] RV iv25 av26 116 (fun r30 iv31 av32 =>
            (InR r30) →
            ((0 ≤ r30) →
              L_X11_read_96 Y X P x1 x2 x4 x5 (x6 + r30) (x7 + 1) iv31 av32
            ) ∧
            ((¬ 0 ≤ r30) →
              P (-4) iv31 av32
            )
          )
        )
      )
    )) : L_X11_read_96 Y X P x1 x2 x4 x5 x6 x7 iv av := by
  unfold L_X11_read_96
  refine r_iload (pc' := 98) C 6 rfl dX11_read_96 rfl ?_
  refine r_iload (pc' := 100) C 4 rfl dX11_read_98 rfl ?_
  refine r_icmp_gt (pc' := 103) (tgt := 168) C hx7 hx5 dX11_read_100 (by decide) rfl (fun c1 => ?_) (fun c1 => ?_)
  · replace h := h.1 c1
    refine r_aload_n (pc' := 169) C 0 rfl rfl dX11_read_168 rfl ?_
    refine r_getr (pc' := 172) (k := 0) (r := 20) C fl_X11_46 (by decide) kc_0 (by decide) fr_11_7 RV_0_7 dX11_read_169 rfl ?_
    refine r_iconst (pc' := 173) C dX11_read_172 rfl ?_
    refine c_Vv (pc' := 176) (mt := mX2_keep) (as := [.int (i32 0)]) (st := []) (k := 20) C h rfl cl_X2_keep ml_X11_85 im_X2_keep sl_X2_keep (by omega) (Nat.le_refl _) (Nat.le_refl _) rfl (by decide) kc_20 (by decide) rfl rfl rfl (Nat.le_of_ble_eq_true rfl) dX11_read_173 rfl (fun r2 iv3 av4 h => ?_)
    refine r_aload_n (pc' := 177) C 0 rfl rfl dX11_read_176 rfl ?_
    refine r_getr (pc' := 180) (k := 0) (r := 20) C fl_X11_46 (by decide) kc_0 (by decide) fr_11_7 RV_0_7 dX11_read_177 rfl ?_
    refine r_aload_n (pc' := 181) C 0 rfl rfl dX11_read_180 rfl ?_
    refine r_getr (pc' := 184) (k := 0) (r := 18) C fl_X11_43 (by decide) kc_0 (by decide) fr_11_6 RV_0_6 dX11_read_181 rfl ?_
    refine r_iconst (pc' := 185) C dX11_read_184 rfl ?_
    refine r_aload_n (pc' := 186) C 0 rfl rfl dX11_read_185 rfl ?_
    refine r_getr (pc' := 189) (k := 0) (r := 18) C fl_X11_43 (by decide) kc_0 (by decide) fr_11_6 RV_0_6 dX11_read_186 rfl ?_
    refine c_Vi (pc' := 192) (mt := mX2_count) (as := []) (st := [.int (i32 0), .ref (gl_b Y + 18), .ref (gl_b Y + 20)]) (k := 18) C h rfl cl_X2_count ml_X11_78 im_X2_count sl_X2_count (by omega) (Nat.le_refl _) (Nat.le_refl _) rfl (by decide) kc_18 (by decide) rfl rfl rfl (Nat.le_of_ble_eq_true rfl) dX11_read_189 rfl (fun r6 iv7 av8 f9 h => ?_)
    replace h := h f9
    refine c_Vv (pc' := 195) (mt := mX2_addAll) (as := [.ref (gl_b Y + 18), .int (i32 0), .int (i32 r6)]) (st := []) (k := 20) C h rfl cl_X2_addAll ml_X11_165 im_X2_addAll sl_X2_addAll (by omega) (Nat.le_refl _) (Nat.le_refl _) rfl (by decide) kc_20 (by decide) rfl rfl rfl (Nat.le_of_ble_eq_true rfl) dX11_read_192 rfl (fun r10 iv11 av12 h => ?_)
    refine r_aload_n (pc' := 196) C 0 rfl rfl dX11_read_195 rfl ?_
    refine r_iload (pc' := 198) C 5 rfl dX11_read_196 rfl ?_
    refine r_puti (pc' := 201) (k := 0) C fl_X11_67 (by decide) kc_0 (by decide) fr_11_10 hx6 dX11_read_198 rfl ?_
    refine r_aload_n (pc' := 202) C 0 rfl rfl dX11_read_201 rfl ?_
    refine r_getr (pc' := 205) (k := 0) (r := 20) C fl_X11_46 (by decide) kc_0 (by decide) fr_11_7 RV_0_7 dX11_read_202 rfl ?_
    refine c_Vi (pc' := 208) (mt := mX2_count) (as := []) (st := []) (k := 20) C h rfl cl_X2_count ml_X11_78 im_X2_count sl_X2_count (by omega) (Nat.le_refl _) (Nat.le_refl _) rfl (by decide) kc_20 (by decide) rfl rfl rfl (Nat.le_of_ble_eq_true rfl) dX11_read_205 rfl (fun r14 iv15 av16 f17 h => ?_)
    replace h := h f17
    exact r_iret C f17 ⟨rfl, rfl, h⟩ dX11_read_208
  · replace h := h.2 c1
    refine r_iload_n (pc' := 104) C 2 rfl rfl dX11_read_103 rfl ?_
    refine r_iload (pc' := 106) C 6 rfl dX11_read_104 rfl ?_
    refine r_aload_n (pc' := 107) C 0 rfl rfl dX11_read_106 rfl ?_
    refine r_getr (pc' := 110) (k := 0) (r := 5) C fl_X11_19 (by decide) kc_0 (by decide) fr_11_1 RV_0_1 dX11_read_107 rfl ?_
    refine c_Vi (pc' := 113) (mt := mX5_log) (as := []) (st := [.int (i32 x7), .int (i32 x2)]) (k := 5) C h rfl cl_X5_log ml_X11_199 im_X5_log sl_X5_log (by omega) (Nat.le_refl _) (Nat.le_refl _) rfl (by decide) kc_5 (by decide) rfl rfl rfl (Nat.le_of_ble_eq_true rfl) dX11_read_110 rfl (fun r18 iv19 av20 f21 h => ?_)
    replace h := h f21
    have o22 := h.1
    replace h := h.2
    refine r_ishl (pc' := 114) C o22 dX11_read_113 rfl ?_
    have o23 := h.1
    replace h := h.2
    refine r_max (pc' := 117) C ml_X11_202 wd_max_s wd_math wd_max_c (by omega) (Nat.le_of_ble_eq_true rfl) (Nat.le_refl _) (Nat.le_refl _) hx2 o23 dX11_read_114 rfl ?_
    refine r_istore (pc' := 119) (ls' := [(0, .ref (gl_b Y + 0)), (1, .int (i32 x1)), (2, .int (i32 x2)), (4, .int (i32 x4)), (5, .int (i32 x5)), (6, .int (i32 x6)), (7, .int (i32 x7)), (8, .int (i32 (max x2 (x7 * 2 ^ r18.toNat))))]) C (by decide) rfl dX11_read_117 rfl ?_
    refine r_aload_n (pc' := 120) C 0 rfl rfl dX11_read_119 rfl ?_
    refine r_iload_n (pc' := 121) C 1 rfl rfl dX11_read_120 rfl ?_
    refine r_iload (pc' := 123) C 6 rfl dX11_read_121 rfl ?_
    refine r_iload (pc' := 125) C 7 rfl dX11_read_123 rfl ?_
    refine r_iload (pc' := 127) C 3 rfl dX11_read_125 rfl ?_
    refine r_iload (pc' := 129) C 6 rfl dX11_read_127 rfl ?_
    refine r_iconst (pc' := 130) C dX11_read_129 rfl ?_
    refine r_iadd (pc' := 131) C dX11_read_130 rfl ?_
    refine r_aload_n (pc' := 132) C 0 rfl rfl dX11_read_131 rfl ?_
    refine r_getr (pc' := 135) (k := 0) (r := 5) C fl_X11_19 (by decide) kc_0 (by decide) fr_11_1 RV_0_1 dX11_read_132 rfl ?_
    refine c_Vi (pc' := 138) (mt := mX5_log) (as := []) (st := [.int (i32 (x7 + 1)), .int (i32 x4), .int (i32 (max x2 (x7 * 2 ^ r18.toNat))), .int (i32 x7), .int (i32 x1), .ref (gl_b Y + 0)]) (k := 5) C h rfl cl_X5_log ml_X11_199 im_X5_log sl_X5_log (by omega) (Nat.le_refl _) (Nat.le_refl _) rfl (by decide) kc_5 (by decide) rfl rfl rfl (Nat.le_of_ble_eq_true rfl) dX11_read_135 rfl (fun r24 iv25 av26 f27 h => ?_)
    replace h := h f27
    have o28 := h.1
    replace h := h.2
    refine r_ishl (pc' := 139) C o28 dX11_read_138 rfl ?_
    have o29 := h.1
    replace h := h.2
    refine r_min (pc' := 142) C ml_X11_143 wd_min_s wd_math wd_min_c (by omega) (Nat.le_of_ble_eq_true rfl) (Nat.le_refl _) (Nat.le_refl _) hx4 o29 dX11_read_139 rfl ?_
    refine c_Vi (pc' := 145) (mt := mX11_readPiece) (as := [.int (i32 x1), .int (i32 x7), .int (i32 (max x2 (x7 * 2 ^ r18.toNat))), .int (i32 (min x4 ((x7 + 1) * 2 ^ r24.toNat)))]) (st := []) (k := 0) C h rfl cl_X11_readPiece ml_X11_205 im_X11_readPiece sl_X11_readPiece (by omega) (Nat.le_refl _) (Nat.le_refl _) rfl (by decide) kc_0 (by decide) rfl rfl rfl (Nat.le_of_ble_eq_true rfl) dX11_read_142 rfl (fun r30 iv31 av32 f33 h => ?_)
    replace h := h f33
    refine r_istore (pc' := 147) (ls' := [(0, .ref (gl_b Y + 0)), (1, .int (i32 x1)), (2, .int (i32 x2)), (4, .int (i32 x4)), (5, .int (i32 x5)), (6, .int (i32 x6)), (7, .int (i32 x7)), (8, .int (i32 (max x2 (x7 * 2 ^ r18.toNat)))), (9, .int (i32 r30))]) C (by decide) rfl dX11_read_145 rfl ?_
    refine r_iload (pc' := 149) C 8 rfl dX11_read_147 rfl ?_
    refine r_if_ge (pc' := 152) (tgt := 155) C f33 dX11_read_149 (by decide) rfl (fun c34 => ?_) (fun c34 => ?_)
    · replace h := h.1 c34
      refine r_iload (pc' := 157) C 5 rfl dX11_read_155 rfl ?_
      refine r_iload (pc' := 159) C 8 rfl dX11_read_157 rfl ?_
      refine r_iadd (pc' := 160) C dX11_read_159 rfl ?_
      refine r_istore (pc' := 162) (ls' := [(0, .ref (gl_b Y + 0)), (1, .int (i32 x1)), (2, .int (i32 x2)), (4, .int (i32 x4)), (5, .int (i32 x5)), (6, .int (i32 (x6 + r30))), (7, .int (i32 x7)), (8, .int (i32 (max x2 (x7 * 2 ^ r18.toNat)))), (9, .int (i32 r30))]) C (by decide) rfl dX11_read_160 rfl ?_
      refine r_iinc (pc' := 165) (ls' := [(0, .ref (gl_b Y + 0)), (1, .int (i32 x1)), (2, .int (i32 x2)), (4, .int (i32 x4)), (5, .int (i32 x5)), (6, .int (i32 (x6 + r30))), (7, .int (i32 (x7 + 1))), (8, .int (i32 (max x2 (x7 * 2 ^ r18.toNat)))), (9, .int (i32 r30))]) C 6 rfl (by decide) rfl dX11_read_162 rfl ?_
      refine r_goto (tgt := 96) C dX11_read_165 (by decide) ?_
      exact Wa.sub [0, 1, 2, 3, 4, 5, 6] rfl h
    · replace h := h.2 c34
      refine r_bipush (pc' := 154) C dX11_read_152 (by decide) rfl ?_
      exact r_iret C (by decide) ⟨rfl, rfl, h⟩ dX11_read_154
set_option maxHeartbeats 4000000 in
set_option maxRecDepth 100000 in
theorem o_X11_read {Y : Gl} {e : Nat} {P : PN} {x1 : Int} {x2 : Int} {x3 : Int} {iv av : IVt} (hx1 : InR x1) (hx2 : InR x2) (hx3 : InR x3) (h : ∀ X : Cx, CX Y X RX11 "read" cX11_read 10 (some .int) (e + 6) 0 0 →
    OkN Y (e + 5) mX11_isFile [.int (i32 x1)] RV (up2 iv 0 10 0) av 116 (fun r1 iv2 av3 =>
      (InR r1) →
      ((r1 = 0) →
        P (-1) iv2 av3
      ) ∧
      ((¬ r1 = 0) →
        ((x2 < 0) →
          P (-1) iv2 av3
        ) ∧
        ((¬ x2 < 0) →
          ((x3 < 0) →
            P (-1) iv2 av3
          ) ∧
          ((¬ x3 < 0) →
            ((x3 ≤ 4096) →
              OkN Y (e + 5) mX5_fact [.ref (gl_b Y + 5), .int (i32 x1), .int (i32 1)] RV iv2 av3 116 (fun r9 iv10 av11 =>
                (InR r9) →
                (InL (x2 + x3)) ∧
                (InR (min (x2 + x3) r9)) ∧
                (((min (x2 + x3) r9) ≤ x2) →
                  OkN Y (e + 5) mX2_keep [.ref (gl_b Y + 18), .int (i32 0)] RV iv10 av11 116 (fun r16 iv17 av18 =>
                    OkN Y (e + 5) mX5_log [.ref (gl_b Y + 5)] RV iv17 av18 116 (fun r20 iv21 av22 =>
                      (InR r20) →
                      (0 ≤ r20 ∧ r20 ≤ 31) ∧
                      L_X11_read_96 Y X P x1 x2 (min (x2 + x3) r9) (-1) 0 (x2 / 2 ^ r20.toNat) iv21 av22
                    )
                  )
                ) ∧
                ((¬ (min (x2 + x3) r9) ≤ x2) →
                  OkN Y (e + 5) mX5_log [.ref (gl_b Y + 5)] RV iv10 av11 116 (fun r25 iv26 av27 =>
                    (InR r25) →
                    (InR ((min (x2 + x3) r9) - 1)) ∧
                    (0 ≤ r25 ∧ r25 ≤ 31) ∧
                    OkN Y (e + 5) mX2_keep [.ref (gl_b Y + 18), .int (i32 0)] RV iv26 av27 116 (fun r31 iv32 av33 =>
                      OkN Y (e + 5) mX5_log [.ref (gl_b Y + 5)] RV iv32 av33 116 (fun r35 iv36 av37 =>
                        (InR r35) →
                        (0 ≤ r35 ∧ r35 ≤ 31) ∧
                        L_X11_read_96 Y X P x1 x2 (min (x2 + x3) r9) (((min (x2 + x3) r9) - 1) / 2 ^ r25.toNat) 0 (x2 / 2 ^ r35.toNat) iv36 av37
                      )
                    )
                  )
                )
              )
            ) ∧
            ((¬ x3 ≤ 4096) →
              P (-1) iv2 av3
            )
          )
        )
      )
    )) : OkN Y (e + 6) mX11_read [.ref (gl_b Y + 0), .int (i32 x1), .int (i32 x2), .int (i32 x3)] RV iv av 116 P := by
  refine OkW.of rfl (by show _ ≤ 10; exact Nat.le_of_ble_eq_true rfl) fun X C0 hR => ?_
  have C : CX Y X RX11 "read" cX11_read 10 (some .int) (e + 6) 0 0 := C0
  replace h := h X C
  show Wa Y X 10 (g_MQ Y X 1 (g_N RV 116 P) 0 0) 0 0 0 [(0, .ref (gl_b Y + 0)), (1, .int (i32 x1)), (2, .int (i32 x2)), (3, .int (i32 x3))] [] RV iv av 116
  refine r_aload_n (pc' := 1) C 0 rfl rfl dX11_read_0 rfl ?_
  refine r_iconst (pc' := 2) C dX11_read_1 rfl ?_
  refine r_puti (pc' := 5) (k := 0) C fl_X11_67 (by decide) kc_0 (by decide) fr_11_10 (by decide) dX11_read_2 rfl ?_
  refine r_iload_n (pc' := 6) C 1 rfl rfl dX11_read_5 rfl ?_
  refine c_Si (pc' := 9) (mt := mX11_isFile) (as := [.int (i32 x1)]) (st := []) C h rfl cl_X11_isFile ml_X11_88 sm_X11_isFile (by omega) (Nat.le_refl _) (Nat.le_refl _) rfl rfl (Nat.le_of_ble_eq_true rfl) dX11_read_6 rfl (fun r1 iv2 av3 f4 h => ?_)
  replace h := h f4
  refine r_if_eq (pc' := 12) (tgt := 27) C f4 dX11_read_9 (by decide) rfl (fun c5 => ?_) (fun c5 => ?_)
  · replace h := h.1 c5
    refine r_iconst (pc' := 28) C dX11_read_27 rfl ?_
    exact r_iret C (by decide) ⟨rfl, rfl, h⟩ dX11_read_28
  · replace h := h.2 c5
    refine r_iload_n (pc' := 13) C 2 rfl rfl dX11_read_12 rfl ?_
    refine r_if_lt (pc' := 16) (tgt := 27) C hx2 dX11_read_13 (by decide) rfl (fun c6 => ?_) (fun c6 => ?_)
    · replace h := h.1 c6
      refine r_iconst (pc' := 28) C dX11_read_27 rfl ?_
      exact r_iret C (by decide) ⟨rfl, rfl, h⟩ dX11_read_28
    · replace h := h.2 c6
      refine r_iload_n (pc' := 17) C 3 rfl rfl dX11_read_16 rfl ?_
      refine r_if_lt (pc' := 20) (tgt := 27) C hx3 dX11_read_17 (by decide) rfl (fun c7 => ?_) (fun c7 => ?_)
      · replace h := h.1 c7
        refine r_iconst (pc' := 28) C dX11_read_27 rfl ?_
        exact r_iret C (by decide) ⟨rfl, rfl, h⟩ dX11_read_28
      · replace h := h.2 c7
        refine r_iload_n (pc' := 21) C 3 rfl rfl dX11_read_20 rfl ?_
        refine r_sipush (pc' := 24) C dX11_read_21 (by decide) rfl ?_
        refine r_icmp_le (pc' := 27) (tgt := 29) C hx3 (by decide) dX11_read_24 (by decide) rfl (fun c8 => ?_) (fun c8 => ?_)
        · replace h := h.1 c8
          refine r_iload_n (pc' := 30) C 2 rfl rfl dX11_read_29 rfl ?_
          refine r_i2l (pc' := 31) C hx2 dX11_read_30 rfl ?_
          refine r_iload_n (pc' := 32) C 3 rfl rfl dX11_read_31 rfl ?_
          refine r_i2l (pc' := 33) C hx3 dX11_read_32 rfl ?_
          refine r_ladd (pc' := 34) C dX11_read_33 rfl ?_
          refine r_aload_n (pc' := 35) C 0 rfl rfl dX11_read_34 rfl ?_
          refine r_getr (pc' := 38) (k := 0) (r := 5) C fl_X11_19 (by decide) kc_0 (by decide) fr_11_1 RV_0_1 dX11_read_35 rfl ?_
          refine r_iload_n (pc' := 39) C 1 rfl rfl dX11_read_38 rfl ?_
          refine r_iconst (pc' := 40) C dX11_read_39 rfl ?_
          refine c_Vi (pc' := 43) (mt := mX5_fact) (as := [.int (i32 x1), .int (i32 1)]) (st := [.long (i64 (x2 + x3))]) (k := 5) C h rfl cl_X5_fact ml_X11_176 im_X5_fact sl_X5_fact (by omega) (Nat.le_refl _) (Nat.le_refl _) rfl (by decide) kc_5 (by decide) rfl rfl rfl (Nat.le_of_ble_eq_true rfl) dX11_read_40 rfl (fun r9 iv10 av11 f12 h => ?_)
          replace h := h f12
          refine r_i2l (pc' := 44) C f12 dX11_read_43 rfl ?_
          have o13 := h.1
          replace h := h.2
          refine r_minL (pc' := 47) C ml_X11_196 wd_minL_s wd_math wd_minL_c (by omega) (Nat.le_of_ble_eq_true rfl) (Nat.le_refl _) (Nat.le_refl _) o13 (by omega) dX11_read_44 rfl ?_
          refine r_l2i (pc' := 48) C dX11_read_47 rfl ?_
          refine r_istore (pc' := 50) (ls' := [(0, .ref (gl_b Y + 0)), (1, .int (i32 x1)), (2, .int (i32 x2)), (3, .int (i32 x3)), (4, .int (i32 (min (x2 + x3) r9)))]) C (by decide) rfl dX11_read_48 rfl ?_
          refine r_iload_n (pc' := 51) C 2 rfl rfl dX11_read_50 rfl ?_
          refine r_iload (pc' := 53) C 4 rfl dX11_read_51 rfl ?_
          have o14 := h.1
          replace h := h.2
          refine r_icmp_ge (pc' := 56) (tgt := 71) C hx2 o14 dX11_read_53 (by decide) rfl (fun c15 => ?_) (fun c15 => ?_)
          · replace h := h.1 c15
            refine r_iconst (pc' := 72) C dX11_read_71 rfl ?_
            refine r_istore (pc' := 74) (ls' := [(0, .ref (gl_b Y + 0)), (1, .int (i32 x1)), (2, .int (i32 x2)), (3, .int (i32 x3)), (4, .int (i32 (min (x2 + x3) r9))), (5, .int (i32 (-1)))]) C (by decide) rfl dX11_read_72 rfl ?_
            refine r_iconst (pc' := 75) C dX11_read_74 rfl ?_
            refine r_istore (pc' := 77) (ls' := [(0, .ref (gl_b Y + 0)), (1, .int (i32 x1)), (2, .int (i32 x2)), (3, .int (i32 x3)), (4, .int (i32 (min (x2 + x3) r9))), (5, .int (i32 (-1))), (6, .int (i32 0))]) C (by decide) rfl dX11_read_75 rfl ?_
            refine r_aload_n (pc' := 78) C 0 rfl rfl dX11_read_77 rfl ?_
            refine r_getr (pc' := 81) (k := 0) (r := 18) C fl_X11_43 (by decide) kc_0 (by decide) fr_11_6 RV_0_6 dX11_read_78 rfl ?_
            refine r_iconst (pc' := 82) C dX11_read_81 rfl ?_
            refine c_Vv (pc' := 85) (mt := mX2_keep) (as := [.int (i32 0)]) (st := []) (k := 18) C h rfl cl_X2_keep ml_X11_85 im_X2_keep sl_X2_keep (by omega) (Nat.le_refl _) (Nat.le_refl _) rfl (by decide) kc_18 (by decide) rfl rfl rfl (Nat.le_of_ble_eq_true rfl) dX11_read_82 rfl (fun r16 iv17 av18 h => ?_)
            refine r_iload_n (pc' := 86) C 2 rfl rfl dX11_read_85 rfl ?_
            refine r_aload_n (pc' := 87) C 0 rfl rfl dX11_read_86 rfl ?_
            refine r_getr (pc' := 90) (k := 0) (r := 5) C fl_X11_19 (by decide) kc_0 (by decide) fr_11_1 RV_0_1 dX11_read_87 rfl ?_
            refine c_Vi (pc' := 93) (mt := mX5_log) (as := []) (st := [.int (i32 x2)]) (k := 5) C h rfl cl_X5_log ml_X11_199 im_X5_log sl_X5_log (by omega) (Nat.le_refl _) (Nat.le_refl _) rfl (by decide) kc_5 (by decide) rfl rfl rfl (Nat.le_of_ble_eq_true rfl) dX11_read_90 rfl (fun r20 iv21 av22 f23 h => ?_)
            replace h := h f23
            have o24 := h.1
            replace h := h.2
            refine r_ishr (pc' := 94) C hx2 o24 dX11_read_93 rfl ?_
            refine r_istore (pc' := 96) (ls' := [(0, .ref (gl_b Y + 0)), (1, .int (i32 x1)), (2, .int (i32 x2)), (3, .int (i32 x3)), (4, .int (i32 (min (x2 + x3) r9))), (5, .int (i32 (-1))), (6, .int (i32 0)), (7, .int (i32 (x2 / 2 ^ r20.toNat)))]) C (by decide) rfl dX11_read_94 rfl ?_
            exact Wa.sub [0, 1, 2, 4, 5, 6, 7] rfl h
          · replace h := h.2 c15
            refine r_iload (pc' := 58) C 4 rfl dX11_read_56 rfl ?_
            refine r_iconst (pc' := 59) C dX11_read_58 rfl ?_
            refine r_isub (pc' := 60) C dX11_read_59 rfl ?_
            refine r_aload_n (pc' := 61) C 0 rfl rfl dX11_read_60 rfl ?_
            refine r_getr (pc' := 64) (k := 0) (r := 5) C fl_X11_19 (by decide) kc_0 (by decide) fr_11_1 RV_0_1 dX11_read_61 rfl ?_
            refine c_Vi (pc' := 67) (mt := mX5_log) (as := []) (st := [.int (i32 ((min (x2 + x3) r9) - 1))]) (k := 5) C h rfl cl_X5_log ml_X11_199 im_X5_log sl_X5_log (by omega) (Nat.le_refl _) (Nat.le_refl _) rfl (by decide) kc_5 (by decide) rfl rfl rfl (Nat.le_of_ble_eq_true rfl) dX11_read_64 rfl (fun r25 iv26 av27 f28 h => ?_)
            replace h := h f28
            have o29 := h.1
            replace h := h.2
            have o30 := h.1
            replace h := h.2
            refine r_ishr (pc' := 68) C o29 o30 dX11_read_67 rfl ?_
            refine r_goto (tgt := 72) C dX11_read_68 (by decide) ?_
            refine r_istore (pc' := 74) (ls' := [(0, .ref (gl_b Y + 0)), (1, .int (i32 x1)), (2, .int (i32 x2)), (3, .int (i32 x3)), (4, .int (i32 (min (x2 + x3) r9))), (5, .int (i32 (((min (x2 + x3) r9) - 1) / 2 ^ r25.toNat)))]) C (by decide) rfl dX11_read_72 rfl ?_
            refine r_iconst (pc' := 75) C dX11_read_74 rfl ?_
            refine r_istore (pc' := 77) (ls' := [(0, .ref (gl_b Y + 0)), (1, .int (i32 x1)), (2, .int (i32 x2)), (3, .int (i32 x3)), (4, .int (i32 (min (x2 + x3) r9))), (5, .int (i32 (((min (x2 + x3) r9) - 1) / 2 ^ r25.toNat))), (6, .int (i32 0))]) C (by decide) rfl dX11_read_75 rfl ?_
            refine r_aload_n (pc' := 78) C 0 rfl rfl dX11_read_77 rfl ?_
            refine r_getr (pc' := 81) (k := 0) (r := 18) C fl_X11_43 (by decide) kc_0 (by decide) fr_11_6 RV_0_6 dX11_read_78 rfl ?_
            refine r_iconst (pc' := 82) C dX11_read_81 rfl ?_
            refine c_Vv (pc' := 85) (mt := mX2_keep) (as := [.int (i32 0)]) (st := []) (k := 18) C h rfl cl_X2_keep ml_X11_85 im_X2_keep sl_X2_keep (by omega) (Nat.le_refl _) (Nat.le_refl _) rfl (by decide) kc_18 (by decide) rfl rfl rfl (Nat.le_of_ble_eq_true rfl) dX11_read_82 rfl (fun r31 iv32 av33 h => ?_)
            refine r_iload_n (pc' := 86) C 2 rfl rfl dX11_read_85 rfl ?_
            refine r_aload_n (pc' := 87) C 0 rfl rfl dX11_read_86 rfl ?_
            refine r_getr (pc' := 90) (k := 0) (r := 5) C fl_X11_19 (by decide) kc_0 (by decide) fr_11_1 RV_0_1 dX11_read_87 rfl ?_
            refine c_Vi (pc' := 93) (mt := mX5_log) (as := []) (st := [.int (i32 x2)]) (k := 5) C h rfl cl_X5_log ml_X11_199 im_X5_log sl_X5_log (by omega) (Nat.le_refl _) (Nat.le_refl _) rfl (by decide) kc_5 (by decide) rfl rfl rfl (Nat.le_of_ble_eq_true rfl) dX11_read_90 rfl (fun r35 iv36 av37 f38 h => ?_)
            replace h := h f38
            have o39 := h.1
            replace h := h.2
            refine r_ishr (pc' := 94) C hx2 o39 dX11_read_93 rfl ?_
            refine r_istore (pc' := 96) (ls' := [(0, .ref (gl_b Y + 0)), (1, .int (i32 x1)), (2, .int (i32 x2)), (3, .int (i32 x3)), (4, .int (i32 (min (x2 + x3) r9))), (5, .int (i32 (((min (x2 + x3) r9) - 1) / 2 ^ r25.toNat))), (6, .int (i32 0)), (7, .int (i32 (x2 / 2 ^ r35.toNat)))]) C (by decide) rfl dX11_read_94 rfl ?_
            exact Wa.sub [0, 1, 2, 4, 5, 6, 7] rfl h
        · replace h := h.2 c8
          refine r_iconst (pc' := 28) C dX11_read_27 rfl ?_
          exact r_iret C (by decide) ⟨rfl, rfl, h⟩ dX11_read_28
def L_X11_readPiece_20 (Y : Gl) (X : Cx) (P : PN) (x1 : Int) (x2 : Int) (x3 : Int) (x4 : Int) (x5 : Int) (iv av : IVt) : Prop := Wa Y X 14 (g_MQ Y X 1 (g_N RV 116 P) 0 0) 0 0 20 [(0, .ref (gl_b Y + 0)), (1, .int (i32 x1)), (2, .int (i32 x2)), (3, .int (i32 x3)), (4, .int (i32 x4)), (5, .int (i32 x5))] [] RV iv av 116
def L_X11_readPiece_125 (Y : Gl) (X : Cx) (P : PN) (x1 : Int) (x2 : Int) (x3 : Int) (x4 : Int) (x5 : Int) (x7 : Int) (x8 : Int) (x9 : Int) (iv av : IVt) : Prop := Wa Y X 14 (g_MQ Y X 1 (g_N RV 116 P) 0 0) 0 0 125 [(0, .ref (gl_b Y + 0)), (1, .int (i32 x1)), (2, .int (i32 x2)), (3, .int (i32 x3)), (4, .int (i32 x4)), (5, .int (i32 x5)), (7, .int (i32 x7)), (8, .int (i32 x8)), (9, .int (i32 x9))] [] RV iv av 116
def L_X11_readPiece_174 (Y : Gl) (X : Cx) (P : PN) (x3 : Int) (x4 : Int) (x7 : Int) (x8 : Int) (x10 : Int) (x11 : Int) (x12 : Int) (iv av : IVt) : Prop := Wa Y X 14 (g_MQ Y X 1 (g_N RV 116 P) 0 0) 0 0 174 [(0, .ref (gl_b Y + 0)), (3, .int (i32 x3)), (4, .int (i32 x4)), (7, .int (i32 x7)), (8, .int (i32 x8)), (10, .int (i32 x10)), (11, .int (i32 x11)), (12, .int (i32 x12))] [] RV iv av 116
def L_X11_readPiece_259 (Y : Gl) (X : Cx) (P : PN) (iv av : IVt) : Prop := Wa Y X 14 (g_MQ Y X 1 (g_N RV 116 P) 0 0) 0 0 259 [] [] RV iv av 116
set_option maxHeartbeats 4000000 in
set_option maxRecDepth 100000 in
theorem w_X11_readPiece_259 {Y : Gl} {X : Cx} {e : Nat} {P : PN} {iv av : IVt} (C : CX Y X RX11 "readPiece" cX11_readPiece 14 (some .int) (e + 5) 0 0) (h :
    P (-4) iv av) : L_X11_readPiece_259 Y X P iv av := by
  unfold L_X11_readPiece_259
  refine r_bipush (pc' := 261) C dX11_readPiece_259 (by decide) rfl ?_
  exact r_iret C (by decide) ⟨rfl, rfl, h⟩ dX11_readPiece_261
set_option maxHeartbeats 4000000 in
set_option maxRecDepth 100000 in
theorem w_X11_readPiece_174 {Y : Gl} {X : Cx} {e : Nat} {P : PN} {x3 : Int} {x4 : Int} {x7 : Int} {x8 : Int} {x10 : Int} {x11 : Int} {x12 : Int} {iv av : IVt} (C : CX Y X RX11 "readPiece" cX11_readPiece 14 (some .int) (e + 5) 0 0) (hx7 : InR x7) (hx8 : InR x8) (hx10 : InR x10) (hx11 : InR x11) (hx12 : InR x12) (h :
    OkN Y (e + 4) mX2_count [.ref (gl_b Y + 12)] RV iv av 116 (fun r1 iv2 av3 =>
      (InR r1) →
      (InR (r1 - x8)) ∧
      (((x7 % 16777216) ≤ (r1 - x8)) →
        ((x7 < 16777216) →
          (InR (x8 + (x7 % 16777216))) ∧
          OkN Y (e + 4) mX10_unpack [.ref (gl_b Y + 58), .int (i32 x8), .int (i32 (x8 + (x7 % 16777216))), .int (i32 x12)] RV iv2 av3 116 (fun r9 iv10 av11 =>
            (InR r9) →
            ((r9 = 0) →
              L_X11_readPiece_259 Y X P iv10 av11
            ) ∧
            ((¬ r9 = 0) →
              OkN Y (e + 4) mX2_count [.ref (gl_b Y + 16)] RV iv10 av11 116 (fun r14 iv15 av16 =>
                (InR r14) →
                ((x11 ≤ r14) →
                  (InR (x4 - x3)) ∧
                  OkN Y (e + 4) mX2_addAll [.ref (gl_b Y + 18), .ref (gl_b Y + 16), .int (i32 x10), .int (i32 (x4 - x3))] RV iv15 av16 116 (fun r20 iv21 av22 =>
                    P 1 iv21 av22
                  )
                ) ∧
                ((¬ x11 ≤ r14) →
                  L_X11_readPiece_259 Y X P iv15 av16
                )
              )
            )
          )
        ) ∧
        ((¬ x7 < 16777216) →
          (InR (x8 + x10)) ∧
          (InR (x4 - x3)) ∧
          OkN Y (e + 4) mX2_addAll [.ref (gl_b Y + 18), .ref (gl_b Y + 12), .int (i32 (x8 + x10)), .int (i32 (x4 - x3))] RV iv2 av3 116 (fun r26 iv27 av28 =>
            P 1 iv27 av28
          )
        )
      ) ∧
      ((¬ (x7 % 16777216) ≤ (r1 - x8)) →
        P (-4) iv2 av3
      )
    )) : L_X11_readPiece_174 Y X P x3 x4 x7 x8 x10 x11 x12 iv av := by
  unfold L_X11_readPiece_174
  refine r_iload (pc' := 176) C 3 rfl dX11_readPiece_174 rfl ?_
  refine r_ldc (pc' := 178) (x := 16777215) C ct_X11_217 (by decide) dX11_readPiece_176 rfl ?_
  refine r_iandM (pc' := 179) (m := 16777216) C 24 (by decide) (by decide) (by decide) dX11_readPiece_178 rfl ?_
  refine r_istore (pc' := 181) (ls' := [(0, .ref (gl_b Y + 0)), (3, .int (i32 x3)), (4, .int (i32 x4)), (7, .int (i32 x7)), (8, .int (i32 x8)), (10, .int (i32 x10)), (11, .int (i32 x11)), (12, .int (i32 x12)), (13, .int (i32 (x7 % 16777216)))]) C (by decide) rfl dX11_readPiece_179 rfl ?_
  refine r_iload (pc' := 183) C 8 rfl dX11_readPiece_181 rfl ?_
  refine r_aload_n (pc' := 184) C 0 rfl rfl dX11_readPiece_183 rfl ?_
  refine r_getr (pc' := 187) (k := 0) (r := 12) C fl_X11_33 (by decide) kc_0 (by decide) fr_11_3 RV_0_3 dX11_readPiece_184 rfl ?_
  refine c_Vi (pc' := 190) (mt := mX2_count) (as := []) (st := [.int (i32 (x7 % 16777216))]) (k := 12) C h rfl cl_X2_count ml_X11_78 im_X2_count sl_X2_count (by omega) (Nat.le_refl _) (Nat.le_refl _) rfl (by decide) kc_12 (by decide) rfl rfl rfl (Nat.le_of_ble_eq_true rfl) dX11_readPiece_187 rfl (fun r1 iv2 av3 f4 h => ?_)
  replace h := h f4
  refine r_iload (pc' := 192) C 4 rfl dX11_readPiece_190 rfl ?_
  refine r_isub (pc' := 193) C dX11_readPiece_192 rfl ?_
  have o5 := h.1
  replace h := h.2
  refine r_icmp_le (pc' := 196) (tgt := 199) C (by omega) o5 dX11_readPiece_193 (by decide) rfl (fun c6 => ?_) (fun c6 => ?_)
  · replace h := h.1 c6
    refine r_iload (pc' := 201) C 3 rfl dX11_readPiece_199 rfl ?_
    refine r_ldc (pc' := 203) (x := 16777216) C ct_X11_175 (by decide) dX11_readPiece_201 rfl ?_
    refine r_icmp_lt (pc' := 206) (tgt := 228) C hx7 (by decide) dX11_readPiece_203 (by decide) rfl (fun c7 => ?_) (fun c7 => ?_)
    · replace h := h.1 c7
      refine r_aload_n (pc' := 229) C 0 rfl rfl dX11_readPiece_228 rfl ?_
      refine r_getr (pc' := 232) (k := 0) (r := 58) C fl_X11_63 (by decide) kc_0 (by decide) fr_11_9 RV_0_9 dX11_readPiece_229 rfl ?_
      refine r_iload (pc' := 234) C 4 rfl dX11_readPiece_232 rfl ?_
      refine r_iload (pc' := 236) C 4 rfl dX11_readPiece_234 rfl ?_
      refine r_iload (pc' := 238) C 8 rfl dX11_readPiece_236 rfl ?_
      refine r_iadd (pc' := 239) C dX11_readPiece_238 rfl ?_
      refine r_iload (pc' := 241) C 7 rfl dX11_readPiece_239 rfl ?_
      have o8 := h.1
      replace h := h.2
      refine c_Vi (pc' := 244) (mt := mX10_unpack) (as := [.int (i32 x8), .int (i32 (x8 + (x7 % 16777216))), .int (i32 x12)]) (st := []) (k := 58) C h rfl cl_X10_unpack ml_X11_218 im_X10_unpack sl_X10_unpack (by omega) (Nat.le_refl _) (Nat.le_refl _) rfl (by decide) kc_58 (by decide) rfl rfl rfl (Nat.le_of_ble_eq_true rfl) dX11_readPiece_241 rfl (fun r9 iv10 av11 f12 h => ?_)
      replace h := h f12
      refine r_if_eq (pc' := 247) (tgt := 259) C f12 dX11_readPiece_244 (by decide) rfl (fun c13 => ?_) (fun c13 => ?_)
      · replace h := h.1 c13
        exact Wa.sub [] rfl h
      · replace h := h.2 c13
        refine r_aload_n (pc' := 248) C 0 rfl rfl dX11_readPiece_247 rfl ?_
        refine r_getr (pc' := 251) (k := 0) (r := 16) C fl_X11_40 (by decide) kc_0 (by decide) fr_11_5 RV_0_5 dX11_readPiece_248 rfl ?_
        refine c_Vi (pc' := 254) (mt := mX2_count) (as := []) (st := []) (k := 16) C h rfl cl_X2_count ml_X11_78 im_X2_count sl_X2_count (by omega) (Nat.le_refl _) (Nat.le_refl _) rfl (by decide) kc_16 (by decide) rfl rfl rfl (Nat.le_of_ble_eq_true rfl) dX11_readPiece_251 rfl (fun r14 iv15 av16 f17 h => ?_)
        replace h := h f17
        refine r_iload (pc' := 256) C 6 rfl dX11_readPiece_254 rfl ?_
        refine r_icmp_ge (pc' := 259) (tgt := 262) C f17 hx11 dX11_readPiece_256 (by decide) rfl (fun c18 => ?_) (fun c18 => ?_)
        · replace h := h.1 c18
          refine r_aload_n (pc' := 263) C 0 rfl rfl dX11_readPiece_262 rfl ?_
          refine r_getr (pc' := 266) (k := 0) (r := 18) C fl_X11_43 (by decide) kc_0 (by decide) fr_11_6 RV_0_6 dX11_readPiece_263 rfl ?_
          refine r_aload_n (pc' := 267) C 0 rfl rfl dX11_readPiece_266 rfl ?_
          refine r_getr (pc' := 270) (k := 0) (r := 16) C fl_X11_40 (by decide) kc_0 (by decide) fr_11_5 RV_0_5 dX11_readPiece_267 rfl ?_
          refine r_iload (pc' := 272) C 5 rfl dX11_readPiece_270 rfl ?_
          refine r_iload (pc' := 274) C 2 rfl dX11_readPiece_272 rfl ?_
          refine r_iload_n (pc' := 275) C 1 rfl rfl dX11_readPiece_274 rfl ?_
          refine r_isub (pc' := 276) C dX11_readPiece_275 rfl ?_
          have o19 := h.1
          replace h := h.2
          refine c_Vv (pc' := 279) (mt := mX2_addAll) (as := [.ref (gl_b Y + 16), .int (i32 x10), .int (i32 (x4 - x3))]) (st := []) (k := 18) C h rfl cl_X2_addAll ml_X11_165 im_X2_addAll sl_X2_addAll (by omega) (Nat.le_refl _) (Nat.le_refl _) rfl (by decide) kc_18 (by decide) rfl rfl rfl (Nat.le_of_ble_eq_true rfl) dX11_readPiece_276 rfl (fun r20 iv21 av22 h => ?_)
          refine r_iconst (pc' := 280) C dX11_readPiece_279 rfl ?_
          exact r_iret C (by decide) ⟨rfl, rfl, h⟩ dX11_readPiece_280
        · replace h := h.2 c18
          exact Wa.sub [] rfl h
    · replace h := h.2 c7
      refine r_aload_n (pc' := 207) C 0 rfl rfl dX11_readPiece_206 rfl ?_
      refine r_getr (pc' := 210) (k := 0) (r := 18) C fl_X11_43 (by decide) kc_0 (by decide) fr_11_6 RV_0_6 dX11_readPiece_207 rfl ?_
      refine r_aload_n (pc' := 211) C 0 rfl rfl dX11_readPiece_210 rfl ?_
      refine r_getr (pc' := 214) (k := 0) (r := 12) C fl_X11_33 (by decide) kc_0 (by decide) fr_11_3 RV_0_3 dX11_readPiece_211 rfl ?_
      refine r_iload (pc' := 216) C 4 rfl dX11_readPiece_214 rfl ?_
      refine r_iload (pc' := 218) C 5 rfl dX11_readPiece_216 rfl ?_
      refine r_iadd (pc' := 219) C dX11_readPiece_218 rfl ?_
      refine r_iload (pc' := 221) C 2 rfl dX11_readPiece_219 rfl ?_
      refine r_iload_n (pc' := 222) C 1 rfl rfl dX11_readPiece_221 rfl ?_
      refine r_isub (pc' := 223) C dX11_readPiece_222 rfl ?_
      have o24 := h.1
      replace h := h.2
      have o25 := h.1
      replace h := h.2
      refine c_Vv (pc' := 226) (mt := mX2_addAll) (as := [.ref (gl_b Y + 12), .int (i32 (x8 + x10)), .int (i32 (x4 - x3))]) (st := []) (k := 18) C h rfl cl_X2_addAll ml_X11_165 im_X2_addAll sl_X2_addAll (by omega) (Nat.le_refl _) (Nat.le_refl _) rfl (by decide) kc_18 (by decide) rfl rfl rfl (Nat.le_of_ble_eq_true rfl) dX11_readPiece_223 rfl (fun r26 iv27 av28 h => ?_)
      refine r_iconst (pc' := 227) C dX11_readPiece_226 rfl ?_
      exact r_iret C (by decide) ⟨rfl, rfl, h⟩ dX11_readPiece_227
  · replace h := h.2 c6
    refine r_bipush (pc' := 198) C dX11_readPiece_196 (by decide) rfl ?_
    exact r_iret C (by decide) ⟨rfl, rfl, h⟩ dX11_readPiece_198
set_option maxHeartbeats 4000000 in
set_option maxRecDepth 100000 in
theorem w_X11_readPiece_125 {Y : Gl} {X : Cx} {e : Nat} {P : PN} {x1 : Int} {x2 : Int} {x3 : Int} {x4 : Int} {x5 : Int} {x7 : Int} {x8 : Int} {x9 : Int} {iv av : IVt} (C : CX Y X RX11 "readPiece" cX11_readPiece 14 (some .int) (e + 5) 0 0) (hx1 : InR x1) (hx2 : InR x2) (hx5 : InR x5) (h :
    OkN Y (e + 4) mX5_log [.ref (gl_b Y + 5)] RV iv av 116 (fun r1 iv2 av3 =>
      (InR r1) →
      (0 ≤ r1 ∧ r1 ≤ 31) ∧
      OkN Y (e + 4) mX5_wholeBytes [.ref (gl_b Y + 5), .int (i32 x1), .int (i32 x2)] RV iv2 av3 116 (fun r6 iv7 av8 =>
        (InR r6) →
        ((x5 = 0) →
          L_X11_readPiece_174 Y X P x3 x4 x7 x8 ((x9 + x3) - (x2 * 2 ^ r1.toNat)) (x9 + r6) (x9 + r6) iv7 av8
        ) ∧
        ((¬ x5 = 0) →
          OkN Y (e + 4) mX5_blockBytes [.ref (gl_b Y + 5)] RV iv7 av8 116 (fun r11 iv12 av13 =>
            (InR r11) →
            L_X11_readPiece_174 Y X P x3 x4 x7 x8 ((x9 + x3) - (x2 * 2 ^ r1.toNat)) (x9 + r6) r11 iv12 av13
          )
        )
      )
    )) : L_X11_readPiece_125 Y X P x1 x2 x3 x4 x5 x7 x8 x9 iv av := by
  unfold L_X11_readPiece_125
  refine r_iload (pc' := 127) C 8 rfl dX11_readPiece_125 rfl ?_
  refine r_iload_n (pc' := 128) C 3 rfl rfl dX11_readPiece_127 rfl ?_
  refine r_iadd (pc' := 129) C dX11_readPiece_128 rfl ?_
  refine r_iload_n (pc' := 130) C 2 rfl rfl dX11_readPiece_129 rfl ?_
  refine r_aload_n (pc' := 131) C 0 rfl rfl dX11_readPiece_130 rfl ?_
  refine r_getr (pc' := 134) (k := 0) (r := 5) C fl_X11_19 (by decide) kc_0 (by decide) fr_11_1 RV_0_1 dX11_readPiece_131 rfl ?_
  refine c_Vi (pc' := 137) (mt := mX5_log) (as := []) (st := [.int (i32 x2), .int (i32 (x9 + x3))]) (k := 5) C h rfl cl_X5_log ml_X11_199 im_X5_log sl_X5_log (by omega) (Nat.le_refl _) (Nat.le_refl _) rfl (by decide) kc_5 (by decide) rfl rfl rfl (Nat.le_of_ble_eq_true rfl) dX11_readPiece_134 rfl (fun r1 iv2 av3 f4 h => ?_)
  replace h := h f4
  have o5 := h.1
  replace h := h.2
  refine r_ishl (pc' := 138) C o5 dX11_readPiece_137 rfl ?_
  refine r_isub (pc' := 139) C dX11_readPiece_138 rfl ?_
  refine r_istore (pc' := 141) (ls' := [(0, .ref (gl_b Y + 0)), (1, .int (i32 x1)), (2, .int (i32 x2)), (3, .int (i32 x3)), (4, .int (i32 x4)), (5, .int (i32 x5)), (7, .int (i32 x7)), (8, .int (i32 x8)), (9, .int (i32 x9)), (10, .int (i32 ((x9 + x3) - (x2 * 2 ^ r1.toNat))))]) C (by decide) rfl dX11_readPiece_139 rfl ?_
  refine r_iload (pc' := 143) C 8 rfl dX11_readPiece_141 rfl ?_
  refine r_aload_n (pc' := 144) C 0 rfl rfl dX11_readPiece_143 rfl ?_
  refine r_getr (pc' := 147) (k := 0) (r := 5) C fl_X11_19 (by decide) kc_0 (by decide) fr_11_1 RV_0_1 dX11_readPiece_144 rfl ?_
  refine r_iload_n (pc' := 148) C 1 rfl rfl dX11_readPiece_147 rfl ?_
  refine r_iload_n (pc' := 149) C 2 rfl rfl dX11_readPiece_148 rfl ?_
  refine c_Vi (pc' := 152) (mt := mX5_wholeBytes) (as := [.int (i32 x1), .int (i32 x2)]) (st := [.int (i32 x9)]) (k := 5) C h rfl cl_X5_wholeBytes ml_X11_214 im_X5_wholeBytes sl_X5_wholeBytes (by omega) (Nat.le_refl _) (Nat.le_refl _) rfl (by decide) kc_5 (by decide) rfl rfl rfl (Nat.le_of_ble_eq_true rfl) dX11_readPiece_149 rfl (fun r6 iv7 av8 f9 h => ?_)
  replace h := h f9
  refine r_iadd (pc' := 153) C dX11_readPiece_152 rfl ?_
  refine r_istore (pc' := 155) (ls' := [(0, .ref (gl_b Y + 0)), (1, .int (i32 x1)), (2, .int (i32 x2)), (3, .int (i32 x3)), (4, .int (i32 x4)), (5, .int (i32 x5)), (7, .int (i32 x7)), (8, .int (i32 x8)), (9, .int (i32 x9)), (10, .int (i32 ((x9 + x3) - (x2 * 2 ^ r1.toNat)))), (11, .int (i32 (x9 + r6)))]) C (by decide) rfl dX11_readPiece_153 rfl ?_
  refine r_iload (pc' := 157) C 5 rfl dX11_readPiece_155 rfl ?_
  refine r_if_eq (pc' := 160) (tgt := 170) C hx5 dX11_readPiece_157 (by decide) rfl (fun c10 => ?_) (fun c10 => ?_)
  · replace h := h.1 c10
    refine r_iload (pc' := 172) C 10 rfl dX11_readPiece_170 rfl ?_
    refine r_istore (pc' := 174) (ls' := [(0, .ref (gl_b Y + 0)), (1, .int (i32 x1)), (2, .int (i32 x2)), (3, .int (i32 x3)), (4, .int (i32 x4)), (5, .int (i32 x5)), (7, .int (i32 x7)), (8, .int (i32 x8)), (9, .int (i32 x9)), (10, .int (i32 ((x9 + x3) - (x2 * 2 ^ r1.toNat)))), (11, .int (i32 (x9 + r6))), (12, .int (i32 (x9 + r6)))]) C (by decide) rfl dX11_readPiece_172 rfl ?_
    exact Wa.sub [0, 3, 4, 6, 7, 9, 10, 11] rfl h
  · replace h := h.2 c10
    refine r_aload_n (pc' := 161) C 0 rfl rfl dX11_readPiece_160 rfl ?_
    refine r_getr (pc' := 164) (k := 0) (r := 5) C fl_X11_19 (by decide) kc_0 (by decide) fr_11_1 RV_0_1 dX11_readPiece_161 rfl ?_
    refine c_Vi (pc' := 167) (mt := mX5_blockBytes) (as := []) (st := []) (k := 5) C h rfl cl_X5_blockBytes ml_X11_127 im_X5_blockBytes sl_X5_blockBytes (by omega) (Nat.le_refl _) (Nat.le_refl _) rfl (by decide) kc_5 (by decide) rfl rfl rfl (Nat.le_of_ble_eq_true rfl) dX11_readPiece_164 rfl (fun r11 iv12 av13 f14 h => ?_)
    replace h := h f14
    refine r_goto (tgt := 172) C dX11_readPiece_167 (by decide) ?_
    refine r_istore (pc' := 174) (ls' := [(0, .ref (gl_b Y + 0)), (1, .int (i32 x1)), (2, .int (i32 x2)), (3, .int (i32 x3)), (4, .int (i32 x4)), (5, .int (i32 x5)), (7, .int (i32 x7)), (8, .int (i32 x8)), (9, .int (i32 x9)), (10, .int (i32 ((x9 + x3) - (x2 * 2 ^ r1.toNat)))), (11, .int (i32 (x9 + r6))), (12, .int (i32 r11))]) C (by decide) rfl dX11_readPiece_172 rfl ?_
    exact Wa.sub [0, 3, 4, 6, 7, 9, 10, 11] rfl h
set_option maxHeartbeats 4000000 in
set_option maxRecDepth 100000 in
theorem w_X11_readPiece_20 {Y : Gl} {X : Cx} {e : Nat} {P : PN} {x1 : Int} {x2 : Int} {x3 : Int} {x4 : Int} {x5 : Int} {iv av : IVt} (C : CX Y X RX11 "readPiece" cX11_readPiece 14 (some .int) (e + 5) 0 0) (hx1 : InR x1) (hx2 : InR x2) (hx5 : InR x5) (h :
    OkN Y (e + 4) mX5_fact [.ref (gl_b Y + 5), .int (i32 x1), .int (i32 4)] RV iv av 116 (fun r1 iv2 av3 =>
      (InR r1) →
      ((x5 = 0) →
        OkN Y (e + 4) mX5_blockNumber [.ref (gl_b Y + 5), .int (i32 x1), .int (i32 x2)] RV iv2 av3 116 (fun r6 iv7 av8 =>
          (InR r6) →
          ((¬ r6 = 0) →
            ((x5 = 0) →
              OkN Y (e + 4) mX5_blockBegin [.ref (gl_b Y + 5), .int (i32 x1), .int (i32 x2)] RV iv7 av8 116 (fun r12 iv13 av14 =>
                (InR r12) →
                ((x5 = 0) →
                  L_X11_readPiece_125 Y X P x1 x2 x3 x4 x5 r6 r12 0 iv13 av14
                ) ∧
                ((¬ x5 = 0) →
                  OkN Y (e + 4) mX5_fact [.ref (gl_b Y + 5), .int (i32 x1), .int (i32 5)] RV iv13 av14 116 (fun r17 iv18 av19 =>
                    (InR r17) →
                    L_X11_readPiece_125 Y X P x1 x2 x3 x4 x5 r6 r12 r17 iv18 av19
                  )
                )
              )
            ) ∧
            ((¬ x5 = 0) →
              OkN Y (e + 4) mX5_fragmentBegin [.ref (gl_b Y + 5), .int (i32 r1)] RV iv7 av8 116 (fun r21 iv22 av23 =>
                (InR r21) →
                ((x5 = 0) →
                  L_X11_readPiece_125 Y X P x1 x2 x3 x4 x5 r6 r21 0 iv22 av23
                ) ∧
                ((¬ x5 = 0) →
                  OkN Y (e + 4) mX5_fact [.ref (gl_b Y + 5), .int (i32 x1), .int (i32 5)] RV iv22 av23 116 (fun r26 iv27 av28 =>
                    (InR r26) →
                    L_X11_readPiece_125 Y X P x1 x2 x3 x4 x5 r6 r21 r26 iv27 av28
                  )
                )
              )
            )
          ) ∧
          ((r6 = 0) →
            (InR (x4 - x3)) ∧
            OkN Y (e + 4) mX2_addZeros [.ref (gl_b Y + 18), .int (i32 (x4 - x3))] RV iv7 av8 116 (fun r31 iv32 av33 =>
              P 0 iv32 av33
            )
          )
        )
      ) ∧
      ((¬ x5 = 0) →
        OkN Y (e + 4) mX5_fragmentNumber [.ref (gl_b Y + 5), .int (i32 r1)] RV iv2 av3 116 (fun r35 iv36 av37 =>
          (InR r35) →
          ((¬ r35 = 0) →
            ((x5 = 0) →
              OkN Y (e + 4) mX5_blockBegin [.ref (gl_b Y + 5), .int (i32 x1), .int (i32 x2)] RV iv36 av37 116 (fun r41 iv42 av43 =>
                (InR r41) →
                ((x5 = 0) →
                  L_X11_readPiece_125 Y X P x1 x2 x3 x4 x5 r35 r41 0 iv42 av43
                ) ∧
                ((¬ x5 = 0) →
                  OkN Y (e + 4) mX5_fact [.ref (gl_b Y + 5), .int (i32 x1), .int (i32 5)] RV iv42 av43 116 (fun r46 iv47 av48 =>
                    (InR r46) →
                    L_X11_readPiece_125 Y X P x1 x2 x3 x4 x5 r35 r41 r46 iv47 av48
                  )
                )
              )
            ) ∧
            ((¬ x5 = 0) →
              OkN Y (e + 4) mX5_fragmentBegin [.ref (gl_b Y + 5), .int (i32 r1)] RV iv36 av37 116 (fun r50 iv51 av52 =>
                (InR r50) →
                ((x5 = 0) →
                  L_X11_readPiece_125 Y X P x1 x2 x3 x4 x5 r35 r50 0 iv51 av52
                ) ∧
                ((¬ x5 = 0) →
                  OkN Y (e + 4) mX5_fact [.ref (gl_b Y + 5), .int (i32 x1), .int (i32 5)] RV iv51 av52 116 (fun r55 iv56 av57 =>
                    (InR r55) →
                    L_X11_readPiece_125 Y X P x1 x2 x3 x4 x5 r35 r50 r55 iv56 av57
                  )
                )
              )
            )
          ) ∧
          ((r35 = 0) →
            (InR (x4 - x3)) ∧
            OkN Y (e + 4) mX2_addZeros [.ref (gl_b Y + 18), .int (i32 (x4 - x3))] RV iv36 av37 116 (fun r60 iv61 av62 =>
              P 0 iv61 av62
            )
          )
        )
      )
    )) : L_X11_readPiece_20 Y X P x1 x2 x3 x4 x5 iv av := by
  unfold L_X11_readPiece_20
  refine r_aload_n (pc' := 21) C 0 rfl rfl dX11_readPiece_20 rfl ?_
  refine r_getr (pc' := 24) (k := 0) (r := 5) C fl_X11_19 (by decide) kc_0 (by decide) fr_11_1 RV_0_1 dX11_readPiece_21 rfl ?_
  refine r_iload_n (pc' := 25) C 1 rfl rfl dX11_readPiece_24 rfl ?_
  refine r_iconst (pc' := 26) C dX11_readPiece_25 rfl ?_
  refine c_Vi (pc' := 29) (mt := mX5_fact) (as := [.int (i32 x1), .int (i32 4)]) (st := []) (k := 5) C h rfl cl_X5_fact ml_X11_176 im_X5_fact sl_X5_fact (by omega) (Nat.le_refl _) (Nat.le_refl _) rfl (by decide) kc_5 (by decide) rfl rfl rfl (Nat.le_of_ble_eq_true rfl) dX11_readPiece_26 rfl (fun r1 iv2 av3 f4 h => ?_)
  replace h := h f4
  refine r_istore (pc' := 31) (ls' := [(0, .ref (gl_b Y + 0)), (1, .int (i32 x1)), (2, .int (i32 x2)), (3, .int (i32 x3)), (4, .int (i32 x4)), (5, .int (i32 x5)), (6, .int (i32 r1))]) C (by decide) rfl dX11_readPiece_29 rfl ?_
  refine r_iload (pc' := 33) C 5 rfl dX11_readPiece_31 rfl ?_
  refine r_if_eq (pc' := 36) (tgt := 48) C hx5 dX11_readPiece_33 (by decide) rfl (fun c5 => ?_) (fun c5 => ?_)
  · replace h := h.1 c5
    refine r_aload_n (pc' := 49) C 0 rfl rfl dX11_readPiece_48 rfl ?_
    refine r_getr (pc' := 52) (k := 0) (r := 5) C fl_X11_19 (by decide) kc_0 (by decide) fr_11_1 RV_0_1 dX11_readPiece_49 rfl ?_
    refine r_iload_n (pc' := 53) C 1 rfl rfl dX11_readPiece_52 rfl ?_
    refine r_iload_n (pc' := 54) C 2 rfl rfl dX11_readPiece_53 rfl ?_
    refine c_Vi (pc' := 57) (mt := mX5_blockNumber) (as := [.int (i32 x1), .int (i32 x2)]) (st := []) (k := 5) C h rfl cl_X5_blockNumber ml_X11_179 im_X5_blockNumber sl_X5_blockNumber (by omega) (Nat.le_refl _) (Nat.le_refl _) rfl (by decide) kc_5 (by decide) rfl rfl rfl (Nat.le_of_ble_eq_true rfl) dX11_readPiece_54 rfl (fun r6 iv7 av8 f9 h => ?_)
    replace h := h f9
    refine r_istore (pc' := 59) (ls' := [(0, .ref (gl_b Y + 0)), (1, .int (i32 x1)), (2, .int (i32 x2)), (3, .int (i32 x3)), (4, .int (i32 x4)), (5, .int (i32 x5)), (6, .int (i32 r1)), (7, .int (i32 r6))]) C (by decide) rfl dX11_readPiece_57 rfl ?_
    refine r_iload (pc' := 61) C 7 rfl dX11_readPiece_59 rfl ?_
    refine r_if_ne (pc' := 64) (tgt := 77) C f9 dX11_readPiece_61 (by decide) rfl (fun c10 => ?_) (fun c10 => ?_)
    · replace h := h.1 c10
      refine r_iload (pc' := 79) C 5 rfl dX11_readPiece_77 rfl ?_
      refine r_if_eq (pc' := 82) (tgt := 94) C hx5 dX11_readPiece_79 (by decide) rfl (fun c11 => ?_) (fun c11 => ?_)
      · replace h := h.1 c11
        refine r_aload_n (pc' := 95) C 0 rfl rfl dX11_readPiece_94 rfl ?_
        refine r_getr (pc' := 98) (k := 0) (r := 5) C fl_X11_19 (by decide) kc_0 (by decide) fr_11_1 RV_0_1 dX11_readPiece_95 rfl ?_
        refine r_iload_n (pc' := 99) C 1 rfl rfl dX11_readPiece_98 rfl ?_
        refine r_iload_n (pc' := 100) C 2 rfl rfl dX11_readPiece_99 rfl ?_
        refine c_Vi (pc' := 103) (mt := mX5_blockBegin) (as := [.int (i32 x1), .int (i32 x2)]) (st := []) (k := 5) C h rfl cl_X5_blockBegin ml_X11_211 im_X5_blockBegin sl_X5_blockBegin (by omega) (Nat.le_refl _) (Nat.le_refl _) rfl (by decide) kc_5 (by decide) rfl rfl rfl (Nat.le_of_ble_eq_true rfl) dX11_readPiece_100 rfl (fun r12 iv13 av14 f15 h => ?_)
        replace h := h f15
        refine r_istore (pc' := 105) (ls' := [(0, .ref (gl_b Y + 0)), (1, .int (i32 x1)), (2, .int (i32 x2)), (3, .int (i32 x3)), (4, .int (i32 x4)), (5, .int (i32 x5)), (6, .int (i32 r1)), (7, .int (i32 r6)), (8, .int (i32 r12))]) C (by decide) rfl dX11_readPiece_103 rfl ?_
        refine r_iload (pc' := 107) C 5 rfl dX11_readPiece_105 rfl ?_
        refine r_if_eq (pc' := 110) (tgt := 122) C hx5 dX11_readPiece_107 (by decide) rfl (fun c16 => ?_) (fun c16 => ?_)
        · replace h := h.1 c16
          refine r_iconst (pc' := 123) C dX11_readPiece_122 rfl ?_
          refine r_istore (pc' := 125) (ls' := [(0, .ref (gl_b Y + 0)), (1, .int (i32 x1)), (2, .int (i32 x2)), (3, .int (i32 x3)), (4, .int (i32 x4)), (5, .int (i32 x5)), (6, .int (i32 r1)), (7, .int (i32 r6)), (8, .int (i32 r12)), (9, .int (i32 0))]) C (by decide) rfl dX11_readPiece_123 rfl ?_
          exact Wa.sub [0, 1, 2, 3, 4, 5, 7, 8, 9] rfl h
        · replace h := h.2 c16
          refine r_aload_n (pc' := 111) C 0 rfl rfl dX11_readPiece_110 rfl ?_
          refine r_getr (pc' := 114) (k := 0) (r := 5) C fl_X11_19 (by decide) kc_0 (by decide) fr_11_1 RV_0_1 dX11_readPiece_111 rfl ?_
          refine r_iload_n (pc' := 115) C 1 rfl rfl dX11_readPiece_114 rfl ?_
          refine r_iconst (pc' := 116) C dX11_readPiece_115 rfl ?_
          refine c_Vi (pc' := 119) (mt := mX5_fact) (as := [.int (i32 x1), .int (i32 5)]) (st := []) (k := 5) C h rfl cl_X5_fact ml_X11_176 im_X5_fact sl_X5_fact (by omega) (Nat.le_refl _) (Nat.le_refl _) rfl (by decide) kc_5 (by decide) rfl rfl rfl (Nat.le_of_ble_eq_true rfl) dX11_readPiece_116 rfl (fun r17 iv18 av19 f20 h => ?_)
          replace h := h f20
          refine r_goto (tgt := 123) C dX11_readPiece_119 (by decide) ?_
          refine r_istore (pc' := 125) (ls' := [(0, .ref (gl_b Y + 0)), (1, .int (i32 x1)), (2, .int (i32 x2)), (3, .int (i32 x3)), (4, .int (i32 x4)), (5, .int (i32 x5)), (6, .int (i32 r1)), (7, .int (i32 r6)), (8, .int (i32 r12)), (9, .int (i32 r17))]) C (by decide) rfl dX11_readPiece_123 rfl ?_
          exact Wa.sub [0, 1, 2, 3, 4, 5, 7, 8, 9] rfl h
      · replace h := h.2 c11
        refine r_aload_n (pc' := 83) C 0 rfl rfl dX11_readPiece_82 rfl ?_
        refine r_getr (pc' := 86) (k := 0) (r := 5) C fl_X11_19 (by decide) kc_0 (by decide) fr_11_1 RV_0_1 dX11_readPiece_83 rfl ?_
        refine r_iload (pc' := 88) C 6 rfl dX11_readPiece_86 rfl ?_
        refine c_Vi (pc' := 91) (mt := mX5_fragmentBegin) (as := [.int (i32 r1)]) (st := []) (k := 5) C h rfl cl_X5_fragmentBegin ml_X11_185 im_X5_fragmentBegin sl_X5_fragmentBegin (by omega) (Nat.le_refl _) (Nat.le_refl _) rfl (by decide) kc_5 (by decide) rfl rfl rfl (Nat.le_of_ble_eq_true rfl) dX11_readPiece_88 rfl (fun r21 iv22 av23 f24 h => ?_)
        replace h := h f24
        refine r_goto (tgt := 103) C dX11_readPiece_91 (by decide) ?_
        refine r_istore (pc' := 105) (ls' := [(0, .ref (gl_b Y + 0)), (1, .int (i32 x1)), (2, .int (i32 x2)), (3, .int (i32 x3)), (4, .int (i32 x4)), (5, .int (i32 x5)), (6, .int (i32 r1)), (7, .int (i32 r6)), (8, .int (i32 r21))]) C (by decide) rfl dX11_readPiece_103 rfl ?_
        refine r_iload (pc' := 107) C 5 rfl dX11_readPiece_105 rfl ?_
        refine r_if_eq (pc' := 110) (tgt := 122) C hx5 dX11_readPiece_107 (by decide) rfl (fun c25 => ?_) (fun c25 => ?_)
        · replace h := h.1 c25
          refine r_iconst (pc' := 123) C dX11_readPiece_122 rfl ?_
          refine r_istore (pc' := 125) (ls' := [(0, .ref (gl_b Y + 0)), (1, .int (i32 x1)), (2, .int (i32 x2)), (3, .int (i32 x3)), (4, .int (i32 x4)), (5, .int (i32 x5)), (6, .int (i32 r1)), (7, .int (i32 r6)), (8, .int (i32 r21)), (9, .int (i32 0))]) C (by decide) rfl dX11_readPiece_123 rfl ?_
          exact Wa.sub [0, 1, 2, 3, 4, 5, 7, 8, 9] rfl h
        · replace h := h.2 c25
          refine r_aload_n (pc' := 111) C 0 rfl rfl dX11_readPiece_110 rfl ?_
          refine r_getr (pc' := 114) (k := 0) (r := 5) C fl_X11_19 (by decide) kc_0 (by decide) fr_11_1 RV_0_1 dX11_readPiece_111 rfl ?_
          refine r_iload_n (pc' := 115) C 1 rfl rfl dX11_readPiece_114 rfl ?_
          refine r_iconst (pc' := 116) C dX11_readPiece_115 rfl ?_
          refine c_Vi (pc' := 119) (mt := mX5_fact) (as := [.int (i32 x1), .int (i32 5)]) (st := []) (k := 5) C h rfl cl_X5_fact ml_X11_176 im_X5_fact sl_X5_fact (by omega) (Nat.le_refl _) (Nat.le_refl _) rfl (by decide) kc_5 (by decide) rfl rfl rfl (Nat.le_of_ble_eq_true rfl) dX11_readPiece_116 rfl (fun r26 iv27 av28 f29 h => ?_)
          replace h := h f29
          refine r_goto (tgt := 123) C dX11_readPiece_119 (by decide) ?_
          refine r_istore (pc' := 125) (ls' := [(0, .ref (gl_b Y + 0)), (1, .int (i32 x1)), (2, .int (i32 x2)), (3, .int (i32 x3)), (4, .int (i32 x4)), (5, .int (i32 x5)), (6, .int (i32 r1)), (7, .int (i32 r6)), (8, .int (i32 r21)), (9, .int (i32 r26))]) C (by decide) rfl dX11_readPiece_123 rfl ?_
          exact Wa.sub [0, 1, 2, 3, 4, 5, 7, 8, 9] rfl h
    · replace h := h.2 c10
      refine r_aload_n (pc' := 65) C 0 rfl rfl dX11_readPiece_64 rfl ?_
      refine r_getr (pc' := 68) (k := 0) (r := 18) C fl_X11_43 (by decide) kc_0 (by decide) fr_11_6 RV_0_6 dX11_readPiece_65 rfl ?_
      refine r_iload (pc' := 70) C 4 rfl dX11_readPiece_68 rfl ?_
      refine r_iload_n (pc' := 71) C 3 rfl rfl dX11_readPiece_70 rfl ?_
      refine r_isub (pc' := 72) C dX11_readPiece_71 rfl ?_
      have o30 := h.1
      replace h := h.2
      refine c_Vv (pc' := 75) (mt := mX2_addZeros) (as := [.int (i32 (x4 - x3))]) (st := []) (k := 18) C h rfl cl_X2_addZeros ml_X11_209 im_X2_addZeros sl_X2_addZeros (by omega) (Nat.le_refl _) (Nat.le_refl _) rfl (by decide) kc_18 (by decide) rfl rfl rfl (Nat.le_of_ble_eq_true rfl) dX11_readPiece_72 rfl (fun r31 iv32 av33 h => ?_)
      refine r_iconst (pc' := 76) C dX11_readPiece_75 rfl ?_
      exact r_iret C (by decide) ⟨rfl, rfl, h⟩ dX11_readPiece_76
  · replace h := h.2 c5
    refine r_aload_n (pc' := 37) C 0 rfl rfl dX11_readPiece_36 rfl ?_
    refine r_getr (pc' := 40) (k := 0) (r := 5) C fl_X11_19 (by decide) kc_0 (by decide) fr_11_1 RV_0_1 dX11_readPiece_37 rfl ?_
    refine r_iload (pc' := 42) C 6 rfl dX11_readPiece_40 rfl ?_
    refine c_Vi (pc' := 45) (mt := mX5_fragmentNumber) (as := [.int (i32 r1)]) (st := []) (k := 5) C h rfl cl_X5_fragmentNumber ml_X11_188 im_X5_fragmentNumber sl_X5_fragmentNumber (by omega) (Nat.le_refl _) (Nat.le_refl _) rfl (by decide) kc_5 (by decide) rfl rfl rfl (Nat.le_of_ble_eq_true rfl) dX11_readPiece_42 rfl (fun r35 iv36 av37 f38 h => ?_)
    replace h := h f38
    refine r_goto (tgt := 57) C dX11_readPiece_45 (by decide) ?_
    refine r_istore (pc' := 59) (ls' := [(0, .ref (gl_b Y + 0)), (1, .int (i32 x1)), (2, .int (i32 x2)), (3, .int (i32 x3)), (4, .int (i32 x4)), (5, .int (i32 x5)), (6, .int (i32 r1)), (7, .int (i32 r35))]) C (by decide) rfl dX11_readPiece_57 rfl ?_
    refine r_iload (pc' := 61) C 7 rfl dX11_readPiece_59 rfl ?_
    refine r_if_ne (pc' := 64) (tgt := 77) C f38 dX11_readPiece_61 (by decide) rfl (fun c39 => ?_) (fun c39 => ?_)
    · replace h := h.1 c39
      refine r_iload (pc' := 79) C 5 rfl dX11_readPiece_77 rfl ?_
      refine r_if_eq (pc' := 82) (tgt := 94) C hx5 dX11_readPiece_79 (by decide) rfl (fun c40 => ?_) (fun c40 => ?_)
      · replace h := h.1 c40
        refine r_aload_n (pc' := 95) C 0 rfl rfl dX11_readPiece_94 rfl ?_
        refine r_getr (pc' := 98) (k := 0) (r := 5) C fl_X11_19 (by decide) kc_0 (by decide) fr_11_1 RV_0_1 dX11_readPiece_95 rfl ?_
        refine r_iload_n (pc' := 99) C 1 rfl rfl dX11_readPiece_98 rfl ?_
        refine r_iload_n (pc' := 100) C 2 rfl rfl dX11_readPiece_99 rfl ?_
        refine c_Vi (pc' := 103) (mt := mX5_blockBegin) (as := [.int (i32 x1), .int (i32 x2)]) (st := []) (k := 5) C h rfl cl_X5_blockBegin ml_X11_211 im_X5_blockBegin sl_X5_blockBegin (by omega) (Nat.le_refl _) (Nat.le_refl _) rfl (by decide) kc_5 (by decide) rfl rfl rfl (Nat.le_of_ble_eq_true rfl) dX11_readPiece_100 rfl (fun r41 iv42 av43 f44 h => ?_)
        replace h := h f44
        refine r_istore (pc' := 105) (ls' := [(0, .ref (gl_b Y + 0)), (1, .int (i32 x1)), (2, .int (i32 x2)), (3, .int (i32 x3)), (4, .int (i32 x4)), (5, .int (i32 x5)), (6, .int (i32 r1)), (7, .int (i32 r35)), (8, .int (i32 r41))]) C (by decide) rfl dX11_readPiece_103 rfl ?_
        refine r_iload (pc' := 107) C 5 rfl dX11_readPiece_105 rfl ?_
        refine r_if_eq (pc' := 110) (tgt := 122) C hx5 dX11_readPiece_107 (by decide) rfl (fun c45 => ?_) (fun c45 => ?_)
        · replace h := h.1 c45
          refine r_iconst (pc' := 123) C dX11_readPiece_122 rfl ?_
          refine r_istore (pc' := 125) (ls' := [(0, .ref (gl_b Y + 0)), (1, .int (i32 x1)), (2, .int (i32 x2)), (3, .int (i32 x3)), (4, .int (i32 x4)), (5, .int (i32 x5)), (6, .int (i32 r1)), (7, .int (i32 r35)), (8, .int (i32 r41)), (9, .int (i32 0))]) C (by decide) rfl dX11_readPiece_123 rfl ?_
          exact Wa.sub [0, 1, 2, 3, 4, 5, 7, 8, 9] rfl h
        · replace h := h.2 c45
          refine r_aload_n (pc' := 111) C 0 rfl rfl dX11_readPiece_110 rfl ?_
          refine r_getr (pc' := 114) (k := 0) (r := 5) C fl_X11_19 (by decide) kc_0 (by decide) fr_11_1 RV_0_1 dX11_readPiece_111 rfl ?_
          refine r_iload_n (pc' := 115) C 1 rfl rfl dX11_readPiece_114 rfl ?_
          refine r_iconst (pc' := 116) C dX11_readPiece_115 rfl ?_
          refine c_Vi (pc' := 119) (mt := mX5_fact) (as := [.int (i32 x1), .int (i32 5)]) (st := []) (k := 5) C h rfl cl_X5_fact ml_X11_176 im_X5_fact sl_X5_fact (by omega) (Nat.le_refl _) (Nat.le_refl _) rfl (by decide) kc_5 (by decide) rfl rfl rfl (Nat.le_of_ble_eq_true rfl) dX11_readPiece_116 rfl (fun r46 iv47 av48 f49 h => ?_)
          replace h := h f49
          refine r_goto (tgt := 123) C dX11_readPiece_119 (by decide) ?_
          refine r_istore (pc' := 125) (ls' := [(0, .ref (gl_b Y + 0)), (1, .int (i32 x1)), (2, .int (i32 x2)), (3, .int (i32 x3)), (4, .int (i32 x4)), (5, .int (i32 x5)), (6, .int (i32 r1)), (7, .int (i32 r35)), (8, .int (i32 r41)), (9, .int (i32 r46))]) C (by decide) rfl dX11_readPiece_123 rfl ?_
          exact Wa.sub [0, 1, 2, 3, 4, 5, 7, 8, 9] rfl h
      · replace h := h.2 c40
        refine r_aload_n (pc' := 83) C 0 rfl rfl dX11_readPiece_82 rfl ?_
        refine r_getr (pc' := 86) (k := 0) (r := 5) C fl_X11_19 (by decide) kc_0 (by decide) fr_11_1 RV_0_1 dX11_readPiece_83 rfl ?_
        refine r_iload (pc' := 88) C 6 rfl dX11_readPiece_86 rfl ?_
        refine c_Vi (pc' := 91) (mt := mX5_fragmentBegin) (as := [.int (i32 r1)]) (st := []) (k := 5) C h rfl cl_X5_fragmentBegin ml_X11_185 im_X5_fragmentBegin sl_X5_fragmentBegin (by omega) (Nat.le_refl _) (Nat.le_refl _) rfl (by decide) kc_5 (by decide) rfl rfl rfl (Nat.le_of_ble_eq_true rfl) dX11_readPiece_88 rfl (fun r50 iv51 av52 f53 h => ?_)
        replace h := h f53
        refine r_goto (tgt := 103) C dX11_readPiece_91 (by decide) ?_
        refine r_istore (pc' := 105) (ls' := [(0, .ref (gl_b Y + 0)), (1, .int (i32 x1)), (2, .int (i32 x2)), (3, .int (i32 x3)), (4, .int (i32 x4)), (5, .int (i32 x5)), (6, .int (i32 r1)), (7, .int (i32 r35)), (8, .int (i32 r50))]) C (by decide) rfl dX11_readPiece_103 rfl ?_
        refine r_iload (pc' := 107) C 5 rfl dX11_readPiece_105 rfl ?_
        refine r_if_eq (pc' := 110) (tgt := 122) C hx5 dX11_readPiece_107 (by decide) rfl (fun c54 => ?_) (fun c54 => ?_)
        · replace h := h.1 c54
          refine r_iconst (pc' := 123) C dX11_readPiece_122 rfl ?_
          refine r_istore (pc' := 125) (ls' := [(0, .ref (gl_b Y + 0)), (1, .int (i32 x1)), (2, .int (i32 x2)), (3, .int (i32 x3)), (4, .int (i32 x4)), (5, .int (i32 x5)), (6, .int (i32 r1)), (7, .int (i32 r35)), (8, .int (i32 r50)), (9, .int (i32 0))]) C (by decide) rfl dX11_readPiece_123 rfl ?_
          exact Wa.sub [0, 1, 2, 3, 4, 5, 7, 8, 9] rfl h
        · replace h := h.2 c54
          refine r_aload_n (pc' := 111) C 0 rfl rfl dX11_readPiece_110 rfl ?_
          refine r_getr (pc' := 114) (k := 0) (r := 5) C fl_X11_19 (by decide) kc_0 (by decide) fr_11_1 RV_0_1 dX11_readPiece_111 rfl ?_
          refine r_iload_n (pc' := 115) C 1 rfl rfl dX11_readPiece_114 rfl ?_
          refine r_iconst (pc' := 116) C dX11_readPiece_115 rfl ?_
          refine c_Vi (pc' := 119) (mt := mX5_fact) (as := [.int (i32 x1), .int (i32 5)]) (st := []) (k := 5) C h rfl cl_X5_fact ml_X11_176 im_X5_fact sl_X5_fact (by omega) (Nat.le_refl _) (Nat.le_refl _) rfl (by decide) kc_5 (by decide) rfl rfl rfl (Nat.le_of_ble_eq_true rfl) dX11_readPiece_116 rfl (fun r55 iv56 av57 f58 h => ?_)
          replace h := h f58
          refine r_goto (tgt := 123) C dX11_readPiece_119 (by decide) ?_
          refine r_istore (pc' := 125) (ls' := [(0, .ref (gl_b Y + 0)), (1, .int (i32 x1)), (2, .int (i32 x2)), (3, .int (i32 x3)), (4, .int (i32 x4)), (5, .int (i32 x5)), (6, .int (i32 r1)), (7, .int (i32 r35)), (8, .int (i32 r50)), (9, .int (i32 r55))]) C (by decide) rfl dX11_readPiece_123 rfl ?_
          exact Wa.sub [0, 1, 2, 3, 4, 5, 7, 8, 9] rfl h
    · replace h := h.2 c39
      refine r_aload_n (pc' := 65) C 0 rfl rfl dX11_readPiece_64 rfl ?_
      refine r_getr (pc' := 68) (k := 0) (r := 18) C fl_X11_43 (by decide) kc_0 (by decide) fr_11_6 RV_0_6 dX11_readPiece_65 rfl ?_
      refine r_iload (pc' := 70) C 4 rfl dX11_readPiece_68 rfl ?_
      refine r_iload_n (pc' := 71) C 3 rfl rfl dX11_readPiece_70 rfl ?_
      refine r_isub (pc' := 72) C dX11_readPiece_71 rfl ?_
      have o59 := h.1
      replace h := h.2
      refine c_Vv (pc' := 75) (mt := mX2_addZeros) (as := [.int (i32 (x4 - x3))]) (st := []) (k := 18) C h rfl cl_X2_addZeros ml_X11_209 im_X2_addZeros sl_X2_addZeros (by omega) (Nat.le_refl _) (Nat.le_refl _) rfl (by decide) kc_18 (by decide) rfl rfl rfl (Nat.le_of_ble_eq_true rfl) dX11_readPiece_72 rfl (fun r60 iv61 av62 h => ?_)
      refine r_iconst (pc' := 76) C dX11_readPiece_75 rfl ?_
      exact r_iret C (by decide) ⟨rfl, rfl, h⟩ dX11_readPiece_76
set_option maxHeartbeats 4000000 in
set_option maxRecDepth 100000 in
theorem o_X11_readPiece {Y : Gl} {e : Nat} {P : PN} {x1 : Int} {x2 : Int} {x3 : Int} {x4 : Int} {iv av : IVt} (hx1 : InR x1) (hx2 : InR x2) (h : ∀ X : Cx, CX Y X RX11 "readPiece" cX11_readPiece 14 (some .int) (e + 5) 0 0 →
    OkN Y (e + 4) mX5_fact [.ref (gl_b Y + 5), .int (i32 x1), .int (i32 3)] RV iv av 116 (fun r1 iv2 av3 =>
      (InR r1) →
      ((x2 < r1) →
        L_X11_readPiece_20 Y X P x1 x2 x3 x4 0 iv2 av3
      ) ∧
      ((¬ x2 < r1) →
        L_X11_readPiece_20 Y X P x1 x2 x3 x4 1 iv2 av3
      )
    )) : OkN Y (e + 5) mX11_readPiece [.ref (gl_b Y + 0), .int (i32 x1), .int (i32 x2), .int (i32 x3), .int (i32 x4)] RV iv av 116 P := by
  refine OkW.of rfl (by show _ ≤ 14; exact Nat.le_of_ble_eq_true rfl) fun X C0 hR => ?_
  have C : CX Y X RX11 "readPiece" cX11_readPiece 14 (some .int) (e + 5) 0 0 := C0
  replace h := h X C
  show Wa Y X 14 (g_MQ Y X 1 (g_N RV 116 P) 0 0) 0 0 0 [(0, .ref (gl_b Y + 0)), (1, .int (i32 x1)), (2, .int (i32 x2)), (3, .int (i32 x3)), (4, .int (i32 x4))] [] RV iv av 116
  refine r_iload_n (pc' := 1) C 2 rfl rfl dX11_readPiece_0 rfl ?_
  refine r_aload_n (pc' := 2) C 0 rfl rfl dX11_readPiece_1 rfl ?_
  refine r_getr (pc' := 5) (k := 0) (r := 5) C fl_X11_19 (by decide) kc_0 (by decide) fr_11_1 RV_0_1 dX11_readPiece_2 rfl ?_
  refine r_iload_n (pc' := 6) C 1 rfl rfl dX11_readPiece_5 rfl ?_
  refine r_iconst (pc' := 7) C dX11_readPiece_6 rfl ?_
  refine c_Vi (pc' := 10) (mt := mX5_fact) (as := [.int (i32 x1), .int (i32 3)]) (st := [.int (i32 x2)]) (k := 5) C h rfl cl_X5_fact ml_X11_176 im_X5_fact sl_X5_fact (by omega) (Nat.le_refl _) (Nat.le_refl _) rfl (by decide) kc_5 (by decide) rfl rfl rfl (Nat.le_of_ble_eq_true rfl) dX11_readPiece_7 rfl (fun r1 iv2 av3 f4 h => ?_)
  replace h := h f4
  refine r_icmp_lt (pc' := 13) (tgt := 17) C hx2 f4 dX11_readPiece_10 (by decide) rfl (fun c5 => ?_) (fun c5 => ?_)
  · replace h := h.1 c5
    refine r_iconst (pc' := 18) C dX11_readPiece_17 rfl ?_
    refine r_istore (pc' := 20) (ls' := [(0, .ref (gl_b Y + 0)), (1, .int (i32 x1)), (2, .int (i32 x2)), (3, .int (i32 x3)), (4, .int (i32 x4)), (5, .int (i32 0))]) C (by decide) rfl dX11_readPiece_18 rfl ?_
    exact Wa.sub [0, 1, 2, 3, 4, 5] rfl h
  · replace h := h.2 c5
    refine r_iconst (pc' := 14) C dX11_readPiece_13 rfl ?_
    refine r_goto (tgt := 18) C dX11_readPiece_14 (by decide) ?_
    refine r_istore (pc' := 20) (ls' := [(0, .ref (gl_b Y + 0)), (1, .int (i32 x1)), (2, .int (i32 x2)), (3, .int (i32 x3)), (4, .int (i32 x4)), (5, .int (i32 1))]) C (by decide) rfl dX11_readPiece_18 rfl ?_
    exact Wa.sub [0, 1, 2, 3, 4, 5] rfl h
set_option maxHeartbeats 4000000 in
set_option maxRecDepth 100000 in
theorem o_X11_out {Y : Gl} {e : Nat} {P : PN} {x1 : Int} {iv av : IVt} (hx1 : InR x1) (h : 
    OkN Y (e + 1) mX2_eightFrom [.ref (gl_b Y + 20), .int (i32 x1)] RV iv av 116 (fun r1 iv2 av3 =>
      (InL r1) →
      P r1 iv2 av3
    )) : OkN Y (e + 2) mX11_out [.ref (gl_b Y + 0), .int (i32 x1)] RV iv av 116 P := by
  refine OkW.of rfl (by show _ ≤ 2; exact Nat.le_of_ble_eq_true rfl) fun X C0 hR => ?_
  have C : CX Y X RX11 "out" cX11_out 2 (some .long) (e + 2) 0 0 := C0
  show Wa Y X 2 (g_MQ Y X 2 (g_N RV 116 P) 0 0) 0 0 0 [(0, .ref (gl_b Y + 0)), (1, .int (i32 x1))] [] RV iv av 116
  refine r_aload_n (pc' := 1) C 0 rfl rfl dX11_out_0 rfl ?_
  refine r_getr (pc' := 4) (k := 0) (r := 20) C fl_X11_46 (by decide) kc_0 (by decide) fr_11_7 RV_0_7 dX11_out_1 rfl ?_
  refine r_iload_n (pc' := 5) C 1 rfl rfl dX11_out_4 rfl ?_
  refine c_Vl (pc' := 8) (mt := mX2_eightFrom) (as := [.int (i32 x1)]) (st := []) (k := 20) C h rfl cl_X2_eightFrom ml_X11_191 im_X2_eightFrom sl_X2_eightFrom (by omega) (Nat.le_refl _) (Nat.le_refl _) rfl (by decide) kc_20 (by decide) rfl rfl rfl (Nat.le_of_ble_eq_true rfl) dX11_out_5 rfl (fun r1 iv2 av3 f4 h => ?_)
  replace h := h f4
  exact r_lret C f4 ⟨rfl, rfl, h⟩ dX11_out_8
set_option maxHeartbeats 4000000 in
set_option maxRecDepth 100000 in
theorem o_X11_taken {Y : Gl} {e : Nat} {P : PN} {iv av : IVt} (h : 
    ((InR (iv 0 10)) →
      P (iv 0 10) iv av
    )) : OkN Y e mX11_taken [.ref (gl_b Y + 0)] RV iv av 116 P := by
  refine OkW.of rfl (by show _ ≤ 1; exact Nat.le_of_ble_eq_true rfl) fun X C0 hR => ?_
  have C : CX Y X RX11 "taken" cX11_taken 1 (some .int) e 0 0 := C0
  show Wa Y X 1 (g_MQ Y X 1 (g_N RV 116 P) 0 0) 0 0 0 [(0, .ref (gl_b Y + 0))] [] RV iv av 116
  refine r_aload_n (pc' := 1) C 0 rfl rfl dX11_taken_0 rfl ?_
  refine r_geti (pc' := 4) (k := 0) C fl_X11_67 (by decide) kc_0 (by decide) fr_11_10 dX11_taken_1 rfl (fun f1 => ?_)
  replace h := h f1
  exact r_iret C f1 ⟨rfl, rfl, h⟩ dX11_taken_4
set_option maxHeartbeats 4000000 in
set_option maxRecDepth 100000 in
theorem o_X11_isFile {Y : Gl} {e : Nat} {P : PN} {x0 : Int} {iv av : IVt} (hx0 : InR x0) (h : 
    ((x0 < 0) →
      P 0 iv av
    ) ∧
    ((¬ x0 < 0) →
      ((64 ≤ x0) →
        P 0 iv av
      ) ∧
      ((¬ 64 ≤ x0) →
        P 1 iv av
      )
    )) : OkN Y e mX11_isFile [.int (i32 x0)] RV iv av 116 P := by
  refine OkW.of rfl (by show _ ≤ 1; exact Nat.le_of_ble_eq_true rfl) fun X C0 hR => ?_
  have C : CX Y X RX11 "isFile" cX11_isFile 1 (some .boolean) e 0 0 := C0
  show Wa Y X 1 (g_MQ Y X 1 (g_N RV 116 P) 0 0) 0 0 0 [(0, .int (i32 x0))] [] RV iv av 116
  refine r_iload_n (pc' := 1) C 0 rfl rfl dX11_isFile_0 rfl ?_
  refine r_if_lt (pc' := 4) (tgt := 14) C hx0 dX11_isFile_1 (by decide) rfl (fun c1 => ?_) (fun c1 => ?_)
  · replace h := h.1 c1
    refine r_iconst (pc' := 15) C dX11_isFile_14 rfl ?_
    exact r_zret C (by decide) ⟨rfl, rfl, h⟩ dX11_isFile_15
  · replace h := h.2 c1
    refine r_iload_n (pc' := 5) C 0 rfl rfl dX11_isFile_4 rfl ?_
    refine r_bipush (pc' := 7) C dX11_isFile_5 (by decide) rfl ?_
    refine r_icmp_ge (pc' := 10) (tgt := 14) C hx0 (by decide) dX11_isFile_7 (by decide) rfl (fun c2 => ?_) (fun c2 => ?_)
    · replace h := h.1 c2
      refine r_iconst (pc' := 15) C dX11_isFile_14 rfl ?_
      exact r_zret C (by decide) ⟨rfl, rfl, h⟩ dX11_isFile_15
    · replace h := h.2 c2
      refine r_iconst (pc' := 11) C dX11_isFile_10 rfl ?_
      refine r_goto (tgt := 15) C dX11_isFile_11 (by decide) ?_
      exact r_zret C (by decide) ⟨rfl, rfl, h⟩ dX11_isFile_15
set_option maxHeartbeats 4000000 in
set_option maxRecDepth 100000 in
theorem o_X11_ordered {Y : Gl} {e : Nat} {P : PN} {x0 : Int} {iv av : IVt} (hx0 : InR x0) (h : 
    ((x0 < 0) →
      P 0 iv av
    ) ∧
    ((¬ x0 < 0) →
      ((19 ≤ x0) →
        P 0 iv av
      ) ∧
      ((¬ 19 ≤ x0) →
        (0 ≤ x0 ∧ x0 < 19) ∧
        P (g_ordL.getD x0.toNat 0) iv av
      )
    )) : OkN Y e mX11_ordered [.int (i32 x0)] RV iv av 116 P := by
  refine OkW.of rfl (by show _ ≤ 1; exact Nat.le_of_ble_eq_true rfl) fun X C0 hR => ?_
  have C : CX Y X RX11 "ordered" cX11_ordered 1 (some .int) e 0 0 := C0
  show Wa Y X 1 (g_MQ Y X 1 (g_N RV 116 P) 0 0) 0 0 0 [(0, .int (i32 x0))] [] RV iv av 116
  refine r_iload_n (pc' := 1) C 0 rfl rfl dX11_ordered_0 rfl ?_
  refine r_if_lt (pc' := 4) (tgt := 20) C hx0 dX11_ordered_1 (by decide) rfl (fun c1 => ?_) (fun c1 => ?_)
  · replace h := h.1 c1
    refine r_iconst (pc' := 21) C dX11_ordered_20 rfl ?_
    exact r_iret C (by decide) ⟨rfl, rfl, h⟩ dX11_ordered_21
  · replace h := h.2 c1
    refine r_iload_n (pc' := 5) C 0 rfl rfl dX11_ordered_4 rfl ?_
    refine r_getst (pc' := 8) C gs_X11_222 dX11_ordered_5 rfl ?_
    refine r_tlen (pc' := 9) C dX11_ordered_8 rfl ?_
    refine r_icmp_ge (pc' := 12) (tgt := 20) C hx0 (by decide) dX11_ordered_9 (by decide) rfl (fun c2 => ?_) (fun c2 => ?_)
    · replace h := h.1 c2
      refine r_iconst (pc' := 21) C dX11_ordered_20 rfl ?_
      exact r_iret C (by decide) ⟨rfl, rfl, h⟩ dX11_ordered_21
    · replace h := h.2 c2
      refine r_getst (pc' := 15) C gs_X11_222 dX11_ordered_12 rfl ?_
      refine r_iload_n (pc' := 16) C 0 rfl rfl dX11_ordered_15 rfl ?_
      have o3 := h.1
      replace h := h.2
      refine r_tld (pc' := 17) C o3 dX11_ordered_16 rfl ?_
      refine r_goto (tgt := 21) C dX11_ordered_17 (by decide) ?_
      exact r_iret C (g_ord_in _) ⟨rfl, rfl, h⟩ dX11_ordered_21
set_option maxHeartbeats 4000000 in
set_option maxRecDepth 100000 in
theorem o_X11_sizeBits {Y : Gl} {e : Nat} {P : PN} {x0 : Int} {iv av : IVt} (hx0 : InR x0) (h : 
    ((16 ≤ x0) →
      ((¬ x0 = 16) →
        ((¬ x0 = 17) →
          P 7 iv av
        ) ∧
        ((x0 = 17) →
          P 3 iv av
        )
      ) ∧
      ((x0 = 16) →
        P 2 iv av
      )
    ) ∧
    ((¬ 16 ≤ x0) →
      P 0 iv av
    )) : OkN Y e mX11_sizeBits [.int (i32 x0)] RV iv av 116 P := by
  refine OkW.of rfl (by show _ ≤ 1; exact Nat.le_of_ble_eq_true rfl) fun X C0 hR => ?_
  have C : CX Y X RX11 "sizeBits" cX11_sizeBits 1 (some .int) e 0 0 := C0
  show Wa Y X 1 (g_MQ Y X 1 (g_N RV 116 P) 0 0) 0 0 0 [(0, .int (i32 x0))] [] RV iv av 116
  refine r_iload_n (pc' := 1) C 0 rfl rfl dX11_sizeBits_0 rfl ?_
  refine r_bipush (pc' := 3) C dX11_sizeBits_1 (by decide) rfl ?_
  refine r_icmp_ge (pc' := 6) (tgt := 8) C hx0 (by decide) dX11_sizeBits_3 (by decide) rfl (fun c1 => ?_) (fun c1 => ?_)
  · replace h := h.1 c1
    refine r_iload_n (pc' := 9) C 0 rfl rfl dX11_sizeBits_8 rfl ?_
    refine r_bipush (pc' := 11) C dX11_sizeBits_9 (by decide) rfl ?_
    refine r_icmp_ne (pc' := 14) (tgt := 18) C hx0 (by decide) dX11_sizeBits_11 (by decide) rfl (fun c2 => ?_) (fun c2 => ?_)
    · replace h := h.1 c2
      refine r_iload_n (pc' := 19) C 0 rfl rfl dX11_sizeBits_18 rfl ?_
      refine r_bipush (pc' := 21) C dX11_sizeBits_19 (by decide) rfl ?_
      refine r_icmp_ne (pc' := 24) (tgt := 28) C hx0 (by decide) dX11_sizeBits_21 (by decide) rfl (fun c3 => ?_) (fun c3 => ?_)
      · replace h := h.1 c3
        refine r_bipush (pc' := 30) C dX11_sizeBits_28 (by decide) rfl ?_
        exact r_iret C (by decide) ⟨rfl, rfl, h⟩ dX11_sizeBits_30
      · replace h := h.2 c3
        refine r_iconst (pc' := 25) C dX11_sizeBits_24 rfl ?_
        refine r_goto (tgt := 30) C dX11_sizeBits_25 (by decide) ?_
        exact r_iret C (by decide) ⟨rfl, rfl, h⟩ dX11_sizeBits_30
    · replace h := h.2 c2
      refine r_iconst (pc' := 15) C dX11_sizeBits_14 rfl ?_
      refine r_goto (tgt := 30) C dX11_sizeBits_15 (by decide) ?_
      exact r_iret C (by decide) ⟨rfl, rfl, h⟩ dX11_sizeBits_30
  · replace h := h.2 c1
    refine r_iconst (pc' := 7) C dX11_sizeBits_6 rfl ?_
    exact r_iret C (by decide) ⟨rfl, rfl, h⟩ dX11_sizeBits_7
def L_X11_halvings_2 (Y : Gl) (X : Cx) (P : PN) (x0 : Int) (x1 : Int) (x2 : Int) (iv av : IVt) : Prop := Wa Y X 3 (g_MQ Y X 1 (g_N RV 116 P) 0 0) 0 0 2 [(0, .int (i32 x0)), (1, .int (i32 x1)), (2, .int (i32 x2))] [] RV iv av 116
set_option maxHeartbeats 4000000 in
set_option maxRecDepth 100000 in
theorem w_X11_halvings_2 {Y : Gl} {X : Cx} {e : Nat} {P : PN} {x0 : Int} {x1 : Int} {x2 : Int} {iv av : IVt} (C : CX Y X RX11 "halvings" cX11_halvings 3 (some .int) e 0 0) (hx0 : InR x0) (hx1 : InR x1) (hx2 : InR x2) (h :
    ((31 ≤ x2) →
      P x2 iv av
    ) ∧
    ((¬ 31 ≤ x2) →
      (0 ≤ x2 ∧ x2 ≤ 31) ∧
      (InR (x0 / 2 ^ x2.toNat)) ∧
      (((x0 / 2 ^ x2.toNat) < x1) →
        P x2 iv av
      ) ∧
      ((¬ (x0 / 2 ^ x2.toNat) < x1) →
        L_X11_halvings_2 Y X P x0 x1 (x2 + 1) iv av
      )
    )) : L_X11_halvings_2 Y X P x0 x1 x2 iv av := by
  unfold L_X11_halvings_2
  refine r_iload_n (pc' := 3) C 2 rfl rfl dX11_halvings_2 rfl ?_
  refine r_bipush (pc' := 5) C dX11_halvings_3 (by decide) rfl ?_
  refine r_icmp_ge (pc' := 8) (tgt := 21) C hx2 (by decide) dX11_halvings_5 (by decide) rfl (fun c1 => ?_) (fun c1 => ?_)
  · replace h := h.1 c1
    refine r_iload_n (pc' := 22) C 2 rfl rfl dX11_halvings_21 rfl ?_
    exact r_iret C hx2 ⟨rfl, rfl, h⟩ dX11_halvings_22
  · replace h := h.2 c1
    refine r_iload_n (pc' := 9) C 0 rfl rfl dX11_halvings_8 rfl ?_
    refine r_iload_n (pc' := 10) C 2 rfl rfl dX11_halvings_9 rfl ?_
    have o2 := h.1
    replace h := h.2
    refine r_ishr (pc' := 11) C hx0 o2 dX11_halvings_10 rfl ?_
    refine r_iload_n (pc' := 12) C 1 rfl rfl dX11_halvings_11 rfl ?_
    have o3 := h.1
    replace h := h.2
    refine r_icmp_lt (pc' := 15) (tgt := 21) C o3 hx1 dX11_halvings_12 (by decide) rfl (fun c4 => ?_) (fun c4 => ?_)
    · replace h := h.1 c4
      refine r_iload_n (pc' := 22) C 2 rfl rfl dX11_halvings_21 rfl ?_
      exact r_iret C hx2 ⟨rfl, rfl, h⟩ dX11_halvings_22
    · replace h := h.2 c4
      refine r_iinc (pc' := 18) (ls' := [(0, .int (i32 x0)), (1, .int (i32 x1)), (2, .int (i32 (x2 + 1)))]) C 2 rfl (by decide) rfl dX11_halvings_15 rfl ?_
      refine r_goto (tgt := 2) C dX11_halvings_18 (by decide) ?_
      exact Wa.sub [0, 1, 2] rfl h
set_option maxHeartbeats 4000000 in
set_option maxRecDepth 100000 in
theorem o_X11_halvings {Y : Gl} {e : Nat} {P : PN} {x0 : Int} {x1 : Int} {iv av : IVt} (h : ∀ X : Cx, CX Y X RX11 "halvings" cX11_halvings 3 (some .int) e 0 0 →
    L_X11_halvings_2 Y X P x0 x1 0 iv av) : OkN Y e mX11_halvings [.int (i32 x0), .int (i32 x1)] RV iv av 116 P := by
  refine OkW.of rfl (by show _ ≤ 3; exact Nat.le_of_ble_eq_true rfl) fun X C0 hR => ?_
  have C : CX Y X RX11 "halvings" cX11_halvings 3 (some .int) e 0 0 := C0
  replace h := h X C
  show Wa Y X 3 (g_MQ Y X 1 (g_N RV 116 P) 0 0) 0 0 0 [(0, .int (i32 x0)), (1, .int (i32 x1))] [] RV iv av 116
  refine r_iconst (pc' := 1) C dX11_halvings_0 rfl ?_
  refine r_istore_n (pc' := 2) (ls' := [(0, .int (i32 x0)), (1, .int (i32 x1)), (2, .int (i32 0))]) C (by decide) rfl rfl dX11_halvings_1 rfl ?_
  exact Wa.sub [0, 1, 2] rfl h
set_option maxHeartbeats 4000000 in
set_option maxRecDepth 100000 in
theorem o_X11_lengthSymbol {Y : Gl} {e : Nat} {P : PN} {x0 : Int} {iv av : IVt} (hx0 : InR x0) (h : 
    ((x0 < 258) →
      (InR (x0 - 3)) ∧
      OkN Y e mX11_halvings [.int (i32 (x0 - 3)), .int (i32 8)] RV iv av 116 (fun r3 iv4 av5 =>
        (InR r3) →
        (0 ≤ r3 ∧ r3 ≤ 31) ∧
        (InR ((257 + (4 * r3)) + ((x0 - 3) / 2 ^ r3.toNat))) ∧
        P ((257 + (4 * r3)) + ((x0 - 3) / 2 ^ r3.toNat)) iv4 av5
      )
    ) ∧
    ((¬ x0 < 258) →
      P 285 iv av
    )) : OkN Y (e + 1) mX11_lengthSymbol [.int (i32 x0)] RV iv av 116 P := by
  refine OkW.of rfl (by show _ ≤ 2; exact Nat.le_of_ble_eq_true rfl) fun X C0 hR => ?_
  have C : CX Y X RX11 "lengthSymbol" cX11_lengthSymbol 2 (some .int) (e + 1) 0 0 := C0
  show Wa Y X 2 (g_MQ Y X 1 (g_N RV 116 P) 0 0) 0 0 0 [(0, .int (i32 x0))] [] RV iv av 116
  refine r_iload_n (pc' := 1) C 0 rfl rfl dX11_lengthSymbol_0 rfl ?_
  refine r_sipush (pc' := 4) C dX11_lengthSymbol_1 (by decide) rfl ?_
  refine r_icmp_lt (pc' := 7) (tgt := 11) C hx0 (by decide) dX11_lengthSymbol_4 (by decide) rfl (fun c1 => ?_) (fun c1 => ?_)
  · replace h := h.1 c1
    refine r_iload_n (pc' := 12) C 0 rfl rfl dX11_lengthSymbol_11 rfl ?_
    refine r_iconst (pc' := 13) C dX11_lengthSymbol_12 rfl ?_
    refine r_isub (pc' := 14) C dX11_lengthSymbol_13 rfl ?_
    refine r_bipush (pc' := 16) C dX11_lengthSymbol_14 (by decide) rfl ?_
    have o2 := h.1
    replace h := h.2
    refine c_Si (pc' := 19) (mt := mX11_halvings) (as := [.int (i32 (x0 - 3)), .int (i32 8)]) (st := []) C h rfl cl_X11_halvings ml_X11_226 sm_X11_halvings (by omega) (Nat.le_refl _) (Nat.le_refl _) rfl rfl (Nat.le_of_ble_eq_true rfl) dX11_lengthSymbol_16 rfl (fun r3 iv4 av5 f6 h => ?_)
    replace h := h f6
    refine r_istore_n (pc' := 20) (ls' := [(0, .int (i32 x0)), (1, .int (i32 r3))]) C (by decide) rfl rfl dX11_lengthSymbol_19 rfl ?_
    refine r_sipush (pc' := 23) C dX11_lengthSymbol_20 (by decide) rfl ?_
    refine r_iconst (pc' := 24) C dX11_lengthSymbol_23 rfl ?_
    refine r_iload_n (pc' := 25) C 1 rfl rfl dX11_lengthSymbol_24 rfl ?_
    refine r_imul (pc' := 26) C dX11_lengthSymbol_25 rfl ?_
    refine r_iadd (pc' := 27) C dX11_lengthSymbol_26 rfl ?_
    refine r_iload_n (pc' := 28) C 0 rfl rfl dX11_lengthSymbol_27 rfl ?_
    refine r_iconst (pc' := 29) C dX11_lengthSymbol_28 rfl ?_
    refine r_isub (pc' := 30) C dX11_lengthSymbol_29 rfl ?_
    refine r_iload_n (pc' := 31) C 1 rfl rfl dX11_lengthSymbol_30 rfl ?_
    have o7 := h.1
    replace h := h.2
    refine r_ishr (pc' := 32) C o2 o7 dX11_lengthSymbol_31 rfl ?_
    refine r_iadd (pc' := 33) C dX11_lengthSymbol_32 rfl ?_
    have o8 := h.1
    replace h := h.2
    exact r_iret C o8 ⟨rfl, rfl, h⟩ dX11_lengthSymbol_33
  · replace h := h.2 c1
    refine r_sipush (pc' := 10) C dX11_lengthSymbol_7 (by decide) rfl ?_
    exact r_iret C (by decide) ⟨rfl, rfl, h⟩ dX11_lengthSymbol_10
set_option maxHeartbeats 4000000 in
set_option maxRecDepth 100000 in
theorem o_X11_lengthBits {Y : Gl} {e : Nat} {P : PN} {x0 : Int} {iv av : IVt} (hx0 : InR x0) (h : 
    ((x0 < 265) →
      P 0 iv av
    ) ∧
    ((¬ x0 < 265) →
      ((x0 < 285) →
        (InR (x0 - 261)) ∧
        (0 ≤ (x0 - 261)) ∧
        P ((x0 - 261) / 4) iv av
      ) ∧
      ((¬ x0 < 285) →
        P 0 iv av
      )
    )) : OkN Y e mX11_lengthBits [.int (i32 x0)] RV iv av 116 P := by
  refine OkW.of rfl (by show _ ≤ 1; exact Nat.le_of_ble_eq_true rfl) fun X C0 hR => ?_
  have C : CX Y X RX11 "lengthBits" cX11_lengthBits 1 (some .int) e 0 0 := C0
  show Wa Y X 1 (g_MQ Y X 1 (g_N RV 116 P) 0 0) 0 0 0 [(0, .int (i32 x0))] [] RV iv av 116
  refine r_iload_n (pc' := 1) C 0 rfl rfl dX11_lengthBits_0 rfl ?_
  refine r_sipush (pc' := 4) C dX11_lengthBits_1 (by decide) rfl ?_
  refine r_icmp_lt (pc' := 7) (tgt := 14) C hx0 (by decide) dX11_lengthBits_4 (by decide) rfl (fun c1 => ?_) (fun c1 => ?_)
  · replace h := h.1 c1
    refine r_iconst (pc' := 15) C dX11_lengthBits_14 rfl ?_
    refine r_goto (tgt := 25) C dX11_lengthBits_15 (by decide) ?_
    exact r_iret C (by decide) ⟨rfl, rfl, h⟩ dX11_lengthBits_25
  · replace h := h.2 c1
    refine r_iload_n (pc' := 8) C 0 rfl rfl dX11_lengthBits_7 rfl ?_
    refine r_sipush (pc' := 11) C dX11_lengthBits_8 (by decide) rfl ?_
    refine r_icmp_lt (pc' := 14) (tgt := 18) C hx0 (by decide) dX11_lengthBits_11 (by decide) rfl (fun c2 => ?_) (fun c2 => ?_)
    · replace h := h.1 c2
      refine r_iload_n (pc' := 19) C 0 rfl rfl dX11_lengthBits_18 rfl ?_
      refine r_sipush (pc' := 22) C dX11_lengthBits_19 (by decide) rfl ?_
      refine r_isub (pc' := 23) C dX11_lengthBits_22 rfl ?_
      refine r_iconst (pc' := 24) C dX11_lengthBits_23 rfl ?_
      have o3 := h.1
      replace h := h.2
      have o4 := h.1
      replace h := h.2
      refine r_idiv (pc' := 25) C ⟨o4, o3⟩ ⟨(by decide), (by decide)⟩ dX11_lengthBits_24 rfl ?_
      exact r_iret C (by omega) ⟨rfl, rfl, h⟩ dX11_lengthBits_25
    · replace h := h.2 c2
      refine r_iconst (pc' := 15) C dX11_lengthBits_14 rfl ?_
      refine r_goto (tgt := 25) C dX11_lengthBits_15 (by decide) ?_
      exact r_iret C (by decide) ⟨rfl, rfl, h⟩ dX11_lengthBits_25
set_option maxHeartbeats 4000000 in
set_option maxRecDepth 100000 in
theorem o_X11_lengthBase {Y : Gl} {e : Nat} {P : PN} {x0 : Int} {iv av : IVt} (hx0 : InR x0) (h : 
    ((265 ≤ x0) →
      ((x0 < 285) →
        (InR (x0 - 261)) ∧
        (0 ≤ (x0 - 261)) ∧
        OkN Y e mX11_lengthBits [.int (i32 x0)] RV iv av 116 (fun r5 iv6 av7 =>
          (InR r5) →
          (0 ≤ r5 ∧ r5 ≤ 31) ∧
          (InR (3 + ((4 + ((x0 - 261) % 4)) * 2 ^ r5.toNat))) ∧
          P (3 + ((4 + ((x0 - 261) % 4)) * 2 ^ r5.toNat)) iv6 av7
        )
      ) ∧
      ((¬ x0 < 285) →
        P 258 iv av
      )
    ) ∧
    ((¬ 265 ≤ x0) →
      (InR (x0 - 254)) ∧
      P (x0 - 254) iv av
    )) : OkN Y (e + 1) mX11_lengthBase [.int (i32 x0)] RV iv av 116 P := by
  refine OkW.of rfl (by show _ ≤ 1; exact Nat.le_of_ble_eq_true rfl) fun X C0 hR => ?_
  have C : CX Y X RX11 "lengthBase" cX11_lengthBase 1 (some .int) (e + 1) 0 0 := C0
  show Wa Y X 1 (g_MQ Y X 1 (g_N RV 116 P) 0 0) 0 0 0 [(0, .int (i32 x0))] [] RV iv av 116
  refine r_iload_n (pc' := 1) C 0 rfl rfl dX11_lengthBase_0 rfl ?_
  refine r_sipush (pc' := 4) C dX11_lengthBase_1 (by decide) rfl ?_
  refine r_icmp_ge (pc' := 7) (tgt := 13) C hx0 (by decide) dX11_lengthBase_4 (by decide) rfl (fun c1 => ?_) (fun c1 => ?_)
  · replace h := h.1 c1
    refine r_iload_n (pc' := 14) C 0 rfl rfl dX11_lengthBase_13 rfl ?_
    refine r_sipush (pc' := 17) C dX11_lengthBase_14 (by decide) rfl ?_
    refine r_icmp_lt (pc' := 20) (tgt := 26) C hx0 (by decide) dX11_lengthBase_17 (by decide) rfl (fun c2 => ?_) (fun c2 => ?_)
    · replace h := h.1 c2
      refine r_iconst (pc' := 27) C dX11_lengthBase_26 rfl ?_
      refine r_iconst (pc' := 28) C dX11_lengthBase_27 rfl ?_
      refine r_iload_n (pc' := 29) C 0 rfl rfl dX11_lengthBase_28 rfl ?_
      refine r_sipush (pc' := 32) C dX11_lengthBase_29 (by decide) rfl ?_
      refine r_isub (pc' := 33) C dX11_lengthBase_32 rfl ?_
      refine r_iconst (pc' := 34) C dX11_lengthBase_33 rfl ?_
      have o3 := h.1
      replace h := h.2
      have o4 := h.1
      replace h := h.2
      refine r_irem (pc' := 35) C ⟨o4, o3⟩ ⟨(by decide), (by decide)⟩ dX11_lengthBase_34 rfl ?_
      refine r_iadd (pc' := 36) C dX11_lengthBase_35 rfl ?_
      refine r_iload_n (pc' := 37) C 0 rfl rfl dX11_lengthBase_36 rfl ?_
      refine c_Si (pc' := 40) (mt := mX11_lengthBits) (as := [.int (i32 x0)]) (st := [.int (i32 (4 + ((x0 - 261) % 4))), .int (i32 3)]) C h rfl cl_X11_lengthBits ml_X11_229 sm_X11_lengthBits (by omega) (Nat.le_refl _) (Nat.le_refl _) rfl rfl (Nat.le_of_ble_eq_true rfl) dX11_lengthBase_37 rfl (fun r5 iv6 av7 f8 h => ?_)
      replace h := h f8
      have o9 := h.1
      replace h := h.2
      refine r_ishl (pc' := 41) C o9 dX11_lengthBase_40 rfl ?_
      refine r_iadd (pc' := 42) C dX11_lengthBase_41 rfl ?_
      have o10 := h.1
      replace h := h.2
      exact r_iret C o10 ⟨rfl, rfl, h⟩ dX11_lengthBase_42
    · replace h := h.2 c2
      refine r_sipush (pc' := 23) C dX11_lengthBase_20 (by decide) rfl ?_
      refine r_goto (tgt := 42) C dX11_lengthBase_23 (by decide) ?_
      exact r_iret C (by decide) ⟨rfl, rfl, h⟩ dX11_lengthBase_42
  · replace h := h.2 c1
    refine r_iload_n (pc' := 8) C 0 rfl rfl dX11_lengthBase_7 rfl ?_
    refine r_sipush (pc' := 11) C dX11_lengthBase_8 (by decide) rfl ?_
    refine r_isub (pc' := 12) C dX11_lengthBase_11 rfl ?_
    have o11 := h.1
    replace h := h.2
    exact r_iret C o11 ⟨rfl, rfl, h⟩ dX11_lengthBase_12
set_option maxHeartbeats 4000000 in
set_option maxRecDepth 100000 in
theorem o_X11_distanceSymbol {Y : Gl} {e : Nat} {P : PN} {x0 : Int} {iv av : IVt} (h : 
    (InR (x0 - 1)) ∧
    OkN Y e mX11_halvings [.int (i32 (x0 - 1)), .int (i32 4)] RV iv av 116 (fun r2 iv3 av4 =>
      (InR r2) →
      (0 ≤ r2 ∧ r2 ≤ 31) ∧
      (InR ((2 * r2) + ((x0 - 1) / 2 ^ r2.toNat))) ∧
      P ((2 * r2) + ((x0 - 1) / 2 ^ r2.toNat)) iv3 av4
    )) : OkN Y (e + 1) mX11_distanceSymbol [.int (i32 x0)] RV iv av 116 P := by
  refine OkW.of rfl (by show _ ≤ 2; exact Nat.le_of_ble_eq_true rfl) fun X C0 hR => ?_
  have C : CX Y X RX11 "distanceSymbol" cX11_distanceSymbol 2 (some .int) (e + 1) 0 0 := C0
  show Wa Y X 2 (g_MQ Y X 1 (g_N RV 116 P) 0 0) 0 0 0 [(0, .int (i32 x0))] [] RV iv av 116
  refine r_iload_n (pc' := 1) C 0 rfl rfl dX11_distanceSymbol_0 rfl ?_
  refine r_iconst (pc' := 2) C dX11_distanceSymbol_1 rfl ?_
  refine r_isub (pc' := 3) C dX11_distanceSymbol_2 rfl ?_
  refine r_iconst (pc' := 4) C dX11_distanceSymbol_3 rfl ?_
  have o1 := h.1
  replace h := h.2
  refine c_Si (pc' := 7) (mt := mX11_halvings) (as := [.int (i32 (x0 - 1)), .int (i32 4)]) (st := []) C h rfl cl_X11_halvings ml_X11_226 sm_X11_halvings (by omega) (Nat.le_refl _) (Nat.le_refl _) rfl rfl (Nat.le_of_ble_eq_true rfl) dX11_distanceSymbol_4 rfl (fun r2 iv3 av4 f5 h => ?_)
  replace h := h f5
  refine r_istore_n (pc' := 8) (ls' := [(0, .int (i32 x0)), (1, .int (i32 r2))]) C (by decide) rfl rfl dX11_distanceSymbol_7 rfl ?_
  refine r_iconst (pc' := 9) C dX11_distanceSymbol_8 rfl ?_
  refine r_iload_n (pc' := 10) C 1 rfl rfl dX11_distanceSymbol_9 rfl ?_
  refine r_imul (pc' := 11) C dX11_distanceSymbol_10 rfl ?_
  refine r_iload_n (pc' := 12) C 0 rfl rfl dX11_distanceSymbol_11 rfl ?_
  refine r_iconst (pc' := 13) C dX11_distanceSymbol_12 rfl ?_
  refine r_isub (pc' := 14) C dX11_distanceSymbol_13 rfl ?_
  refine r_iload_n (pc' := 15) C 1 rfl rfl dX11_distanceSymbol_14 rfl ?_
  have o6 := h.1
  replace h := h.2
  refine r_ishr (pc' := 16) C o1 o6 dX11_distanceSymbol_15 rfl ?_
  refine r_iadd (pc' := 17) C dX11_distanceSymbol_16 rfl ?_
  have o7 := h.1
  replace h := h.2
  exact r_iret C o7 ⟨rfl, rfl, h⟩ dX11_distanceSymbol_17
set_option maxHeartbeats 4000000 in
set_option maxRecDepth 100000 in
theorem o_X11_distanceBits {Y : Gl} {e : Nat} {P : PN} {x0 : Int} {iv av : IVt} (hx0 : InR x0) (h : 
    ((4 ≤ x0) →
      (0 ≤ x0) ∧
      (InR ((x0 / 2) - 1)) ∧
      P ((x0 / 2) - 1) iv av
    ) ∧
    ((¬ 4 ≤ x0) →
      P 0 iv av
    )) : OkN Y e mX11_distanceBits [.int (i32 x0)] RV iv av 116 P := by
  refine OkW.of rfl (by show _ ≤ 1; exact Nat.le_of_ble_eq_true rfl) fun X C0 hR => ?_
  have C : CX Y X RX11 "distanceBits" cX11_distanceBits 1 (some .int) e 0 0 := C0
  show Wa Y X 1 (g_MQ Y X 1 (g_N RV 116 P) 0 0) 0 0 0 [(0, .int (i32 x0))] [] RV iv av 116
  refine r_iload_n (pc' := 1) C 0 rfl rfl dX11_distanceBits_0 rfl ?_
  refine r_iconst (pc' := 2) C dX11_distanceBits_1 rfl ?_
  refine r_icmp_ge (pc' := 5) (tgt := 9) C hx0 (by decide) dX11_distanceBits_2 (by decide) rfl (fun c1 => ?_) (fun c1 => ?_)
  · replace h := h.1 c1
    refine r_iload_n (pc' := 10) C 0 rfl rfl dX11_distanceBits_9 rfl ?_
    refine r_iconst (pc' := 11) C dX11_distanceBits_10 rfl ?_
    have o2 := h.1
    replace h := h.2
    refine r_idiv (pc' := 12) C ⟨o2, hx0⟩ ⟨(by decide), (by decide)⟩ dX11_distanceBits_11 rfl ?_
    refine r_iconst (pc' := 13) C dX11_distanceBits_12 rfl ?_
    refine r_isub (pc' := 14) C dX11_distanceBits_13 rfl ?_
    have o3 := h.1
    replace h := h.2
    exact r_iret C o3 ⟨rfl, rfl, h⟩ dX11_distanceBits_14
  · replace h := h.2 c1
    refine r_iconst (pc' := 6) C dX11_distanceBits_5 rfl ?_
    refine r_goto (tgt := 14) C dX11_distanceBits_6 (by decide) ?_
    exact r_iret C (by decide) ⟨rfl, rfl, h⟩ dX11_distanceBits_14
set_option maxHeartbeats 4000000 in
set_option maxRecDepth 100000 in
theorem o_X11_distanceBase {Y : Gl} {e : Nat} {P : PN} {x0 : Int} {iv av : IVt} (hx0 : InR x0) (h : 
    ((4 ≤ x0) →
      (0 ≤ x0) ∧
      OkN Y e mX11_distanceBits [.int (i32 x0)] RV iv av 116 (fun r3 iv4 av5 =>
        (InR r3) →
        (0 ≤ r3 ∧ r3 ≤ 31) ∧
        (InR (1 + ((2 + (x0 % 2)) * 2 ^ r3.toNat))) ∧
        P (1 + ((2 + (x0 % 2)) * 2 ^ r3.toNat)) iv4 av5
      )
    ) ∧
    ((¬ 4 ≤ x0) →
      (InR (x0 + 1)) ∧
      P (x0 + 1) iv av
    )) : OkN Y (e + 1) mX11_distanceBase [.int (i32 x0)] RV iv av 116 P := by
  refine OkW.of rfl (by show _ ≤ 1; exact Nat.le_of_ble_eq_true rfl) fun X C0 hR => ?_
  have C : CX Y X RX11 "distanceBase" cX11_distanceBase 1 (some .int) (e + 1) 0 0 := C0
  show Wa Y X 1 (g_MQ Y X 1 (g_N RV 116 P) 0 0) 0 0 0 [(0, .int (i32 x0))] [] RV iv av 116
  refine r_iload_n (pc' := 1) C 0 rfl rfl dX11_distanceBase_0 rfl ?_
  refine r_iconst (pc' := 2) C dX11_distanceBase_1 rfl ?_
  refine r_icmp_ge (pc' := 5) (tgt := 11) C hx0 (by decide) dX11_distanceBase_2 (by decide) rfl (fun c1 => ?_) (fun c1 => ?_)
  · replace h := h.1 c1
    refine r_iconst (pc' := 12) C dX11_distanceBase_11 rfl ?_
    refine r_iconst (pc' := 13) C dX11_distanceBase_12 rfl ?_
    refine r_iload_n (pc' := 14) C 0 rfl rfl dX11_distanceBase_13 rfl ?_
    refine r_iconst (pc' := 15) C dX11_distanceBase_14 rfl ?_
    have o2 := h.1
    replace h := h.2
    refine r_irem (pc' := 16) C ⟨o2, hx0⟩ ⟨(by decide), (by decide)⟩ dX11_distanceBase_15 rfl ?_
    refine r_iadd (pc' := 17) C dX11_distanceBase_16 rfl ?_
    refine r_iload_n (pc' := 18) C 0 rfl rfl dX11_distanceBase_17 rfl ?_
    refine c_Si (pc' := 21) (mt := mX11_distanceBits) (as := [.int (i32 x0)]) (st := [.int (i32 (2 + (x0 % 2))), .int (i32 1)]) C h rfl cl_X11_distanceBits ml_X11_232 sm_X11_distanceBits (by omega) (Nat.le_refl _) (Nat.le_refl _) rfl rfl (Nat.le_of_ble_eq_true rfl) dX11_distanceBase_18 rfl (fun r3 iv4 av5 f6 h => ?_)
    replace h := h f6
    have o7 := h.1
    replace h := h.2
    refine r_ishl (pc' := 22) C o7 dX11_distanceBase_21 rfl ?_
    refine r_iadd (pc' := 23) C dX11_distanceBase_22 rfl ?_
    have o8 := h.1
    replace h := h.2
    exact r_iret C o8 ⟨rfl, rfl, h⟩ dX11_distanceBase_23
  · replace h := h.2 c1
    refine r_iload_n (pc' := 6) C 0 rfl rfl dX11_distanceBase_5 rfl ?_
    refine r_iconst (pc' := 7) C dX11_distanceBase_6 rfl ?_
    refine r_iadd (pc' := 8) C dX11_distanceBase_7 rfl ?_
    refine r_goto (tgt := 23) C dX11_distanceBase_8 (by decide) ?_
    have o9 := h.1
    replace h := h.2
    exact r_iret C o9 ⟨rfl, rfl, h⟩ dX11_distanceBase_23
def L_X11_checkOf_8 (Y : Gl) (X : Cx) (P : PN) (k0 : Nat) (x1 : Int) (x2 : Int) (x3 : Int) (x4 : Int) (x5 : Int) (iv av : IVt) : Prop := Wa Y X 6 (g_MQ Y X 1 (g_N RV 116 P) 0 0) 0 0 8 [(0, .ref (gl_b Y + k0)), (1, .int (i32 x1)), (2, .int (i32 x2)), (3, .int (i32 x3)), (4, .int (i32 x4)), (5, .int (i32 x5))] [] RV iv av 116
set_option maxHeartbeats 4000000 in
set_option maxRecDepth 100000 in
theorem w_X11_checkOf_8 {Y : Gl} {X : Cx} {e : Nat} {P : PN} {k0 : Nat} {x1 : Int} {x2 : Int} {x3 : Int} {x4 : Int} {x5 : Int} {iv av : IVt} (C : CX Y X RX11 "checkOf" cX11_checkOf 6 (some .int) (e + 1) 0 0) (Kk0 : BytesK k0) (hx2 : InR x2) (hx5 : InR x5) (h :
    ((x2 ≤ x5) →
      P (g_or (x4 * 65536) x3) iv av
    ) ∧
    ((¬ x2 ≤ x5) →
      (InR (x1 + x5)) ∧
      OkN Y e mX2_at [.ref (gl_b Y + k0), .int (i32 (x1 + x5))] RV iv av 116 (fun r3 iv4 av5 =>
        (InR r3) →
        (InR (x3 + r3)) ∧
        (0 ≤ (x3 + r3)) ∧
        (InR (x4 + ((x3 + r3) % 65521))) ∧
        (0 ≤ (x4 + ((x3 + r3) % 65521))) ∧
        L_X11_checkOf_8 Y X P k0 x1 x2 ((x3 + r3) % 65521) ((x4 + ((x3 + r3) % 65521)) % 65521) (x5 + 1) iv4 av5
      )
    )) : L_X11_checkOf_8 Y X P k0 x1 x2 x3 x4 x5 iv av := by
  obtain ⟨hk0c, hk0a, hk0l, hk0r0⟩ := Kk0
  unfold L_X11_checkOf_8
  refine r_iload (pc' := 10) C 5 rfl dX11_checkOf_8 rfl ?_
  refine r_iload_n (pc' := 11) C 2 rfl rfl dX11_checkOf_10 rfl ?_
  refine r_icmp_ge (pc' := 14) (tgt := 43) C hx5 hx2 dX11_checkOf_11 (by decide) rfl (fun c1 => ?_) (fun c1 => ?_)
  · replace h := h.1 c1
    refine r_iload (pc' := 45) C 4 rfl dX11_checkOf_43 rfl ?_
    refine r_bipush (pc' := 47) C dX11_checkOf_45 (by decide) rfl ?_
    refine r_ishlC (pc' := 48) (m := 65536) C (by decide) (by decide) dX11_checkOf_47 rfl ?_
    refine r_iload_n (pc' := 49) C 3 rfl rfl dX11_checkOf_48 rfl ?_
    refine r_ior (pc' := 50) C dX11_checkOf_49 rfl ?_
    exact r_iret C (g_or_in _ _) ⟨rfl, rfl, h⟩ dX11_checkOf_50
  · replace h := h.2 c1
    refine r_iload_n (pc' := 15) C 3 rfl rfl dX11_checkOf_14 rfl ?_
    refine r_aload_n (pc' := 16) C 0 rfl rfl dX11_checkOf_15 rfl ?_
    refine r_iload_n (pc' := 17) C 1 rfl rfl dX11_checkOf_16 rfl ?_
    refine r_iload (pc' := 19) C 5 rfl dX11_checkOf_17 rfl ?_
    refine r_iadd (pc' := 20) C dX11_checkOf_19 rfl ?_
    have o2 := h.1
    replace h := h.2
    refine c_Vi (pc' := 23) (mt := mX2_at) (as := [.int (i32 (x1 + x5))]) (st := [.int (i32 x3)]) (k := k0) C h rfl cl_X2_at ml_X11_96 im_X2_at sl_X2_at (by omega) (Nat.le_refl _) (Nat.le_refl _) rfl (by omega) hk0c (by decide) rfl rfl rfl (Nat.le_of_ble_eq_true rfl) dX11_checkOf_20 rfl (fun r3 iv4 av5 f6 h => ?_)
    replace h := h f6
    refine r_iadd (pc' := 24) C dX11_checkOf_23 rfl ?_
    refine r_ldc (pc' := 26) (x := 65521) C ct_X11_235 (by decide) dX11_checkOf_24 rfl ?_
    have o7 := h.1
    replace h := h.2
    have o8 := h.1
    replace h := h.2
    refine r_irem (pc' := 27) C ⟨o8, o7⟩ ⟨(by decide), (by decide)⟩ dX11_checkOf_26 rfl ?_
    refine r_istore_n (pc' := 28) (ls' := [(0, .ref (gl_b Y + k0)), (1, .int (i32 x1)), (2, .int (i32 x2)), (3, .int (i32 ((x3 + r3) % 65521))), (4, .int (i32 x4)), (5, .int (i32 x5))]) C (by decide) rfl rfl dX11_checkOf_27 rfl ?_
    refine r_iload (pc' := 30) C 4 rfl dX11_checkOf_28 rfl ?_
    refine r_iload_n (pc' := 31) C 3 rfl rfl dX11_checkOf_30 rfl ?_
    refine r_iadd (pc' := 32) C dX11_checkOf_31 rfl ?_
    refine r_ldc (pc' := 34) (x := 65521) C ct_X11_235 (by decide) dX11_checkOf_32 rfl ?_
    have o9 := h.1
    replace h := h.2
    have o10 := h.1
    replace h := h.2
    refine r_irem (pc' := 35) C ⟨o10, o9⟩ ⟨(by decide), (by decide)⟩ dX11_checkOf_34 rfl ?_
    refine r_istore (pc' := 37) (ls' := [(0, .ref (gl_b Y + k0)), (1, .int (i32 x1)), (2, .int (i32 x2)), (3, .int (i32 ((x3 + r3) % 65521))), (4, .int (i32 ((x4 + ((x3 + r3) % 65521)) % 65521))), (5, .int (i32 x5))]) C (by decide) rfl dX11_checkOf_35 rfl ?_
    refine r_iinc (pc' := 40) (ls' := [(0, .ref (gl_b Y + k0)), (1, .int (i32 x1)), (2, .int (i32 x2)), (3, .int (i32 ((x3 + r3) % 65521))), (4, .int (i32 ((x4 + ((x3 + r3) % 65521)) % 65521))), (5, .int (i32 (x5 + 1)))]) C 5 rfl (by decide) rfl dX11_checkOf_37 rfl ?_
    refine r_goto (tgt := 8) C dX11_checkOf_40 (by decide) ?_
    exact Wa.sub [0, 1, 2, 3, 4, 5] rfl h
set_option maxHeartbeats 4000000 in
set_option maxRecDepth 100000 in
theorem o_X11_checkOf {Y : Gl} {e : Nat} {P : PN} {k0 : Nat} {x1 : Int} {x2 : Int} {iv av : IVt} (Kk0 : BytesK k0) (h : ∀ X : Cx, CX Y X RX11 "checkOf" cX11_checkOf 6 (some .int) (e + 1) 0 0 →
    L_X11_checkOf_8 Y X P k0 x1 x2 1 0 0 iv av) : OkN Y (e + 1) mX11_checkOf [.ref (gl_b Y + k0), .int (i32 x1), .int (i32 x2)] RV iv av 116 P := by
  obtain ⟨hk0c, hk0a, hk0l, hk0r0⟩ := Kk0
  refine OkW.of rfl (by show _ ≤ 6; exact Nat.le_of_ble_eq_true rfl) fun X C0 hR => ?_
  have C : CX Y X RX11 "checkOf" cX11_checkOf 6 (some .int) (e + 1) 0 0 := C0
  replace h := h X C
  show Wa Y X 6 (g_MQ Y X 1 (g_N RV 116 P) 0 0) 0 0 0 [(0, .ref (gl_b Y + k0)), (1, .int (i32 x1)), (2, .int (i32 x2))] [] RV iv av 116
  refine r_iconst (pc' := 1) C dX11_checkOf_0 rfl ?_
  refine r_istore_n (pc' := 2) (ls' := [(0, .ref (gl_b Y + k0)), (1, .int (i32 x1)), (2, .int (i32 x2)), (3, .int (i32 1))]) C (by decide) rfl rfl dX11_checkOf_1 rfl ?_
  refine r_iconst (pc' := 3) C dX11_checkOf_2 rfl ?_
  refine r_istore (pc' := 5) (ls' := [(0, .ref (gl_b Y + k0)), (1, .int (i32 x1)), (2, .int (i32 x2)), (3, .int (i32 1)), (4, .int (i32 0))]) C (by decide) rfl dX11_checkOf_3 rfl ?_
  refine r_iconst (pc' := 6) C dX11_checkOf_5 rfl ?_
  refine r_istore (pc' := 8) (ls' := [(0, .ref (gl_b Y + k0)), (1, .int (i32 x1)), (2, .int (i32 x2)), (3, .int (i32 1)), (4, .int (i32 0)), (5, .int (i32 0))]) C (by decide) rfl dX11_checkOf_6 rfl ?_
  exact Wa.sub [0, 1, 2, 3, 4, 5] rfl h
set_option maxHeartbeats 4000000 in
set_option maxRecDepth 100000 in
theorem o_X11_fixedLength {Y : Gl} {e : Nat} {rv : RVt} {n : Nat} {P : PN} {x0 : Int} {iv av : IVt} (hx0 : InR x0) (h : 
    ((144 ≤ x0) →
      ((256 ≤ x0) →
        ((280 ≤ x0) →
          P 8 iv av
        ) ∧
        ((¬ 280 ≤ x0) →
          P 7 iv av
        )
      ) ∧
      ((¬ 256 ≤ x0) →
        P 9 iv av
      )
    ) ∧
    ((¬ 144 ≤ x0) →
      P 8 iv av
    )) : OkN Y e mX11_fixedLength [.int (i32 x0)] rv iv av n P := by
  refine OkW.of rfl (by show _ ≤ 1; exact Nat.le_of_ble_eq_true rfl) fun X C0 hR => ?_
  have C : CX Y X RX11 "fixedLength" cX11_fixedLength 1 (some .int) e 0 0 := C0
  show Wa Y X 1 (g_MQ Y X 1 (g_N rv n P) 0 0) 0 0 0 [(0, .int (i32 x0))] [] rv iv av n
  refine r_iload_n (pc' := 1) C 0 rfl rfl dX11_fixedLength_0 rfl ?_
  refine r_sipush (pc' := 4) C dX11_fixedLength_1 (by decide) rfl ?_
  refine r_icmp_ge (pc' := 7) (tgt := 10) C hx0 (by decide) dX11_fixedLength_4 (by decide) rfl (fun c1 => ?_) (fun c1 => ?_)
  · replace h := h.1 c1
    refine r_iload_n (pc' := 11) C 0 rfl rfl dX11_fixedLength_10 rfl ?_
    refine r_sipush (pc' := 14) C dX11_fixedLength_11 (by decide) rfl ?_
    refine r_icmp_ge (pc' := 17) (tgt := 20) C hx0 (by decide) dX11_fixedLength_14 (by decide) rfl (fun c2 => ?_) (fun c2 => ?_)
    · replace h := h.1 c2
      refine r_iload_n (pc' := 21) C 0 rfl rfl dX11_fixedLength_20 rfl ?_
      refine r_sipush (pc' := 24) C dX11_fixedLength_21 (by decide) rfl ?_
      refine r_icmp_ge (pc' := 27) (tgt := 32) C hx0 (by decide) dX11_fixedLength_24 (by decide) rfl (fun c3 => ?_) (fun c3 => ?_)
      · replace h := h.1 c3
        refine r_bipush (pc' := 34) C dX11_fixedLength_32 (by decide) rfl ?_
        exact r_iret C (by decide) ⟨rfl, rfl, h⟩ dX11_fixedLength_34
      · replace h := h.2 c3
        refine r_bipush (pc' := 29) C dX11_fixedLength_27 (by decide) rfl ?_
        refine r_goto (tgt := 34) C dX11_fixedLength_29 (by decide) ?_
        exact r_iret C (by decide) ⟨rfl, rfl, h⟩ dX11_fixedLength_34
    · replace h := h.2 c2
      refine r_bipush (pc' := 19) C dX11_fixedLength_17 (by decide) rfl ?_
      exact r_iret C (by decide) ⟨rfl, rfl, h⟩ dX11_fixedLength_19
  · replace h := h.2 c1
    refine r_bipush (pc' := 9) C dX11_fixedLength_7 (by decide) rfl ?_
    exact r_iret C (by decide) ⟨rfl, rfl, h⟩ dX11_fixedLength_9
