/-! Walks, laid by wip/whole/tool/walk.py: each says what is left of a method when its bytecode is run over symbols. -/
set_option maxHeartbeats 4000000 in
set_option maxRecDepth 100000 in
theorem o_X13_isFile {Y : Gl} {e : Nat} {P : PN} {x0 : Int} {iv av : IVt} (hx0 : InR x0) (h : 
    ((x0 < 0) →
      P 0 iv av
    ) ∧
    ((¬ x0 < 0) →
      ((64 ≤ x0) →
        P 0 iv av
      ) ∧
      ((¬ 64 ≤ x0) →
        P 1 iv av
      )
    )) : OkN Y e mX13_isFile [.int (i32 x0)] RV iv av 116 P := by
  refine OkW.of rfl (by show _ ≤ 1; exact Nat.le_of_ble_eq_true rfl) fun X C0 hR => ?_
  have C : CX Y X RX13 "isFile" cX13_isFile 1 (some .boolean) e 0 0 := C0
  show Wa Y X 1 (g_MQ Y X 1 (g_N RV 116 P) 0 0) 0 0 0 [(0, .int (i32 x0))] [] RV iv av 116
  refine r_iload_n (pc' := 1) C 0 rfl rfl dX13_isFile_0 rfl ?_
  refine r_if_lt (pc' := 4) (tgt := 14) C hx0 dX13_isFile_1 (by decide) rfl (fun c1 => ?_) (fun c1 => ?_)
  · replace h := h.1 c1
    refine r_iconst (pc' := 15) C dX13_isFile_14 rfl ?_
    exact r_zret C (by decide) ⟨rfl, rfl, h⟩ dX13_isFile_15
  · replace h := h.2 c1
    refine r_iload_n (pc' := 5) C 0 rfl rfl dX13_isFile_4 rfl ?_
    refine r_bipush (pc' := 7) C dX13_isFile_5 (by decide) rfl ?_
    refine r_icmp_ge (pc' := 10) (tgt := 14) C hx0 (by decide) dX13_isFile_7 (by decide) rfl (fun c2 => ?_) (fun c2 => ?_)
    · replace h := h.1 c2
      refine r_iconst (pc' := 15) C dX13_isFile_14 rfl ?_
      exact r_zret C (by decide) ⟨rfl, rfl, h⟩ dX13_isFile_15
    · replace h := h.2 c2
      refine r_iconst (pc' := 11) C dX13_isFile_10 rfl ?_
      refine r_goto (tgt := 15) C dX13_isFile_11 (by decide) ?_
      exact r_zret C (by decide) ⟨rfl, rfl, h⟩ dX13_isFile_15
def L_X13_feed_31 (Y : Gl) (X : Cx) (P : PN) (x1 : Int) (x3 : Int) (x4 : Int) (iv av : IVt) : Prop := Wa Y X 5 (g_MQ Y X 1 (g_N RV 116 P) 0 0) 0 0 31 [(0, .ref (gl_b Y + 73)), (1, .long (i64 x1)), (3, .int (i32 x3)), (4, .int (i32 x4))] [] RV iv av 116
set_option maxHeartbeats 4000000 in
set_option maxRecDepth 100000 in
theorem w_X13_feed_31 {Y : Gl} {X : Cx} {e : Nat} {P : PN} {x1 : Int} {x3 : Int} {x4 : Int} {iv av : IVt} (C : CX Y X RX13 "feed" cX13_feed 5 (some .int) e 0 0) (hx1 : InL x1) (hx3 : InR x3) (hx4 : InR x4) (h :
    ((x3 ≤ x4) →
      ((InR (iv 73 0)) →
        P (iv 73 0) iv av
      )
    ) ∧
    ((¬ x3 ≤ x4) →
      ((InR (iv 73 0)) →
        (0 ≤ (8 * x4) ∧ (8 * x4) ≤ 63) ∧
        (0 ≤ (iv 73 0) ∧ (iv 73 0) < 1024) ∧
        (InR ((iv 73 0) + 1)) ∧
        L_X13_feed_31 Y X P x1 x3 (x4 + 1) (up2 iv 73 0 ((iv 73 0) + 1)) (up2 av 74 ((iv 73 0).toNat) (bm8 (bm8 (x1 / 2 ^ (8 * x4).toNat))))
      )
    )) : L_X13_feed_31 Y X P x1 x3 x4 iv av := by
  unfold L_X13_feed_31
  refine r_iload (pc' := 33) C 3 rfl dX13_feed_31 rfl ?_
  refine r_iload_n (pc' := 34) C 2 rfl rfl dX13_feed_33 rfl ?_
  refine r_icmp_ge (pc' := 37) (tgt := 71) C hx4 hx3 dX13_feed_34 (by decide) rfl (fun c1 => ?_) (fun c1 => ?_)
  · replace h := h.1 c1
    refine r_aload_n (pc' := 72) C 0 rfl rfl dX13_feed_71 rfl ?_
    refine r_geti (pc' := 75) (k := 73) C fl_X13_139 (by decide) kc_73 (by decide) fr_13_0 dX13_feed_72 rfl (fun f2 => ?_)
    replace h := h f2
    exact r_iret C f2 ⟨rfl, rfl, h⟩ dX13_feed_75
  · replace h := h.2 c1
    refine r_aload_n (pc' := 38) C 0 rfl rfl dX13_feed_37 rfl ?_
    refine r_getr (pc' := 41) (k := 73) (r := 74) C fl_X13_9 (by decide) kc_73 (by decide) fr_13_1 RV_73_1 dX13_feed_38 rfl ?_
    refine r_aload_n (pc' := 42) C 0 rfl rfl dX13_feed_41 rfl ?_
    refine r_geti (pc' := 45) (k := 73) C fl_X13_139 (by decide) kc_73 (by decide) fr_13_0 dX13_feed_42 rfl (fun f3 => ?_)
    replace h := h f3
    refine r_lload_n (pc' := 46) C 1 rfl rfl dX13_feed_45 rfl ?_
    refine r_bipush (pc' := 48) C dX13_feed_46 (by decide) rfl ?_
    refine r_iload (pc' := 50) C 3 rfl dX13_feed_48 rfl ?_
    refine r_imul (pc' := 51) C dX13_feed_50 rfl ?_
    have o4 := h.1
    replace h := h.2
    refine r_lshr (pc' := 52) C hx1 o4 dX13_feed_51 rfl ?_
    refine r_l2i (pc' := 53) C dX13_feed_52 rfl ?_
    refine r_i2b (pc' := 54) C dX13_feed_53 rfl ?_
    have o5 := h.1
    replace h := h.2
    refine r_bast (pc' := 55) (k := 74) C (by decide) kc_74 (by have := kl_74; omega) dX13_feed_54 rfl ?_
    refine r_aload_n (pc' := 56) C 0 rfl rfl dX13_feed_55 rfl ?_
    refine r_dup (pc' := 57) C rfl dX13_feed_56 rfl ?_
    refine r_geti (pc' := 60) (k := 73) C fl_X13_139 (by decide) kc_73 (by decide) fr_13_0 dX13_feed_57 rfl (fun f6 => ?_)
    refine r_iconst (pc' := 61) C dX13_feed_60 rfl ?_
    refine r_iadd (pc' := 62) C dX13_feed_61 rfl ?_
    have o7 := h.1
    replace h := h.2
    refine r_puti (pc' := 65) (k := 73) C fl_X13_139 (by decide) kc_73 (by decide) fr_13_0 o7 dX13_feed_62 rfl ?_
    refine r_iinc (pc' := 68) (ls' := [(0, .ref (gl_b Y + 73)), (1, .long (i64 x1)), (3, .int (i32 x3)), (4, .int (i32 (x4 + 1)))]) C 3 rfl (by decide) rfl dX13_feed_65 rfl ?_
    refine r_goto (tgt := 31) C dX13_feed_68 (by decide) ?_
    exact Wa.sub [0, 1, 2, 3] rfl h
set_option maxHeartbeats 4000000 in
set_option maxRecDepth 100000 in
theorem o_X13_feed {Y : Gl} {e : Nat} {P : PN} {x1 : Int} {x3 : Int} {iv av : IVt} (hx3 : InR x3) (h : ∀ X : Cx, CX Y X RX13 "feed" cX13_feed 5 (some .int) e 0 0 →
    ((x3 < 1) →
      P (-1) iv av
    ) ∧
    ((¬ x3 < 1) →
      ((x3 ≤ 8) →
        ((InR (iv 73 0)) →
          (InR ((iv 73 0) + x3)) ∧
          ((((iv 73 0) + x3) ≤ 1024) →
            L_X13_feed_31 Y X P x1 x3 0 iv av
          ) ∧
          ((¬ ((iv 73 0) + x3) ≤ 1024) →
            P (-3) iv av
          )
        )
      ) ∧
      ((¬ x3 ≤ 8) →
        P (-1) iv av
      )
    )) : OkN Y e mX13_feed [.ref (gl_b Y + 73), .long (i64 x1), .int (i32 x3)] RV iv av 116 P := by
  refine OkW.of rfl (by show _ ≤ 5; exact Nat.le_of_ble_eq_true rfl) fun X C0 hR => ?_
  have C : CX Y X RX13 "feed" cX13_feed 5 (some .int) e 0 0 := C0
  replace h := h X C
  show Wa Y X 5 (g_MQ Y X 1 (g_N RV 116 P) 0 0) 0 0 0 [(0, .ref (gl_b Y + 73)), (1, .long (i64 x1)), (3, .int (i32 x3))] [] RV iv av 116
  refine r_iload_n (pc' := 1) C 2 rfl rfl dX13_feed_0 rfl ?_
  refine r_iconst (pc' := 2) C dX13_feed_1 rfl ?_
  refine r_icmp_lt (pc' := 5) (tgt := 11) C hx3 (by decide) dX13_feed_2 (by decide) rfl (fun c1 => ?_) (fun c1 => ?_)
  · replace h := h.1 c1
    refine r_iconst (pc' := 12) C dX13_feed_11 rfl ?_
    exact r_iret C (by decide) ⟨rfl, rfl, h⟩ dX13_feed_12
  · replace h := h.2 c1
    refine r_iload_n (pc' := 6) C 2 rfl rfl dX13_feed_5 rfl ?_
    refine r_bipush (pc' := 8) C dX13_feed_6 (by decide) rfl ?_
    refine r_icmp_le (pc' := 11) (tgt := 13) C hx3 (by decide) dX13_feed_8 (by decide) rfl (fun c2 => ?_) (fun c2 => ?_)
    · replace h := h.1 c2
      refine r_aload_n (pc' := 14) C 0 rfl rfl dX13_feed_13 rfl ?_
      refine r_geti (pc' := 17) (k := 73) C fl_X13_139 (by decide) kc_73 (by decide) fr_13_0 dX13_feed_14 rfl (fun f3 => ?_)
      replace h := h f3
      refine r_iload_n (pc' := 18) C 2 rfl rfl dX13_feed_17 rfl ?_
      refine r_iadd (pc' := 19) C dX13_feed_18 rfl ?_
      refine r_sipush (pc' := 22) C dX13_feed_19 (by decide) rfl ?_
      have o4 := h.1
      replace h := h.2
      refine r_icmp_le (pc' := 25) (tgt := 28) C o4 (by decide) dX13_feed_22 (by decide) rfl (fun c5 => ?_) (fun c5 => ?_)
      · replace h := h.1 c5
        refine r_iconst (pc' := 29) C dX13_feed_28 rfl ?_
        refine r_istore (pc' := 31) (ls' := [(0, .ref (gl_b Y + 73)), (1, .long (i64 x1)), (3, .int (i32 x3)), (4, .int (i32 0))]) C (by decide) rfl dX13_feed_29 rfl ?_
        exact Wa.sub [0, 1, 2, 3] rfl h
      · replace h := h.2 c5
        refine r_bipush (pc' := 27) C dX13_feed_25 (by decide) rfl ?_
        exact r_iret C (by decide) ⟨rfl, rfl, h⟩ dX13_feed_27
    · replace h := h.2 c2
      refine r_iconst (pc' := 12) C dX13_feed_11 rfl ?_
      exact r_iret C (by decide) ⟨rfl, rfl, h⟩ dX13_feed_12
def L_X13_extend_50 (Y : Gl) (X : Cx) (P : PN) (x1 : Int) (x2 : Int) (x3 : Int) (x4 : Int) (iv av : IVt) : Prop := Wa Y X 5 (g_MQ Y X 1 (g_N RV 116 P) 0 0) 0 0 50 [(0, .ref (gl_b Y + 73)), (1, .int (i32 x1)), (2, .int (i32 x2)), (3, .int (i32 x3)), (4, .int (i32 x4))] [] RV iv av 116
def L_X13_extend_91 (Y : Gl) (X : Cx) (P : PN) (x1 : Int) (x2 : Int) (x3 : Int) (x4 : Int) (iv av : IVt) : Prop := Wa Y X 5 (g_MQ Y X 1 (g_N RV 116 P) 0 0) 0 0 91 [(0, .ref (gl_b Y + 73)), (1, .int (i32 x1)), (2, .int (i32 x2)), (3, .int (i32 x3)), (4, .int (i32 x4))] [] RV iv av 116
set_option maxHeartbeats 4000000 in
set_option maxRecDepth 100000 in
theorem w_X13_extend_91 {Y : Gl} {X : Cx} {e : Nat} {P : PN} {x1 : Int} {x2 : Int} {x3 : Int} {x4 : Int} {iv av : IVt} (C : CX Y X RX13 "extend" cX13_extend 5 (some .int) e 0 0) (hx1 : InR x1) (hx3 : InR x3) (hx4 : InR x4) (h :
    ((64 ≤ x4) →
      (0 ≤ x1 ∧ x1 < 64) ∧
      ((InR (av 76 x1.toNat)) →
        (InR ((av 76 x1.toNat) + x2)) ∧
        P x3 iv (up2 av 76 x1.toNat ((av 76 x1.toNat) + x2))
      )
    ) ∧
    ((¬ 64 ≤ x4) →
      ((x4 = x1) →
        (0 ≤ x4 ∧ x4 < 64) ∧
        ((InR (av 75 x4.toNat)) →
          L_X13_extend_91 Y X P x1 x2 x3 (x4 + 1) iv (up2 av 75 x4.toNat (av 75 x4.toNat))
        )
      ) ∧
      ((¬ x4 = x1) →
        (0 ≤ x4 ∧ x4 < 64) ∧
        ((InR (av 75 x4.toNat)) →
          (((av 75 x4.toNat) < x3) →
            L_X13_extend_91 Y X P x1 x2 x3 (x4 + 1) iv (up2 av 75 x4.toNat (av 75 x4.toNat))
          ) ∧
          ((¬ (av 75 x4.toNat) < x3) →
            (InR ((av 75 x4.toNat) + x2)) ∧
            L_X13_extend_91 Y X P x1 x2 x3 (x4 + 1) iv (up2 av 75 x4.toNat ((av 75 x4.toNat) + x2))
          )
        )
      )
    )) : L_X13_extend_91 Y X P x1 x2 x3 x4 iv av := by
  unfold L_X13_extend_91
  refine r_iload (pc' := 93) C 4 rfl dX13_extend_91 rfl ?_
  refine r_bipush (pc' := 95) C dX13_extend_93 (by decide) rfl ?_
  refine r_icmp_ge (pc' := 98) (tgt := 147) C hx4 (by decide) dX13_extend_95 (by decide) rfl (fun c1 => ?_) (fun c1 => ?_)
  · replace h := h.1 c1
    refine r_aload_n (pc' := 148) C 0 rfl rfl dX13_extend_147 rfl ?_
    refine r_getr (pc' := 151) (k := 73) (r := 76) C fl_X13_17 (by decide) kc_73 (by decide) fr_13_3 RV_73_3 dX13_extend_148 rfl ?_
    refine r_iload_n (pc' := 152) C 1 rfl rfl dX13_extend_151 rfl ?_
    refine r_aload_n (pc' := 153) C 0 rfl rfl dX13_extend_152 rfl ?_
    refine r_getr (pc' := 156) (k := 73) (r := 76) C fl_X13_17 (by decide) kc_73 (by decide) fr_13_3 RV_73_3 dX13_extend_153 rfl ?_
    refine r_iload_n (pc' := 157) C 1 rfl rfl dX13_extend_156 rfl ?_
    have o2 := h.1
    replace h := h.2
    refine r_iald (pc' := 158) (k := 76) C (by decide) kc_76 (by have := kl_76; omega) dX13_extend_157 rfl (fun f3 => ?_)
    replace h := h f3
    refine r_iload_n (pc' := 159) C 2 rfl rfl dX13_extend_158 rfl ?_
    refine r_iadd (pc' := 160) C dX13_extend_159 rfl ?_
    have o4 := h.1
    replace h := h.2
    refine r_iast (pc' := 161) (k := 76) C (by decide) kc_76 (by have := kl_76; omega) o4 dX13_extend_160 rfl ?_
    refine r_iload_n (pc' := 162) C 3 rfl rfl dX13_extend_161 rfl ?_
    exact r_iret C hx3 ⟨rfl, rfl, h⟩ dX13_extend_162
  · replace h := h.2 c1
    refine r_aload_n (pc' := 99) C 0 rfl rfl dX13_extend_98 rfl ?_
    refine r_getr (pc' := 102) (k := 73) (r := 75) C fl_X13_13 (by decide) kc_73 (by decide) fr_13_2 RV_73_2 dX13_extend_99 rfl ?_
    refine r_iload (pc' := 104) C 4 rfl dX13_extend_102 rfl ?_
    refine r_iload (pc' := 106) C 4 rfl dX13_extend_104 rfl ?_
    refine r_iload_n (pc' := 107) C 1 rfl rfl dX13_extend_106 rfl ?_
    refine r_icmp_eq (pc' := 110) (tgt := 133) C hx4 hx1 dX13_extend_107 (by decide) rfl (fun c5 => ?_) (fun c5 => ?_)
    · replace h := h.1 c5
      refine r_aload_n (pc' := 134) C 0 rfl rfl dX13_extend_133 rfl ?_
      refine r_getr (pc' := 137) (k := 73) (r := 75) C fl_X13_13 (by decide) kc_73 (by decide) fr_13_2 RV_73_2 dX13_extend_134 rfl ?_
      refine r_iload (pc' := 139) C 4 rfl dX13_extend_137 rfl ?_
      have o6 := h.1
      replace h := h.2
      refine r_iald (pc' := 140) (k := 75) C (by decide) kc_75 (by have := kl_75; omega) dX13_extend_139 rfl (fun f7 => ?_)
      replace h := h f7
      refine r_iast (pc' := 141) (k := 75) C (by decide) kc_75 (by have := kl_75; omega) f7 dX13_extend_140 rfl ?_
      refine r_iinc (pc' := 144) (ls' := [(0, .ref (gl_b Y + 73)), (1, .int (i32 x1)), (2, .int (i32 x2)), (3, .int (i32 x3)), (4, .int (i32 (x4 + 1)))]) C 4 rfl (by decide) rfl dX13_extend_141 rfl ?_
      refine r_goto (tgt := 91) C dX13_extend_144 (by decide) ?_
      exact Wa.sub [0, 1, 2, 3, 4] rfl h
    · replace h := h.2 c5
      refine r_aload_n (pc' := 111) C 0 rfl rfl dX13_extend_110 rfl ?_
      refine r_getr (pc' := 114) (k := 73) (r := 75) C fl_X13_13 (by decide) kc_73 (by decide) fr_13_2 RV_73_2 dX13_extend_111 rfl ?_
      refine r_iload (pc' := 116) C 4 rfl dX13_extend_114 rfl ?_
      have o8 := h.1
      replace h := h.2
      refine r_iald (pc' := 117) (k := 75) C (by decide) kc_75 (by have := kl_75; omega) dX13_extend_116 rfl (fun f9 => ?_)
      replace h := h f9
      refine r_iload_n (pc' := 118) C 3 rfl rfl dX13_extend_117 rfl ?_
      refine r_icmp_lt (pc' := 121) (tgt := 133) C f9 hx3 dX13_extend_118 (by decide) rfl (fun c10 => ?_) (fun c10 => ?_)
      · replace h := h.1 c10
        refine r_aload_n (pc' := 134) C 0 rfl rfl dX13_extend_133 rfl ?_
        refine r_getr (pc' := 137) (k := 73) (r := 75) C fl_X13_13 (by decide) kc_73 (by decide) fr_13_2 RV_73_2 dX13_extend_134 rfl ?_
        refine r_iload (pc' := 139) C 4 rfl dX13_extend_137 rfl ?_
        refine r_iald (pc' := 140) (k := 75) C (by decide) kc_75 (by have := kl_75; omega) dX13_extend_139 rfl (fun f11 => ?_)
        refine r_iast (pc' := 141) (k := 75) C (by decide) kc_75 (by have := kl_75; omega) f9 dX13_extend_140 rfl ?_
        refine r_iinc (pc' := 144) (ls' := [(0, .ref (gl_b Y + 73)), (1, .int (i32 x1)), (2, .int (i32 x2)), (3, .int (i32 x3)), (4, .int (i32 (x4 + 1)))]) C 4 rfl (by decide) rfl dX13_extend_141 rfl ?_
        refine r_goto (tgt := 91) C dX13_extend_144 (by decide) ?_
        exact Wa.sub [0, 1, 2, 3, 4] rfl h
      · replace h := h.2 c10
        refine r_aload_n (pc' := 122) C 0 rfl rfl dX13_extend_121 rfl ?_
        refine r_getr (pc' := 125) (k := 73) (r := 75) C fl_X13_13 (by decide) kc_73 (by decide) fr_13_2 RV_73_2 dX13_extend_122 rfl ?_
        refine r_iload (pc' := 127) C 4 rfl dX13_extend_125 rfl ?_
        refine r_iald (pc' := 128) (k := 75) C (by decide) kc_75 (by have := kl_75; omega) dX13_extend_127 rfl (fun f12 => ?_)
        refine r_iload_n (pc' := 129) C 2 rfl rfl dX13_extend_128 rfl ?_
        refine r_iadd (pc' := 130) C dX13_extend_129 rfl ?_
        refine r_goto (tgt := 140) C dX13_extend_130 (by decide) ?_
        have o13 := h.1
        replace h := h.2
        refine r_iast (pc' := 141) (k := 75) C (by decide) kc_75 (by have := kl_75; omega) o13 dX13_extend_140 rfl ?_
        refine r_iinc (pc' := 144) (ls' := [(0, .ref (gl_b Y + 73)), (1, .int (i32 x1)), (2, .int (i32 x2)), (3, .int (i32 x3)), (4, .int (i32 (x4 + 1)))]) C 4 rfl (by decide) rfl dX13_extend_141 rfl ?_
        refine r_goto (tgt := 91) C dX13_extend_144 (by decide) ?_
        exact Wa.sub [0, 1, 2, 3, 4] rfl h
set_option maxHeartbeats 4000000 in
set_option maxRecDepth 100000 in
theorem w_X13_extend_50 {Y : Gl} {X : Cx} {e : Nat} {P : PN} {x1 : Int} {x2 : Int} {x3 : Int} {x4 : Int} {iv av : IVt} (C : CX Y X RX13 "extend" cX13_extend 5 (some .int) e 0 0) (hx3 : InR x3) (hx4 : InR x4) (h :
    ((x4 < x3) →
      ((InR (iv 73 5)) →
        (InR ((iv 73 5) + x2)) ∧
        L_X13_extend_91 Y X P x1 x2 x3 0 (up2 iv 73 5 ((iv 73 5) + x2)) av
      )
    ) ∧
    ((¬ x4 < x3) →
      (0 ≤ x4 ∧ x4 < 65536) ∧
      ((-128 ≤ (av 77 x4.toNat) ∧ (av 77 x4.toNat) ≤ 127) →
        (0 ≤ (x4 + x2) ∧ (x4 + x2) < 65536) ∧
        L_X13_extend_50 Y X P x1 x2 x3 (x4 + (-1)) iv (up2 av 77 ((x4 + x2).toNat) (bm8 (av 77 x4.toNat)))
      )
    )) : L_X13_extend_50 Y X P x1 x2 x3 x4 iv av := by
  unfold L_X13_extend_50
  refine r_iload (pc' := 52) C 4 rfl dX13_extend_50 rfl ?_
  refine r_iload_n (pc' := 53) C 3 rfl rfl dX13_extend_52 rfl ?_
  refine r_icmp_lt (pc' := 56) (tgt := 78) C hx4 hx3 dX13_extend_53 (by decide) rfl (fun c1 => ?_) (fun c1 => ?_)
  · replace h := h.1 c1
    refine r_aload_n (pc' := 79) C 0 rfl rfl dX13_extend_78 rfl ?_
    refine r_aload_n (pc' := 80) C 0 rfl rfl dX13_extend_79 rfl ?_
    refine r_geti (pc' := 83) (k := 73) C fl_X13_142 (by decide) kc_73 (by decide) fr_13_5 dX13_extend_80 rfl (fun f2 => ?_)
    replace h := h f2
    refine r_iload_n (pc' := 84) C 2 rfl rfl dX13_extend_83 rfl ?_
    refine r_iadd (pc' := 85) C dX13_extend_84 rfl ?_
    have o3 := h.1
    replace h := h.2
    refine r_puti (pc' := 88) (k := 73) C fl_X13_142 (by decide) kc_73 (by decide) fr_13_5 o3 dX13_extend_85 rfl ?_
    refine r_iconst (pc' := 89) C dX13_extend_88 rfl ?_
    refine r_istore (pc' := 91) (ls' := [(0, .ref (gl_b Y + 73)), (1, .int (i32 x1)), (2, .int (i32 x2)), (3, .int (i32 x3)), (4, .int (i32 0))]) C (by decide) rfl dX13_extend_89 rfl ?_
    exact Wa.sub [0, 1, 2, 3, 4] rfl h
  · replace h := h.2 c1
    refine r_aload_n (pc' := 57) C 0 rfl rfl dX13_extend_56 rfl ?_
    refine r_getr (pc' := 60) (k := 73) (r := 77) C fl_X13_21 (by decide) kc_73 (by decide) fr_13_4 RV_73_4 dX13_extend_57 rfl ?_
    refine r_iload (pc' := 62) C 4 rfl dX13_extend_60 rfl ?_
    refine r_iload_n (pc' := 63) C 2 rfl rfl dX13_extend_62 rfl ?_
    refine r_iadd (pc' := 64) C dX13_extend_63 rfl ?_
    refine r_aload_n (pc' := 65) C 0 rfl rfl dX13_extend_64 rfl ?_
    refine r_getr (pc' := 68) (k := 73) (r := 77) C fl_X13_21 (by decide) kc_73 (by decide) fr_13_4 RV_73_4 dX13_extend_65 rfl ?_
    refine r_iload (pc' := 70) C 4 rfl dX13_extend_68 rfl ?_
    have o4 := h.1
    replace h := h.2
    refine r_bald (pc' := 71) (k := 77) C (by decide) kc_77 (by have := kl_77; omega) dX13_extend_70 rfl (fun f5 => ?_)
    replace h := h f5
    have o6 := h.1
    replace h := h.2
    refine r_bast (pc' := 72) (k := 77) C (by decide) kc_77 (by have := kl_77; omega) dX13_extend_71 rfl ?_
    refine r_iinc (pc' := 75) (ls' := [(0, .ref (gl_b Y + 73)), (1, .int (i32 x1)), (2, .int (i32 x2)), (3, .int (i32 x3)), (4, .int (i32 (x4 + (-1))))]) C 4 rfl (by decide) rfl dX13_extend_72 rfl ?_
    refine r_goto (tgt := 50) C dX13_extend_75 (by decide) ?_
    exact Wa.sub [0, 1, 2, 3, 4] rfl h
set_option maxHeartbeats 4000000 in
set_option maxRecDepth 100000 in
theorem o_X13_extend {Y : Gl} {e : Nat} {P : PN} {x1 : Int} {x2 : Int} {iv av : IVt} (h : ∀ X : Cx, CX Y X RX13 "extend" cX13_extend 5 (some .int) e 0 0 →
    (0 ≤ x1 ∧ x1 < 64) ∧
    ((InR (av 76 x1.toNat)) →
      ((¬ (av 76 x1.toNat) = 0) →
        ((InR (av 75 x1.toNat)) →
          ((InR (iv 73 5)) →
            L_X13_extend_50 Y X P x1 x2 ((av 75 x1.toNat) + (av 76 x1.toNat)) ((iv 73 5) - 1) iv (up2 av 75 x1.toNat (av 75 x1.toNat))
          )
        )
      ) ∧
      (((av 76 x1.toNat) = 0) →
        ((InR (iv 73 5)) →
          L_X13_extend_50 Y X P x1 x2 ((iv 73 5) + (av 76 x1.toNat)) ((iv 73 5) - 1) iv (up2 av 75 x1.toNat (iv 73 5))
        )
      )
    )) : OkN Y e mX13_extend [.ref (gl_b Y + 73), .int (i32 x1), .int (i32 x2)] RV iv av 116 P := by
  refine OkW.of rfl (by show _ ≤ 5; exact Nat.le_of_ble_eq_true rfl) fun X C0 hR => ?_
  have C : CX Y X RX13 "extend" cX13_extend 5 (some .int) e 0 0 := C0
  replace h := h X C
  show Wa Y X 5 (g_MQ Y X 1 (g_N RV 116 P) 0 0) 0 0 0 [(0, .ref (gl_b Y + 73)), (1, .int (i32 x1)), (2, .int (i32 x2))] [] RV iv av 116
  refine r_aload_n (pc' := 1) C 0 rfl rfl dX13_extend_0 rfl ?_
  refine r_getr (pc' := 4) (k := 73) (r := 75) C fl_X13_13 (by decide) kc_73 (by decide) fr_13_2 RV_73_2 dX13_extend_1 rfl ?_
  refine r_iload_n (pc' := 5) C 1 rfl rfl dX13_extend_4 rfl ?_
  refine r_aload_n (pc' := 6) C 0 rfl rfl dX13_extend_5 rfl ?_
  refine r_getr (pc' := 9) (k := 73) (r := 76) C fl_X13_17 (by decide) kc_73 (by decide) fr_13_3 RV_73_3 dX13_extend_6 rfl ?_
  refine r_iload_n (pc' := 10) C 1 rfl rfl dX13_extend_9 rfl ?_
  have o1 := h.1
  replace h := h.2
  refine r_iald (pc' := 11) (k := 76) C (by decide) kc_76 (by have := kl_76; omega) dX13_extend_10 rfl (fun f2 => ?_)
  replace h := h f2
  refine r_if_ne (pc' := 14) (tgt := 21) C f2 dX13_extend_11 (by decide) rfl (fun c3 => ?_) (fun c3 => ?_)
  · replace h := h.1 c3
    refine r_aload_n (pc' := 22) C 0 rfl rfl dX13_extend_21 rfl ?_
    refine r_getr (pc' := 25) (k := 73) (r := 75) C fl_X13_13 (by decide) kc_73 (by decide) fr_13_2 RV_73_2 dX13_extend_22 rfl ?_
    refine r_iload_n (pc' := 26) C 1 rfl rfl dX13_extend_25 rfl ?_
    refine r_iald (pc' := 27) (k := 75) C (by decide) kc_75 (by have := kl_75; omega) dX13_extend_26 rfl (fun f4 => ?_)
    replace h := h f4
    refine r_iast (pc' := 28) (k := 75) C (by decide) kc_75 (by have := kl_75; omega) f4 dX13_extend_27 rfl ?_
    refine r_aload_n (pc' := 29) C 0 rfl rfl dX13_extend_28 rfl ?_
    refine r_getr (pc' := 32) (k := 73) (r := 75) C fl_X13_13 (by decide) kc_73 (by decide) fr_13_2 RV_73_2 dX13_extend_29 rfl ?_
    refine r_iload_n (pc' := 33) C 1 rfl rfl dX13_extend_32 rfl ?_
    refine r_iald (pc' := 34) (k := 75) C (by decide) kc_75 (by have := kl_75; omega) dX13_extend_33 rfl (fun f5 => ?_)
    have ef5 : (up2 av 75 x1.toNat (av 75 x1.toNat)) 75 x1.toNat = (av 75 x1.toNat) := by simp [up2]
    rw [ef5] at f5 ⊢
    refine r_aload_n (pc' := 35) C 0 rfl rfl dX13_extend_34 rfl ?_
    refine r_getr (pc' := 38) (k := 73) (r := 76) C fl_X13_17 (by decide) kc_73 (by decide) fr_13_3 RV_73_3 dX13_extend_35 rfl ?_
    refine r_iload_n (pc' := 39) C 1 rfl rfl dX13_extend_38 rfl ?_
    refine r_iald (pc' := 40) (k := 76) C (by decide) kc_76 (by have := kl_76; omega) dX13_extend_39 rfl (fun f6 => ?_)
    have ef6 : (up2 av 75 x1.toNat (av 75 x1.toNat)) 76 x1.toNat = (av 76 x1.toNat) := by simp [up2]
    rw [ef6] at f6 ⊢
    refine r_iadd (pc' := 41) C dX13_extend_40 rfl ?_
    refine r_istore_n (pc' := 42) (ls' := [(0, .ref (gl_b Y + 73)), (1, .int (i32 x1)), (2, .int (i32 x2)), (3, .int (i32 ((av 75 x1.toNat) + (av 76 x1.toNat))))]) C (by decide) rfl rfl dX13_extend_41 rfl ?_
    refine r_aload_n (pc' := 43) C 0 rfl rfl dX13_extend_42 rfl ?_
    refine r_geti (pc' := 46) (k := 73) C fl_X13_142 (by decide) kc_73 (by decide) fr_13_5 dX13_extend_43 rfl (fun f7 => ?_)
    replace h := h f7
    refine r_iconst (pc' := 47) C dX13_extend_46 rfl ?_
    refine r_isub (pc' := 48) C dX13_extend_47 rfl ?_
    refine r_istore (pc' := 50) (ls' := [(0, .ref (gl_b Y + 73)), (1, .int (i32 x1)), (2, .int (i32 x2)), (3, .int (i32 ((av 75 x1.toNat) + (av 76 x1.toNat)))), (4, .int (i32 ((iv 73 5) - 1)))]) C (by decide) rfl dX13_extend_48 rfl ?_
    exact Wa.sub [0, 1, 2, 3, 4] rfl h
  · replace h := h.2 c3
    refine r_aload_n (pc' := 15) C 0 rfl rfl dX13_extend_14 rfl ?_
    refine r_geti (pc' := 18) (k := 73) C fl_X13_142 (by decide) kc_73 (by decide) fr_13_5 dX13_extend_15 rfl (fun f8 => ?_)
    replace h := h f8
    refine r_goto (tgt := 27) C dX13_extend_18 (by decide) ?_
    refine r_iast (pc' := 28) (k := 75) C (by decide) kc_75 (by have := kl_75; omega) f8 dX13_extend_27 rfl ?_
    refine r_aload_n (pc' := 29) C 0 rfl rfl dX13_extend_28 rfl ?_
    refine r_getr (pc' := 32) (k := 73) (r := 75) C fl_X13_13 (by decide) kc_73 (by decide) fr_13_2 RV_73_2 dX13_extend_29 rfl ?_
    refine r_iload_n (pc' := 33) C 1 rfl rfl dX13_extend_32 rfl ?_
    refine r_iald (pc' := 34) (k := 75) C (by decide) kc_75 (by have := kl_75; omega) dX13_extend_33 rfl (fun f9 => ?_)
    have ef9 : (up2 av 75 x1.toNat (iv 73 5)) 75 x1.toNat = (iv 73 5) := by simp [up2]
    rw [ef9] at f9 ⊢
    refine r_aload_n (pc' := 35) C 0 rfl rfl dX13_extend_34 rfl ?_
    refine r_getr (pc' := 38) (k := 73) (r := 76) C fl_X13_17 (by decide) kc_73 (by decide) fr_13_3 RV_73_3 dX13_extend_35 rfl ?_
    refine r_iload_n (pc' := 39) C 1 rfl rfl dX13_extend_38 rfl ?_
    refine r_iald (pc' := 40) (k := 76) C (by decide) kc_76 (by have := kl_76; omega) dX13_extend_39 rfl (fun f10 => ?_)
    have ef10 : (up2 av 75 x1.toNat (iv 73 5)) 76 x1.toNat = (av 76 x1.toNat) := by simp [up2]
    rw [ef10] at f10 ⊢
    refine r_iadd (pc' := 41) C dX13_extend_40 rfl ?_
    refine r_istore_n (pc' := 42) (ls' := [(0, .ref (gl_b Y + 73)), (1, .int (i32 x1)), (2, .int (i32 x2)), (3, .int (i32 ((iv 73 5) + (av 76 x1.toNat))))]) C (by decide) rfl rfl dX13_extend_41 rfl ?_
    refine r_aload_n (pc' := 43) C 0 rfl rfl dX13_extend_42 rfl ?_
    refine r_geti (pc' := 46) (k := 73) C fl_X13_142 (by decide) kc_73 (by decide) fr_13_5 dX13_extend_43 rfl (fun f11 => ?_)
    refine r_iconst (pc' := 47) C dX13_extend_46 rfl ?_
    refine r_isub (pc' := 48) C dX13_extend_47 rfl ?_
    refine r_istore (pc' := 50) (ls' := [(0, .ref (gl_b Y + 73)), (1, .int (i32 x1)), (2, .int (i32 x2)), (3, .int (i32 ((iv 73 5) + (av 76 x1.toNat)))), (4, .int (i32 ((iv 73 5) - 1)))]) C (by decide) rfl dX13_extend_48 rfl ?_
    exact Wa.sub [0, 1, 2, 3, 4] rfl h
def L_X13_write_59 (Y : Gl) (X : Cx) (P : PN) (x1 : Int) (x2 : Int) (x3 : Int) (x4 : Int) (x5 : Int) (iv av : IVt) : Prop := Wa Y X 6 (g_MQ Y X 1 (g_N RV 116 P) 0 0) 0 0 59 [(0, .ref (gl_b Y + 73)), (1, .int (i32 x1)), (2, .int (i32 x2)), (3, .int (i32 x3)), (4, .int (i32 x4)), (5, .int (i32 x5))] [] RV iv av 116
set_option maxHeartbeats 4000000 in
set_option maxRecDepth 100000 in
theorem w_X13_write_59 {Y : Gl} {X : Cx} {e : Nat} {P : PN} {x1 : Int} {x2 : Int} {x3 : Int} {x4 : Int} {x5 : Int} {iv av : IVt} (C : CX Y X RX13 "write" cX13_write 6 (some .int) (e + 1) 0 0) (hx3 : InR x3) (hx5 : InR x5) (h :
    (InR (x3 * x2)) ∧
    (((x3 * x2) ≤ x5) →
      (0 ≤ x1 ∧ x1 < 64) ∧
      ((InR (av 76 x1.toNat)) →
        P (av 76 x1.toNat) iv av
      )
    ) ∧
    ((¬ (x3 * x2) ≤ x5) →
      (0 ≤ x5) ∧
      (0 < x3) ∧
      (0 ≤ (x5 % x3) ∧ (x5 % x3) < 1024) ∧
      ((-128 ≤ (av 74 (x5 % x3).toNat) ∧ (av 74 (x5 % x3).toNat) ≤ 127) →
        (0 ≤ (x4 + x5) ∧ (x4 + x5) < 65536) ∧
        L_X13_write_59 Y X P x1 x2 x3 x4 (x5 + 1) iv (up2 av 77 ((x4 + x5).toNat) (bm8 (av 74 (x5 % x3).toNat)))
      )
    )) : L_X13_write_59 Y X P x1 x2 x3 x4 x5 iv av := by
  unfold L_X13_write_59
  refine r_iload (pc' := 61) C 5 rfl dX13_write_59 rfl ?_
  refine r_iload_n (pc' := 62) C 3 rfl rfl dX13_write_61 rfl ?_
  refine r_iload_n (pc' := 63) C 2 rfl rfl dX13_write_62 rfl ?_
  refine r_imul (pc' := 64) C dX13_write_63 rfl ?_
  have o1 := h.1
  replace h := h.2
  refine r_icmp_ge (pc' := 67) (tgt := 92) C hx5 o1 dX13_write_64 (by decide) rfl (fun c2 => ?_) (fun c2 => ?_)
  · replace h := h.1 c2
    refine r_aload_n (pc' := 93) C 0 rfl rfl dX13_write_92 rfl ?_
    refine r_getr (pc' := 96) (k := 73) (r := 76) C fl_X13_17 (by decide) kc_73 (by decide) fr_13_3 RV_73_3 dX13_write_93 rfl ?_
    refine r_iload_n (pc' := 97) C 1 rfl rfl dX13_write_96 rfl ?_
    have o3 := h.1
    replace h := h.2
    refine r_iald (pc' := 98) (k := 76) C (by decide) kc_76 (by have := kl_76; omega) dX13_write_97 rfl (fun f4 => ?_)
    replace h := h f4
    exact r_iret C f4 ⟨rfl, rfl, h⟩ dX13_write_98
  · replace h := h.2 c2
    refine r_aload_n (pc' := 68) C 0 rfl rfl dX13_write_67 rfl ?_
    refine r_getr (pc' := 71) (k := 73) (r := 77) C fl_X13_21 (by decide) kc_73 (by decide) fr_13_4 RV_73_4 dX13_write_68 rfl ?_
    refine r_iload (pc' := 73) C 4 rfl dX13_write_71 rfl ?_
    refine r_iload (pc' := 75) C 5 rfl dX13_write_73 rfl ?_
    refine r_iadd (pc' := 76) C dX13_write_75 rfl ?_
    refine r_aload_n (pc' := 77) C 0 rfl rfl dX13_write_76 rfl ?_
    refine r_getr (pc' := 80) (k := 73) (r := 74) C fl_X13_9 (by decide) kc_73 (by decide) fr_13_1 RV_73_1 dX13_write_77 rfl ?_
    refine r_iload (pc' := 82) C 5 rfl dX13_write_80 rfl ?_
    refine r_iload_n (pc' := 83) C 3 rfl rfl dX13_write_82 rfl ?_
    have o5 := h.1
    replace h := h.2
    have o6 := h.1
    replace h := h.2
    refine r_irem (pc' := 84) C ⟨o5, hx5⟩ ⟨o6, hx3⟩ dX13_write_83 rfl ?_
    have o7 := h.1
    replace h := h.2
    refine r_bald (pc' := 85) (k := 74) C (by decide) kc_74 (by have := kl_74; omega) dX13_write_84 rfl (fun f8 => ?_)
    replace h := h f8
    have o9 := h.1
    replace h := h.2
    refine r_bast (pc' := 86) (k := 77) C (by decide) kc_77 (by have := kl_77; omega) dX13_write_85 rfl ?_
    refine r_iinc (pc' := 89) (ls' := [(0, .ref (gl_b Y + 73)), (1, .int (i32 x1)), (2, .int (i32 x2)), (3, .int (i32 x3)), (4, .int (i32 x4)), (5, .int (i32 (x5 + 1)))]) C 5 rfl (by decide) rfl dX13_write_86 rfl ?_
    refine r_goto (tgt := 59) C dX13_write_89 (by decide) ?_
    exact Wa.sub [0, 1, 2, 3, 4, 5] rfl h
set_option maxHeartbeats 4000000 in
set_option maxRecDepth 100000 in
theorem o_X13_write {Y : Gl} {e : Nat} {P : PN} {x1 : Int} {x2 : Int} {iv av : IVt} (hx1 : InR x1) (hx2 : InR x2) (h : ∀ X : Cx, CX Y X RX13 "write" cX13_write 6 (some .int) (e + 1) 0 0 →
    ((InR (iv 73 0)) →
      OkN Y e mX13_isFile [.int (i32 x1)] RV (up2 iv 73 0 0) av 116 (fun r2 iv3 av4 =>
        (InR r2) →
        ((r2 = 0) →
          P (-1) iv3 av4
        ) ∧
        ((¬ r2 = 0) →
          ((x2 < 1) →
            P (-1) iv3 av4
          ) ∧
          ((¬ x2 < 1) →
            ((x2 ≤ 64) →
              ((InR (iv3 73 5)) →
                (InR ((iv3 73 5) + ((iv 73 0) * x2))) ∧
                ((((iv3 73 5) + ((iv 73 0) * x2)) ≤ 65536) →
                  (InR ((iv 73 0) * x2)) ∧
                  OkN Y e mX13_extend [.ref (gl_b Y + 73), .int (i32 x1), .int (i32 ((iv 73 0) * x2))] RV iv3 av4 116 (fun r13 iv14 av15 =>
                    (InR r13) →
                    L_X13_write_59 Y X P x1 x2 (iv 73 0) r13 0 iv14 av15
                  )
                ) ∧
                ((¬ ((iv3 73 5) + ((iv 73 0) * x2)) ≤ 65536) →
                  P (-3) iv3 av4
                )
              )
            ) ∧
            ((¬ x2 ≤ 64) →
              P (-1) iv3 av4
            )
          )
        )
      )
    )) : OkN Y (e + 1) mX13_write [.ref (gl_b Y + 73), .int (i32 x1), .int (i32 x2)] RV iv av 116 P := by
  refine OkW.of rfl (by show _ ≤ 6; exact Nat.le_of_ble_eq_true rfl) fun X C0 hR => ?_
  have C : CX Y X RX13 "write" cX13_write 6 (some .int) (e + 1) 0 0 := C0
  replace h := h X C
  show Wa Y X 6 (g_MQ Y X 1 (g_N RV 116 P) 0 0) 0 0 0 [(0, .ref (gl_b Y + 73)), (1, .int (i32 x1)), (2, .int (i32 x2))] [] RV iv av 116
  refine r_aload_n (pc' := 1) C 0 rfl rfl dX13_write_0 rfl ?_
  refine r_geti (pc' := 4) (k := 73) C fl_X13_139 (by decide) kc_73 (by decide) fr_13_0 dX13_write_1 rfl (fun f1 => ?_)
  replace h := h f1
  refine r_istore_n (pc' := 5) (ls' := [(0, .ref (gl_b Y + 73)), (1, .int (i32 x1)), (2, .int (i32 x2)), (3, .int (i32 (iv 73 0)))]) C (by decide) rfl rfl dX13_write_4 rfl ?_
  refine r_aload_n (pc' := 6) C 0 rfl rfl dX13_write_5 rfl ?_
  refine r_iconst (pc' := 7) C dX13_write_6 rfl ?_
  refine r_puti (pc' := 10) (k := 73) C fl_X13_139 (by decide) kc_73 (by decide) fr_13_0 (by decide) dX13_write_7 rfl ?_
  refine r_iload_n (pc' := 11) C 1 rfl rfl dX13_write_10 rfl ?_
  refine c_Si (pc' := 14) (mt := mX13_isFile) (as := [.int (i32 x1)]) (st := []) C h rfl cl_X13_isFile ml_X13_145 sm_X13_isFile (by omega) (Nat.le_refl _) (Nat.le_refl _) rfl rfl (Nat.le_of_ble_eq_true rfl) dX13_write_11 rfl (fun r2 iv3 av4 f5 h => ?_)
  replace h := h f5
  refine r_if_eq (pc' := 17) (tgt := 28) C f5 dX13_write_14 (by decide) rfl (fun c6 => ?_) (fun c6 => ?_)
  · replace h := h.1 c6
    refine r_iconst (pc' := 29) C dX13_write_28 rfl ?_
    exact r_iret C (by decide) ⟨rfl, rfl, h⟩ dX13_write_29
  · replace h := h.2 c6
    refine r_iload_n (pc' := 18) C 2 rfl rfl dX13_write_17 rfl ?_
    refine r_iconst (pc' := 19) C dX13_write_18 rfl ?_
    refine r_icmp_lt (pc' := 22) (tgt := 28) C hx2 (by decide) dX13_write_19 (by decide) rfl (fun c7 => ?_) (fun c7 => ?_)
    · replace h := h.1 c7
      refine r_iconst (pc' := 29) C dX13_write_28 rfl ?_
      exact r_iret C (by decide) ⟨rfl, rfl, h⟩ dX13_write_29
    · replace h := h.2 c7
      refine r_iload_n (pc' := 23) C 2 rfl rfl dX13_write_22 rfl ?_
      refine r_bipush (pc' := 25) C dX13_write_23 (by decide) rfl ?_
      refine r_icmp_le (pc' := 28) (tgt := 30) C hx2 (by decide) dX13_write_25 (by decide) rfl (fun c8 => ?_) (fun c8 => ?_)
      · replace h := h.1 c8
        refine r_aload_n (pc' := 31) C 0 rfl rfl dX13_write_30 rfl ?_
        refine r_geti (pc' := 34) (k := 73) C fl_X13_142 (by decide) kc_73 (by decide) fr_13_5 dX13_write_31 rfl (fun f9 => ?_)
        replace h := h f9
        refine r_iload_n (pc' := 35) C 3 rfl rfl dX13_write_34 rfl ?_
        refine r_iload_n (pc' := 36) C 2 rfl rfl dX13_write_35 rfl ?_
        refine r_imul (pc' := 37) C dX13_write_36 rfl ?_
        refine r_iadd (pc' := 38) C dX13_write_37 rfl ?_
        refine r_ldc (pc' := 40) (x := 65536) C ct_X13_20 (by decide) dX13_write_38 rfl ?_
        have o10 := h.1
        replace h := h.2
        refine r_icmp_le (pc' := 43) (tgt := 46) C o10 (by decide) dX13_write_40 (by decide) rfl (fun c11 => ?_) (fun c11 => ?_)
        · replace h := h.1 c11
          refine r_aload_n (pc' := 47) C 0 rfl rfl dX13_write_46 rfl ?_
          refine r_iload_n (pc' := 48) C 1 rfl rfl dX13_write_47 rfl ?_
          refine r_iload_n (pc' := 49) C 3 rfl rfl dX13_write_48 rfl ?_
          refine r_iload_n (pc' := 50) C 2 rfl rfl dX13_write_49 rfl ?_
          refine r_imul (pc' := 51) C dX13_write_50 rfl ?_
          have o12 := h.1
          replace h := h.2
          refine c_Vi (pc' := 54) (mt := mX13_extend) (as := [.int (i32 x1), .int (i32 ((iv 73 0) * x2))]) (st := []) (k := 73) C h rfl cl_X13_extend ml_X13_149 im_X13_extend sl_X13_extend (by omega) (Nat.le_refl _) (Nat.le_refl _) rfl (by decide) kc_73 (by decide) rfl rfl rfl (Nat.le_of_ble_eq_true rfl) dX13_write_51 rfl (fun r13 iv14 av15 f16 h => ?_)
          replace h := h f16
          refine r_istore (pc' := 56) (ls' := [(0, .ref (gl_b Y + 73)), (1, .int (i32 x1)), (2, .int (i32 x2)), (3, .int (i32 (iv 73 0))), (4, .int (i32 r13))]) C (by decide) rfl dX13_write_54 rfl ?_
          refine r_iconst (pc' := 57) C dX13_write_56 rfl ?_
          refine r_istore (pc' := 59) (ls' := [(0, .ref (gl_b Y + 73)), (1, .int (i32 x1)), (2, .int (i32 x2)), (3, .int (i32 (iv 73 0))), (4, .int (i32 r13)), (5, .int (i32 0))]) C (by decide) rfl dX13_write_57 rfl ?_
          exact Wa.sub [0, 1, 2, 3, 4, 5] rfl h
        · replace h := h.2 c11
          refine r_bipush (pc' := 45) C dX13_write_43 (by decide) rfl ?_
          exact r_iret C (by decide) ⟨rfl, rfl, h⟩ dX13_write_45
      · replace h := h.2 c8
        refine r_iconst (pc' := 29) C dX13_write_28 rfl ?_
        exact r_iret C (by decide) ⟨rfl, rfl, h⟩ dX13_write_29
def L_X13_fill_61 (Y : Gl) (X : Cx) (P : PN) (x1 : Int) (x2 : Int) (x3 : Int) (x4 : Int) (x5 : Int) (x6 : Int) (x7 : Int) (iv av : IVt) : Prop := Wa Y X 8 (g_MQ Y X 1 (g_N RV 116 P) 0 0) 0 0 61 [(0, .ref (gl_b Y + 73)), (1, .int (i32 x1)), (2, .int (i32 x2)), (3, .int (i32 x3)), (4, .int (i32 x4)), (5, .int (i32 x5)), (6, .int (i32 x6)), (7, .int (i32 x7))] [] RV iv av 116
set_option maxHeartbeats 4000000 in
set_option maxRecDepth 100000 in
theorem w_X13_fill_61 {Y : Gl} {X : Cx} {e : Nat} {P : PN} {x1 : Int} {x2 : Int} {x3 : Int} {x4 : Int} {x5 : Int} {x6 : Int} {x7 : Int} {iv av : IVt} (C : CX Y X RX13 "fill" cX13_fill 8 (some .int) (e + 1) 0 0) (hx2 : InR x2) (hx4 : InR x4) (hx7 : InR x7) (h :
    ((x4 ≤ x7) →
      (0 ≤ x1 ∧ x1 < 64) ∧
      ((InR (av 76 x1.toNat)) →
        P (av 76 x1.toNat) iv av
      )
    ) ∧
    ((¬ x4 ≤ x7) →
      ((¬ x2 = 0) →
        (0 ≤ (x5 + x7) ∧ (x5 + x7) < 65536) ∧
        L_X13_fill_61 Y X P x1 x2 x3 x4 x5 (bm32 ((1103515245 * x6) + 12345)) (x7 + 1) iv (up2 av 77 ((x5 + x7).toNat) (bm8 (bm8 ((bm32 ((1103515245 * x6) + 12345)) / 65536))))
      ) ∧
      ((x2 = 0) →
        (0 ≤ (x5 + x7) ∧ (x5 + x7) < 65536) ∧
        L_X13_fill_61 Y X P x1 x2 x3 x4 x5 (bm32 ((1103515245 * x6) + 12345)) (x7 + 1) iv (up2 av 77 ((x5 + x7).toNat) (bm8 (bm8 x3)))
      )
    )) : L_X13_fill_61 Y X P x1 x2 x3 x4 x5 x6 x7 iv av := by
  unfold L_X13_fill_61
  refine r_iload (pc' := 63) C 7 rfl dX13_fill_61 rfl ?_
  refine r_iload (pc' := 65) C 4 rfl dX13_fill_63 rfl ?_
  refine r_icmp_ge (pc' := 68) (tgt := 109) C hx7 hx4 dX13_fill_65 (by decide) rfl (fun c1 => ?_) (fun c1 => ?_)
  · replace h := h.1 c1
    refine r_aload_n (pc' := 110) C 0 rfl rfl dX13_fill_109 rfl ?_
    refine r_getr (pc' := 113) (k := 73) (r := 76) C fl_X13_17 (by decide) kc_73 (by decide) fr_13_3 RV_73_3 dX13_fill_110 rfl ?_
    refine r_iload_n (pc' := 114) C 1 rfl rfl dX13_fill_113 rfl ?_
    have o2 := h.1
    replace h := h.2
    refine r_iald (pc' := 115) (k := 76) C (by decide) kc_76 (by have := kl_76; omega) dX13_fill_114 rfl (fun f3 => ?_)
    replace h := h f3
    exact r_iret C f3 ⟨rfl, rfl, h⟩ dX13_fill_115
  · replace h := h.2 c1
    refine r_ldc (pc' := 70) (x := 1103515245) C ct_X13_153 (by decide) dX13_fill_68 rfl ?_
    refine r_iload (pc' := 72) C 6 rfl dX13_fill_70 rfl ?_
    refine r_imul (pc' := 73) C dX13_fill_72 rfl ?_
    refine r_sipush (pc' := 76) C dX13_fill_73 (by decide) rfl ?_
    refine r_iadd (pc' := 77) C dX13_fill_76 rfl ?_
    refine r_wrap ?_
    refine r_istore (pc' := 79) (ls' := [(0, .ref (gl_b Y + 73)), (1, .int (i32 x1)), (2, .int (i32 x2)), (3, .int (i32 x3)), (4, .int (i32 x4)), (5, .int (i32 x5)), (6, .int (i32 (bm32 ((1103515245 * x6) + 12345)))), (7, .int (i32 x7))]) C (by decide) rfl dX13_fill_77 rfl ?_
    refine r_aload_n (pc' := 80) C 0 rfl rfl dX13_fill_79 rfl ?_
    refine r_getr (pc' := 83) (k := 73) (r := 77) C fl_X13_21 (by decide) kc_73 (by decide) fr_13_4 RV_73_4 dX13_fill_80 rfl ?_
    refine r_iload (pc' := 85) C 5 rfl dX13_fill_83 rfl ?_
    refine r_iload (pc' := 87) C 7 rfl dX13_fill_85 rfl ?_
    refine r_iadd (pc' := 88) C dX13_fill_87 rfl ?_
    refine r_iload_n (pc' := 89) C 2 rfl rfl dX13_fill_88 rfl ?_
    refine r_if_ne (pc' := 92) (tgt := 96) C hx2 dX13_fill_89 (by decide) rfl (fun c4 => ?_) (fun c4 => ?_)
    · replace h := h.1 c4
      refine r_iload (pc' := 98) C 6 rfl dX13_fill_96 rfl ?_
      refine r_bipush (pc' := 100) C dX13_fill_98 (by decide) rfl ?_
      refine r_ishrC (pc' := 101) (m := 65536) C (bm32_in _) (by decide) (by decide) dX13_fill_100 rfl ?_
      refine r_i2b (pc' := 102) C dX13_fill_101 rfl ?_
      have o5 := h.1
      replace h := h.2
      refine r_bast (pc' := 103) (k := 77) C (by decide) kc_77 (by have := kl_77; omega) dX13_fill_102 rfl ?_
      refine r_iinc (pc' := 106) (ls' := [(0, .ref (gl_b Y + 73)), (1, .int (i32 x1)), (2, .int (i32 x2)), (3, .int (i32 x3)), (4, .int (i32 x4)), (5, .int (i32 x5)), (6, .int (i32 (bm32 ((1103515245 * x6) + 12345)))), (7, .int (i32 (x7 + 1)))]) C 7 rfl (by decide) rfl dX13_fill_103 rfl ?_
      refine r_goto (tgt := 61) C dX13_fill_106 (by decide) ?_
      exact Wa.sub [0, 1, 2, 3, 4, 5, 6, 7] rfl h
    · replace h := h.2 c4
      refine r_iload_n (pc' := 93) C 3 rfl rfl dX13_fill_92 rfl ?_
      refine r_goto (tgt := 101) C dX13_fill_93 (by decide) ?_
      refine r_i2b (pc' := 102) C dX13_fill_101 rfl ?_
      have o6 := h.1
      replace h := h.2
      refine r_bast (pc' := 103) (k := 77) C (by decide) kc_77 (by have := kl_77; omega) dX13_fill_102 rfl ?_
      refine r_iinc (pc' := 106) (ls' := [(0, .ref (gl_b Y + 73)), (1, .int (i32 x1)), (2, .int (i32 x2)), (3, .int (i32 x3)), (4, .int (i32 x4)), (5, .int (i32 x5)), (6, .int (i32 (bm32 ((1103515245 * x6) + 12345)))), (7, .int (i32 (x7 + 1)))]) C 7 rfl (by decide) rfl dX13_fill_103 rfl ?_
      refine r_goto (tgt := 61) C dX13_fill_106 (by decide) ?_
      exact Wa.sub [0, 1, 2, 3, 4, 5, 6, 7] rfl h
set_option maxHeartbeats 4000000 in
set_option maxRecDepth 100000 in
theorem o_X13_fill {Y : Gl} {e : Nat} {P : PN} {x1 : Int} {x2 : Int} {x3 : Int} {x4 : Int} {iv av : IVt} (hx1 : InR x1) (hx2 : InR x2) (hx4 : InR x4) (h : ∀ X : Cx, CX Y X RX13 "fill" cX13_fill 8 (some .int) (e + 1) 0 0 →
    OkN Y e mX13_isFile [.int (i32 x1)] RV iv av 116 (fun r1 iv2 av3 =>
      (InR r1) →
      ((r1 = 0) →
        P (-1) iv2 av3
      ) ∧
      ((¬ r1 = 0) →
        ((x2 < 0) →
          P (-1) iv2 av3
        ) ∧
        ((¬ x2 < 0) →
          ((1 < x2) →
            P (-1) iv2 av3
          ) ∧
          ((¬ 1 < x2) →
            ((x4 < 1) →
              P (-1) iv2 av3
            ) ∧
            ((¬ x4 < 1) →
              ((x4 ≤ 65536) →
                ((InR (iv2 73 5)) →
                  (InR ((iv2 73 5) + x4)) ∧
                  ((((iv2 73 5) + x4) ≤ 65536) →
                    OkN Y e mX13_extend [.ref (gl_b Y + 73), .int (i32 x1), .int (i32 x4)] RV iv2 av3 116 (fun r13 iv14 av15 =>
                      (InR r13) →
                      L_X13_fill_61 Y X P x1 x2 x3 x4 r13 x3 0 iv14 av15
                    )
                  ) ∧
                  ((¬ ((iv2 73 5) + x4) ≤ 65536) →
                    P (-3) iv2 av3
                  )
                )
              ) ∧
              ((¬ x4 ≤ 65536) →
                P (-1) iv2 av3
              )
            )
          )
        )
      )
    )) : OkN Y (e + 1) mX13_fill [.ref (gl_b Y + 73), .int (i32 x1), .int (i32 x2), .int (i32 x3), .int (i32 x4)] RV iv av 116 P := by
  refine OkW.of rfl (by show _ ≤ 8; exact Nat.le_of_ble_eq_true rfl) fun X C0 hR => ?_
  have C : CX Y X RX13 "fill" cX13_fill 8 (some .int) (e + 1) 0 0 := C0
  replace h := h X C
  show Wa Y X 8 (g_MQ Y X 1 (g_N RV 116 P) 0 0) 0 0 0 [(0, .ref (gl_b Y + 73)), (1, .int (i32 x1)), (2, .int (i32 x2)), (3, .int (i32 x3)), (4, .int (i32 x4))] [] RV iv av 116
  refine r_iload_n (pc' := 1) C 1 rfl rfl dX13_fill_0 rfl ?_
  refine c_Si (pc' := 4) (mt := mX13_isFile) (as := [.int (i32 x1)]) (st := []) C h rfl cl_X13_isFile ml_X13_145 sm_X13_isFile (by omega) (Nat.le_refl _) (Nat.le_refl _) rfl rfl (Nat.le_of_ble_eq_true rfl) dX13_fill_1 rfl (fun r1 iv2 av3 f4 h => ?_)
  replace h := h f4
  refine r_if_eq (pc' := 7) (tgt := 29) C f4 dX13_fill_4 (by decide) rfl (fun c5 => ?_) (fun c5 => ?_)
  · replace h := h.1 c5
    refine r_iconst (pc' := 30) C dX13_fill_29 rfl ?_
    exact r_iret C (by decide) ⟨rfl, rfl, h⟩ dX13_fill_30
  · replace h := h.2 c5
    refine r_iload_n (pc' := 8) C 2 rfl rfl dX13_fill_7 rfl ?_
    refine r_if_lt (pc' := 11) (tgt := 29) C hx2 dX13_fill_8 (by decide) rfl (fun c6 => ?_) (fun c6 => ?_)
    · replace h := h.1 c6
      refine r_iconst (pc' := 30) C dX13_fill_29 rfl ?_
      exact r_iret C (by decide) ⟨rfl, rfl, h⟩ dX13_fill_30
    · replace h := h.2 c6
      refine r_iload_n (pc' := 12) C 2 rfl rfl dX13_fill_11 rfl ?_
      refine r_iconst (pc' := 13) C dX13_fill_12 rfl ?_
      refine r_icmp_gt (pc' := 16) (tgt := 29) C hx2 (by decide) dX13_fill_13 (by decide) rfl (fun c7 => ?_) (fun c7 => ?_)
      · replace h := h.1 c7
        refine r_iconst (pc' := 30) C dX13_fill_29 rfl ?_
        exact r_iret C (by decide) ⟨rfl, rfl, h⟩ dX13_fill_30
      · replace h := h.2 c7
        refine r_iload (pc' := 18) C 4 rfl dX13_fill_16 rfl ?_
        refine r_iconst (pc' := 19) C dX13_fill_18 rfl ?_
        refine r_icmp_lt (pc' := 22) (tgt := 29) C hx4 (by decide) dX13_fill_19 (by decide) rfl (fun c8 => ?_) (fun c8 => ?_)
        · replace h := h.1 c8
          refine r_iconst (pc' := 30) C dX13_fill_29 rfl ?_
          exact r_iret C (by decide) ⟨rfl, rfl, h⟩ dX13_fill_30
        · replace h := h.2 c8
          refine r_iload (pc' := 24) C 4 rfl dX13_fill_22 rfl ?_
          refine r_ldc (pc' := 26) (x := 65536) C ct_X13_20 (by decide) dX13_fill_24 rfl ?_
          refine r_icmp_le (pc' := 29) (tgt := 31) C hx4 (by decide) dX13_fill_26 (by decide) rfl (fun c9 => ?_) (fun c9 => ?_)
          · replace h := h.1 c9
            refine r_aload_n (pc' := 32) C 0 rfl rfl dX13_fill_31 rfl ?_
            refine r_geti (pc' := 35) (k := 73) C fl_X13_142 (by decide) kc_73 (by decide) fr_13_5 dX13_fill_32 rfl (fun f10 => ?_)
            replace h := h f10
            refine r_iload (pc' := 37) C 4 rfl dX13_fill_35 rfl ?_
            refine r_iadd (pc' := 38) C dX13_fill_37 rfl ?_
            refine r_ldc (pc' := 40) (x := 65536) C ct_X13_20 (by decide) dX13_fill_38 rfl ?_
            have o11 := h.1
            replace h := h.2
            refine r_icmp_le (pc' := 43) (tgt := 46) C o11 (by decide) dX13_fill_40 (by decide) rfl (fun c12 => ?_) (fun c12 => ?_)
            · replace h := h.1 c12
              refine r_aload_n (pc' := 47) C 0 rfl rfl dX13_fill_46 rfl ?_
              refine r_iload_n (pc' := 48) C 1 rfl rfl dX13_fill_47 rfl ?_
              refine r_iload (pc' := 50) C 4 rfl dX13_fill_48 rfl ?_
              refine c_Vi (pc' := 53) (mt := mX13_extend) (as := [.int (i32 x1), .int (i32 x4)]) (st := []) (k := 73) C h rfl cl_X13_extend ml_X13_149 im_X13_extend sl_X13_extend (by omega) (Nat.le_refl _) (Nat.le_refl _) rfl (by decide) kc_73 (by decide) rfl rfl rfl (Nat.le_of_ble_eq_true rfl) dX13_fill_50 rfl (fun r13 iv14 av15 f16 h => ?_)
              replace h := h f16
              refine r_istore (pc' := 55) (ls' := [(0, .ref (gl_b Y + 73)), (1, .int (i32 x1)), (2, .int (i32 x2)), (3, .int (i32 x3)), (4, .int (i32 x4)), (5, .int (i32 r13))]) C (by decide) rfl dX13_fill_53 rfl ?_
              refine r_iload_n (pc' := 56) C 3 rfl rfl dX13_fill_55 rfl ?_
              refine r_istore (pc' := 58) (ls' := [(0, .ref (gl_b Y + 73)), (1, .int (i32 x1)), (2, .int (i32 x2)), (3, .int (i32 x3)), (4, .int (i32 x4)), (5, .int (i32 r13)), (6, .int (i32 x3))]) C (by decide) rfl dX13_fill_56 rfl ?_
              refine r_iconst (pc' := 59) C dX13_fill_58 rfl ?_
              refine r_istore (pc' := 61) (ls' := [(0, .ref (gl_b Y + 73)), (1, .int (i32 x1)), (2, .int (i32 x2)), (3, .int (i32 x3)), (4, .int (i32 x4)), (5, .int (i32 r13)), (6, .int (i32 x3)), (7, .int (i32 0))]) C (by decide) rfl dX13_fill_59 rfl ?_
              exact Wa.sub [0, 1, 2, 3, 4, 5, 6, 7] rfl h
            · replace h := h.2 c12
              refine r_bipush (pc' := 45) C dX13_fill_43 (by decide) rfl ?_
              exact r_iret C (by decide) ⟨rfl, rfl, h⟩ dX13_fill_45
          · replace h := h.2 c9
            refine r_iconst (pc' := 30) C dX13_fill_29 rfl ?_
            exact r_iret C (by decide) ⟨rfl, rfl, h⟩ dX13_fill_30
def L_X13_clear_23 (Y : Gl) (X : Cx) (P : PN) (x1 : Int) (x2 : Int) (x3 : Int) (iv av : IVt) : Prop := Wa Y X 4 (g_MQ Y X 1 (g_N RV 116 P) 0 0) 0 0 23 [(0, .ref (gl_b Y + 73)), (1, .int (i32 x1)), (2, .int (i32 x2)), (3, .int (i32 x3))] [] RV iv av 116
def L_X13_clear_65 (Y : Gl) (X : Cx) (P : PN) (x1 : Int) (x2 : Int) (x3 : Int) (iv av : IVt) : Prop := Wa Y X 4 (g_MQ Y X 1 (g_N RV 116 P) 0 0) 0 0 65 [(0, .ref (gl_b Y + 73)), (1, .int (i32 x1)), (2, .int (i32 x2)), (3, .int (i32 x3))] [] RV iv av 116
set_option maxHeartbeats 4000000 in
set_option maxRecDepth 100000 in
theorem w_X13_clear_65 {Y : Gl} {X : Cx} {e : Nat} {P : PN} {x1 : Int} {x2 : Int} {x3 : Int} {iv av : IVt} (C : CX Y X RX13 "clear" cX13_clear 4 (some .int) (e + 1) 0 0) (hx2 : InR x2) (hx3 : InR x3) (h :
    ((64 ≤ x3) →
      (0 ≤ x1 ∧ x1 < 64) ∧
      P x2 iv (up2 av 76 x1.toNat 0)
    ) ∧
    ((¬ 64 ≤ x3) →
      (0 ≤ x3 ∧ x3 < 64) ∧
      ((InR (av 75 x3.toNat)) →
        (0 ≤ x1 ∧ x1 < 64) ∧
        ((InR (av 75 x1.toNat)) →
          (((av 75 x3.toNat) ≤ (av 75 x1.toNat)) →
            L_X13_clear_65 Y X P x1 x2 (x3 + 1) iv (up2 av 75 x3.toNat (av 75 x3.toNat))
          ) ∧
          ((¬ (av 75 x3.toNat) ≤ (av 75 x1.toNat)) →
            (InR ((av 75 x3.toNat) - x2)) ∧
            L_X13_clear_65 Y X P x1 x2 (x3 + 1) iv (up2 av 75 x3.toNat ((av 75 x3.toNat) - x2))
          )
        )
      )
    )) : L_X13_clear_65 Y X P x1 x2 x3 iv av := by
  unfold L_X13_clear_65
  refine r_iload_n (pc' := 66) C 3 rfl rfl dX13_clear_65 rfl ?_
  refine r_bipush (pc' := 68) C dX13_clear_66 (by decide) rfl ?_
  refine r_icmp_ge (pc' := 71) (tgt := 115) C hx3 (by decide) dX13_clear_68 (by decide) rfl (fun c1 => ?_) (fun c1 => ?_)
  · replace h := h.1 c1
    refine r_aload_n (pc' := 116) C 0 rfl rfl dX13_clear_115 rfl ?_
    refine r_getr (pc' := 119) (k := 73) (r := 76) C fl_X13_17 (by decide) kc_73 (by decide) fr_13_3 RV_73_3 dX13_clear_116 rfl ?_
    refine r_iload_n (pc' := 120) C 1 rfl rfl dX13_clear_119 rfl ?_
    refine r_iconst (pc' := 121) C dX13_clear_120 rfl ?_
    have o2 := h.1
    replace h := h.2
    refine r_iast (pc' := 122) (k := 76) C (by decide) kc_76 (by have := kl_76; omega) (by decide) dX13_clear_121 rfl ?_
    refine r_iload_n (pc' := 123) C 2 rfl rfl dX13_clear_122 rfl ?_
    exact r_iret C hx2 ⟨rfl, rfl, h⟩ dX13_clear_123
  · replace h := h.2 c1
    refine r_aload_n (pc' := 72) C 0 rfl rfl dX13_clear_71 rfl ?_
    refine r_getr (pc' := 75) (k := 73) (r := 75) C fl_X13_13 (by decide) kc_73 (by decide) fr_13_2 RV_73_2 dX13_clear_72 rfl ?_
    refine r_iload_n (pc' := 76) C 3 rfl rfl dX13_clear_75 rfl ?_
    refine r_aload_n (pc' := 77) C 0 rfl rfl dX13_clear_76 rfl ?_
    refine r_getr (pc' := 80) (k := 73) (r := 75) C fl_X13_13 (by decide) kc_73 (by decide) fr_13_2 RV_73_2 dX13_clear_77 rfl ?_
    refine r_iload_n (pc' := 81) C 3 rfl rfl dX13_clear_80 rfl ?_
    have o3 := h.1
    replace h := h.2
    refine r_iald (pc' := 82) (k := 75) C (by decide) kc_75 (by have := kl_75; omega) dX13_clear_81 rfl (fun f4 => ?_)
    replace h := h f4
    refine r_aload_n (pc' := 83) C 0 rfl rfl dX13_clear_82 rfl ?_
    refine r_getr (pc' := 86) (k := 73) (r := 75) C fl_X13_13 (by decide) kc_73 (by decide) fr_13_2 RV_73_2 dX13_clear_83 rfl ?_
    refine r_iload_n (pc' := 87) C 1 rfl rfl dX13_clear_86 rfl ?_
    have o5 := h.1
    replace h := h.2
    refine r_iald (pc' := 88) (k := 75) C (by decide) kc_75 (by have := kl_75; omega) dX13_clear_87 rfl (fun f6 => ?_)
    replace h := h f6
    refine r_icmp_le (pc' := 91) (tgt := 102) C f4 f6 dX13_clear_88 (by decide) rfl (fun c7 => ?_) (fun c7 => ?_)
    · replace h := h.1 c7
      refine r_aload_n (pc' := 103) C 0 rfl rfl dX13_clear_102 rfl ?_
      refine r_getr (pc' := 106) (k := 73) (r := 75) C fl_X13_13 (by decide) kc_73 (by decide) fr_13_2 RV_73_2 dX13_clear_103 rfl ?_
      refine r_iload_n (pc' := 107) C 3 rfl rfl dX13_clear_106 rfl ?_
      refine r_iald (pc' := 108) (k := 75) C (by decide) kc_75 (by have := kl_75; omega) dX13_clear_107 rfl (fun f8 => ?_)
      refine r_iast (pc' := 109) (k := 75) C (by decide) kc_75 (by have := kl_75; omega) f4 dX13_clear_108 rfl ?_
      refine r_iinc (pc' := 112) (ls' := [(0, .ref (gl_b Y + 73)), (1, .int (i32 x1)), (2, .int (i32 x2)), (3, .int (i32 (x3 + 1)))]) C 3 rfl (by decide) rfl dX13_clear_109 rfl ?_
      refine r_goto (tgt := 65) C dX13_clear_112 (by decide) ?_
      exact Wa.sub [0, 1, 2, 3] rfl h
    · replace h := h.2 c7
      refine r_aload_n (pc' := 92) C 0 rfl rfl dX13_clear_91 rfl ?_
      refine r_getr (pc' := 95) (k := 73) (r := 75) C fl_X13_13 (by decide) kc_73 (by decide) fr_13_2 RV_73_2 dX13_clear_92 rfl ?_
      refine r_iload_n (pc' := 96) C 3 rfl rfl dX13_clear_95 rfl ?_
      refine r_iald (pc' := 97) (k := 75) C (by decide) kc_75 (by have := kl_75; omega) dX13_clear_96 rfl (fun f9 => ?_)
      refine r_iload_n (pc' := 98) C 2 rfl rfl dX13_clear_97 rfl ?_
      refine r_isub (pc' := 99) C dX13_clear_98 rfl ?_
      refine r_goto (tgt := 108) C dX13_clear_99 (by decide) ?_
      have o10 := h.1
      replace h := h.2
      refine r_iast (pc' := 109) (k := 75) C (by decide) kc_75 (by have := kl_75; omega) o10 dX13_clear_108 rfl ?_
      refine r_iinc (pc' := 112) (ls' := [(0, .ref (gl_b Y + 73)), (1, .int (i32 x1)), (2, .int (i32 x2)), (3, .int (i32 (x3 + 1)))]) C 3 rfl (by decide) rfl dX13_clear_109 rfl ?_
      refine r_goto (tgt := 65) C dX13_clear_112 (by decide) ?_
      exact Wa.sub [0, 1, 2, 3] rfl h
set_option maxHeartbeats 4000000 in
set_option maxRecDepth 100000 in
theorem w_X13_clear_23 {Y : Gl} {X : Cx} {e : Nat} {P : PN} {x1 : Int} {x2 : Int} {x3 : Int} {iv av : IVt} (C : CX Y X RX13 "clear" cX13_clear 4 (some .int) (e + 1) 0 0) (h :
    ((InR (iv 73 5)) →
      (InR (x3 + x2)) ∧
      (((iv 73 5) ≤ (x3 + x2)) →
        (InR ((iv 73 5) - x2)) ∧
        L_X13_clear_65 Y X P x1 x2 0 (up2 iv 73 5 ((iv 73 5) - x2)) av
      ) ∧
      ((¬ (iv 73 5) ≤ (x3 + x2)) →
        (0 ≤ (x3 + x2) ∧ (x3 + x2) < 65536) ∧
        ((-128 ≤ (av 77 (x3 + x2).toNat) ∧ (av 77 (x3 + x2).toNat) ≤ 127) →
          (0 ≤ x3 ∧ x3 < 65536) ∧
          L_X13_clear_23 Y X P x1 x2 (x3 + 1) iv (up2 av 77 x3.toNat (bm8 (av 77 (x3 + x2).toNat)))
        )
      )
    )) : L_X13_clear_23 Y X P x1 x2 x3 iv av := by
  unfold L_X13_clear_23
  refine r_iload_n (pc' := 24) C 3 rfl rfl dX13_clear_23 rfl ?_
  refine r_iload_n (pc' := 25) C 2 rfl rfl dX13_clear_24 rfl ?_
  refine r_iadd (pc' := 26) C dX13_clear_25 rfl ?_
  refine r_aload_n (pc' := 27) C 0 rfl rfl dX13_clear_26 rfl ?_
  refine r_geti (pc' := 30) (k := 73) C fl_X13_142 (by decide) kc_73 (by decide) fr_13_5 dX13_clear_27 rfl (fun f1 => ?_)
  replace h := h f1
  have o2 := h.1
  replace h := h.2
  refine r_icmp_ge (pc' := 33) (tgt := 53) C o2 f1 dX13_clear_30 (by decide) rfl (fun c3 => ?_) (fun c3 => ?_)
  · replace h := h.1 c3
    refine r_aload_n (pc' := 54) C 0 rfl rfl dX13_clear_53 rfl ?_
    refine r_aload_n (pc' := 55) C 0 rfl rfl dX13_clear_54 rfl ?_
    refine r_geti (pc' := 58) (k := 73) C fl_X13_142 (by decide) kc_73 (by decide) fr_13_5 dX13_clear_55 rfl (fun f4 => ?_)
    refine r_iload_n (pc' := 59) C 2 rfl rfl dX13_clear_58 rfl ?_
    refine r_isub (pc' := 60) C dX13_clear_59 rfl ?_
    have o5 := h.1
    replace h := h.2
    refine r_puti (pc' := 63) (k := 73) C fl_X13_142 (by decide) kc_73 (by decide) fr_13_5 o5 dX13_clear_60 rfl ?_
    refine r_iconst (pc' := 64) C dX13_clear_63 rfl ?_
    refine r_istore_n (pc' := 65) (ls' := [(0, .ref (gl_b Y + 73)), (1, .int (i32 x1)), (2, .int (i32 x2)), (3, .int (i32 0))]) C (by decide) rfl rfl dX13_clear_64 rfl ?_
    exact Wa.sub [0, 1, 2, 3] rfl h
  · replace h := h.2 c3
    refine r_aload_n (pc' := 34) C 0 rfl rfl dX13_clear_33 rfl ?_
    refine r_getr (pc' := 37) (k := 73) (r := 77) C fl_X13_21 (by decide) kc_73 (by decide) fr_13_4 RV_73_4 dX13_clear_34 rfl ?_
    refine r_iload_n (pc' := 38) C 3 rfl rfl dX13_clear_37 rfl ?_
    refine r_aload_n (pc' := 39) C 0 rfl rfl dX13_clear_38 rfl ?_
    refine r_getr (pc' := 42) (k := 73) (r := 77) C fl_X13_21 (by decide) kc_73 (by decide) fr_13_4 RV_73_4 dX13_clear_39 rfl ?_
    refine r_iload_n (pc' := 43) C 3 rfl rfl dX13_clear_42 rfl ?_
    refine r_iload_n (pc' := 44) C 2 rfl rfl dX13_clear_43 rfl ?_
    refine r_iadd (pc' := 45) C dX13_clear_44 rfl ?_
    have o6 := h.1
    replace h := h.2
    refine r_bald (pc' := 46) (k := 77) C (by decide) kc_77 (by have := kl_77; omega) dX13_clear_45 rfl (fun f7 => ?_)
    replace h := h f7
    have o8 := h.1
    replace h := h.2
    refine r_bast (pc' := 47) (k := 77) C (by decide) kc_77 (by have := kl_77; omega) dX13_clear_46 rfl ?_
    refine r_iinc (pc' := 50) (ls' := [(0, .ref (gl_b Y + 73)), (1, .int (i32 x1)), (2, .int (i32 x2)), (3, .int (i32 (x3 + 1)))]) C 3 rfl (by decide) rfl dX13_clear_47 rfl ?_
    refine r_goto (tgt := 23) C dX13_clear_50 (by decide) ?_
    exact Wa.sub [0, 1, 2, 3] rfl h
set_option maxHeartbeats 4000000 in
set_option maxRecDepth 100000 in
theorem o_X13_clear {Y : Gl} {e : Nat} {P : PN} {x1 : Int} {iv av : IVt} (hx1 : InR x1) (h : ∀ X : Cx, CX Y X RX13 "clear" cX13_clear 4 (some .int) (e + 1) 0 0 →
    OkN Y e mX13_isFile [.int (i32 x1)] RV iv av 116 (fun r1 iv2 av3 =>
      (InR r1) →
      ((¬ r1 = 0) →
        (0 ≤ x1 ∧ x1 < 64) ∧
        ((InR (av3 76 x1.toNat)) →
          ((InR (av3 75 x1.toNat)) →
            L_X13_clear_23 Y X P x1 (av3 76 x1.toNat) (av3 75 x1.toNat) iv2 av3
          )
        )
      ) ∧
      ((r1 = 0) →
        P (-1) iv2 av3
      )
    )) : OkN Y (e + 1) mX13_clear [.ref (gl_b Y + 73), .int (i32 x1)] RV iv av 116 P := by
  refine OkW.of rfl (by show _ ≤ 4; exact Nat.le_of_ble_eq_true rfl) fun X C0 hR => ?_
  have C : CX Y X RX13 "clear" cX13_clear 4 (some .int) (e + 1) 0 0 := C0
  replace h := h X C
  show Wa Y X 4 (g_MQ Y X 1 (g_N RV 116 P) 0 0) 0 0 0 [(0, .ref (gl_b Y + 73)), (1, .int (i32 x1))] [] RV iv av 116
  refine r_iload_n (pc' := 1) C 1 rfl rfl dX13_clear_0 rfl ?_
  refine c_Si (pc' := 4) (mt := mX13_isFile) (as := [.int (i32 x1)]) (st := []) C h rfl cl_X13_isFile ml_X13_145 sm_X13_isFile (by omega) (Nat.le_refl _) (Nat.le_refl _) rfl rfl (Nat.le_of_ble_eq_true rfl) dX13_clear_1 rfl (fun r1 iv2 av3 f4 h => ?_)
  replace h := h f4
  refine r_if_ne (pc' := 7) (tgt := 9) C f4 dX13_clear_4 (by decide) rfl (fun c5 => ?_) (fun c5 => ?_)
  · replace h := h.1 c5
    refine r_aload_n (pc' := 10) C 0 rfl rfl dX13_clear_9 rfl ?_
    refine r_getr (pc' := 13) (k := 73) (r := 76) C fl_X13_17 (by decide) kc_73 (by decide) fr_13_3 RV_73_3 dX13_clear_10 rfl ?_
    refine r_iload_n (pc' := 14) C 1 rfl rfl dX13_clear_13 rfl ?_
    have o6 := h.1
    replace h := h.2
    refine r_iald (pc' := 15) (k := 76) C (by decide) kc_76 (by have := kl_76; omega) dX13_clear_14 rfl (fun f7 => ?_)
    replace h := h f7
    refine r_istore_n (pc' := 16) (ls' := [(0, .ref (gl_b Y + 73)), (1, .int (i32 x1)), (2, .int (i32 (av3 76 x1.toNat)))]) C (by decide) rfl rfl dX13_clear_15 rfl ?_
    refine r_aload_n (pc' := 17) C 0 rfl rfl dX13_clear_16 rfl ?_
    refine r_getr (pc' := 20) (k := 73) (r := 75) C fl_X13_13 (by decide) kc_73 (by decide) fr_13_2 RV_73_2 dX13_clear_17 rfl ?_
    refine r_iload_n (pc' := 21) C 1 rfl rfl dX13_clear_20 rfl ?_
    refine r_iald (pc' := 22) (k := 75) C (by decide) kc_75 (by have := kl_75; omega) dX13_clear_21 rfl (fun f8 => ?_)
    replace h := h f8
    refine r_istore_n (pc' := 23) (ls' := [(0, .ref (gl_b Y + 73)), (1, .int (i32 x1)), (2, .int (i32 (av3 76 x1.toNat))), (3, .int (i32 (av3 75 x1.toNat)))]) C (by decide) rfl rfl dX13_clear_22 rfl ?_
    exact Wa.sub [0, 1, 2, 3] rfl h
  · replace h := h.2 c5
    refine r_iconst (pc' := 8) C dX13_clear_7 rfl ?_
    exact r_iret C (by decide) ⟨rfl, rfl, h⟩ dX13_clear_8
set_option maxHeartbeats 4000000 in
set_option maxRecDepth 100000 in
theorem o_X13_lengthBits {Y : Gl} {e : Nat} {P : PN} {x0 : Int} {iv av : IVt} (hx0 : InR x0) (h : 
    ((x0 < 265) →
      P 0 iv av
    ) ∧
    ((¬ x0 < 265) →
      ((¬ x0 = 285) →
        (InR (x0 - 261)) ∧
        (0 ≤ (x0 - 261)) ∧
        P ((x0 - 261) / 4) iv av
      ) ∧
      ((x0 = 285) →
        P 0 iv av
      )
    )) : OkN Y e mX13_lengthBits [.int (i32 x0)] RV iv av 116 P := by
  refine OkW.of rfl (by show _ ≤ 1; exact Nat.le_of_ble_eq_true rfl) fun X C0 hR => ?_
  have C : CX Y X RX13 "lengthBits" cX13_lengthBits 1 (some .int) e 0 0 := C0
  show Wa Y X 1 (g_MQ Y X 1 (g_N RV 116 P) 0 0) 0 0 0 [(0, .int (i32 x0))] [] RV iv av 116
  refine r_iload_n (pc' := 1) C 0 rfl rfl dX13_lengthBits_0 rfl ?_
  refine r_sipush (pc' := 4) C dX13_lengthBits_1 (by decide) rfl ?_
  refine r_icmp_lt (pc' := 7) (tgt := 14) C hx0 (by decide) dX13_lengthBits_4 (by decide) rfl (fun c1 => ?_) (fun c1 => ?_)
  · replace h := h.1 c1
    refine r_iconst (pc' := 15) C dX13_lengthBits_14 rfl ?_
    refine r_goto (tgt := 25) C dX13_lengthBits_15 (by decide) ?_
    exact r_iret C (by decide) ⟨rfl, rfl, h⟩ dX13_lengthBits_25
  · replace h := h.2 c1
    refine r_iload_n (pc' := 8) C 0 rfl rfl dX13_lengthBits_7 rfl ?_
    refine r_sipush (pc' := 11) C dX13_lengthBits_8 (by decide) rfl ?_
    refine r_icmp_ne (pc' := 14) (tgt := 18) C hx0 (by decide) dX13_lengthBits_11 (by decide) rfl (fun c2 => ?_) (fun c2 => ?_)
    · replace h := h.1 c2
      refine r_iload_n (pc' := 19) C 0 rfl rfl dX13_lengthBits_18 rfl ?_
      refine r_sipush (pc' := 22) C dX13_lengthBits_19 (by decide) rfl ?_
      refine r_isub (pc' := 23) C dX13_lengthBits_22 rfl ?_
      refine r_iconst (pc' := 24) C dX13_lengthBits_23 rfl ?_
      have o3 := h.1
      replace h := h.2
      have o4 := h.1
      replace h := h.2
      refine r_idiv (pc' := 25) C ⟨o4, o3⟩ ⟨(by decide), (by decide)⟩ dX13_lengthBits_24 rfl ?_
      exact r_iret C (by omega) ⟨rfl, rfl, h⟩ dX13_lengthBits_25
    · replace h := h.2 c2
      refine r_iconst (pc' := 15) C dX13_lengthBits_14 rfl ?_
      refine r_goto (tgt := 25) C dX13_lengthBits_15 (by decide) ?_
      exact r_iret C (by decide) ⟨rfl, rfl, h⟩ dX13_lengthBits_25
set_option maxHeartbeats 4000000 in
set_option maxRecDepth 100000 in
theorem o_X13_lengthBase {Y : Gl} {e : Nat} {P : PN} {x0 : Int} {iv av : IVt} (hx0 : InR x0) (h : 
    ((¬ x0 = 285) →
      ((265 ≤ x0) →
        (InR (x0 - 261)) ∧
        (0 ≤ (x0 - 261)) ∧
        OkN Y e mX13_lengthBits [.int (i32 x0)] RV iv av 116 (fun r5 iv6 av7 =>
          (InR r5) →
          (0 ≤ r5 ∧ r5 ≤ 31) ∧
          (InR (3 + ((4 + ((x0 - 261) % 4)) * 2 ^ r5.toNat))) ∧
          P (3 + ((4 + ((x0 - 261) % 4)) * 2 ^ r5.toNat)) iv6 av7
        )
      ) ∧
      ((¬ 265 ≤ x0) →
        (InR (x0 - 254)) ∧
        P (x0 - 254) iv av
      )
    ) ∧
    ((x0 = 285) →
      P 258 iv av
    )) : OkN Y (e + 1) mX13_lengthBase [.int (i32 x0)] RV iv av 116 P := by
  refine OkW.of rfl (by show _ ≤ 1; exact Nat.le_of_ble_eq_true rfl) fun X C0 hR => ?_
  have C : CX Y X RX13 "lengthBase" cX13_lengthBase 1 (some .int) (e + 1) 0 0 := C0
  show Wa Y X 1 (g_MQ Y X 1 (g_N RV 116 P) 0 0) 0 0 0 [(0, .int (i32 x0))] [] RV iv av 116
  refine r_iload_n (pc' := 1) C 0 rfl rfl dX13_lengthBase_0 rfl ?_
  refine r_sipush (pc' := 4) C dX13_lengthBase_1 (by decide) rfl ?_
  refine r_icmp_ne (pc' := 7) (tgt := 13) C hx0 (by decide) dX13_lengthBase_4 (by decide) rfl (fun c1 => ?_) (fun c1 => ?_)
  · replace h := h.1 c1
    refine r_iload_n (pc' := 14) C 0 rfl rfl dX13_lengthBase_13 rfl ?_
    refine r_sipush (pc' := 17) C dX13_lengthBase_14 (by decide) rfl ?_
    refine r_icmp_ge (pc' := 20) (tgt := 28) C hx0 (by decide) dX13_lengthBase_17 (by decide) rfl (fun c2 => ?_) (fun c2 => ?_)
    · replace h := h.1 c2
      refine r_iconst (pc' := 29) C dX13_lengthBase_28 rfl ?_
      refine r_iconst (pc' := 30) C dX13_lengthBase_29 rfl ?_
      refine r_iload_n (pc' := 31) C 0 rfl rfl dX13_lengthBase_30 rfl ?_
      refine r_sipush (pc' := 34) C dX13_lengthBase_31 (by decide) rfl ?_
      refine r_isub (pc' := 35) C dX13_lengthBase_34 rfl ?_
      refine r_iconst (pc' := 36) C dX13_lengthBase_35 rfl ?_
      have o3 := h.1
      replace h := h.2
      have o4 := h.1
      replace h := h.2
      refine r_irem (pc' := 37) C ⟨o4, o3⟩ ⟨(by decide), (by decide)⟩ dX13_lengthBase_36 rfl ?_
      refine r_iadd (pc' := 38) C dX13_lengthBase_37 rfl ?_
      refine r_iload_n (pc' := 39) C 0 rfl rfl dX13_lengthBase_38 rfl ?_
      refine c_Si (pc' := 42) (mt := mX13_lengthBits) (as := [.int (i32 x0)]) (st := [.int (i32 (4 + ((x0 - 261) % 4))), .int (i32 3)]) C h rfl cl_X13_lengthBits ml_X13_154 sm_X13_lengthBits (by omega) (Nat.le_refl _) (Nat.le_refl _) rfl rfl (Nat.le_of_ble_eq_true rfl) dX13_lengthBase_39 rfl (fun r5 iv6 av7 f8 h => ?_)
      replace h := h f8
      have o9 := h.1
      replace h := h.2
      refine r_ishl (pc' := 43) C o9 dX13_lengthBase_42 rfl ?_
      refine r_iadd (pc' := 44) C dX13_lengthBase_43 rfl ?_
      have o10 := h.1
      replace h := h.2
      exact r_iret C o10 ⟨rfl, rfl, h⟩ dX13_lengthBase_44
    · replace h := h.2 c2
      refine r_iload_n (pc' := 21) C 0 rfl rfl dX13_lengthBase_20 rfl ?_
      refine r_sipush (pc' := 24) C dX13_lengthBase_21 (by decide) rfl ?_
      refine r_isub (pc' := 25) C dX13_lengthBase_24 rfl ?_
      refine r_goto (tgt := 44) C dX13_lengthBase_25 (by decide) ?_
      have o11 := h.1
      replace h := h.2
      exact r_iret C o11 ⟨rfl, rfl, h⟩ dX13_lengthBase_44
  · replace h := h.2 c1
    refine r_sipush (pc' := 10) C dX13_lengthBase_7 (by decide) rfl ?_
    refine r_goto (tgt := 44) C dX13_lengthBase_10 (by decide) ?_
    exact r_iret C (by decide) ⟨rfl, rfl, h⟩ dX13_lengthBase_44
set_option maxHeartbeats 4000000 in
set_option maxRecDepth 100000 in
theorem o_X13_distanceBits {Y : Gl} {e : Nat} {P : PN} {x0 : Int} {iv av : IVt} (hx0 : InR x0) (h : 
    ((4 ≤ x0) →
      (0 ≤ x0) ∧
      (InR ((x0 / 2) - 1)) ∧
      P ((x0 / 2) - 1) iv av
    ) ∧
    ((¬ 4 ≤ x0) →
      P 0 iv av
    )) : OkN Y e mX13_distanceBits [.int (i32 x0)] RV iv av 116 P := by
  refine OkW.of rfl (by show _ ≤ 1; exact Nat.le_of_ble_eq_true rfl) fun X C0 hR => ?_
  have C : CX Y X RX13 "distanceBits" cX13_distanceBits 1 (some .int) e 0 0 := C0
  show Wa Y X 1 (g_MQ Y X 1 (g_N RV 116 P) 0 0) 0 0 0 [(0, .int (i32 x0))] [] RV iv av 116
  refine r_iload_n (pc' := 1) C 0 rfl rfl dX13_distanceBits_0 rfl ?_
  refine r_iconst (pc' := 2) C dX13_distanceBits_1 rfl ?_
  refine r_icmp_ge (pc' := 5) (tgt := 9) C hx0 (by decide) dX13_distanceBits_2 (by decide) rfl (fun c1 => ?_) (fun c1 => ?_)
  · replace h := h.1 c1
    refine r_iload_n (pc' := 10) C 0 rfl rfl dX13_distanceBits_9 rfl ?_
    refine r_iconst (pc' := 11) C dX13_distanceBits_10 rfl ?_
    have o2 := h.1
    replace h := h.2
    refine r_idiv (pc' := 12) C ⟨o2, hx0⟩ ⟨(by decide), (by decide)⟩ dX13_distanceBits_11 rfl ?_
    refine r_iconst (pc' := 13) C dX13_distanceBits_12 rfl ?_
    refine r_isub (pc' := 14) C dX13_distanceBits_13 rfl ?_
    have o3 := h.1
    replace h := h.2
    exact r_iret C o3 ⟨rfl, rfl, h⟩ dX13_distanceBits_14
  · replace h := h.2 c1
    refine r_iconst (pc' := 6) C dX13_distanceBits_5 rfl ?_
    refine r_goto (tgt := 14) C dX13_distanceBits_6 (by decide) ?_
    exact r_iret C (by decide) ⟨rfl, rfl, h⟩ dX13_distanceBits_14
set_option maxHeartbeats 4000000 in
set_option maxRecDepth 100000 in
theorem o_X13_distanceBase {Y : Gl} {e : Nat} {P : PN} {x0 : Int} {iv av : IVt} (hx0 : InR x0) (h : 
    ((4 ≤ x0) →
      (0 ≤ x0) ∧
      OkN Y e mX13_distanceBits [.int (i32 x0)] RV iv av 116 (fun r3 iv4 av5 =>
        (InR r3) →
        (0 ≤ r3 ∧ r3 ≤ 31) ∧
        (InR (1 + ((2 + (x0 % 2)) * 2 ^ r3.toNat))) ∧
        P (1 + ((2 + (x0 % 2)) * 2 ^ r3.toNat)) iv4 av5
      )
    ) ∧
    ((¬ 4 ≤ x0) →
      (InR (x0 + 1)) ∧
      P (x0 + 1) iv av
    )) : OkN Y (e + 1) mX13_distanceBase [.int (i32 x0)] RV iv av 116 P := by
  refine OkW.of rfl (by show _ ≤ 1; exact Nat.le_of_ble_eq_true rfl) fun X C0 hR => ?_
  have C : CX Y X RX13 "distanceBase" cX13_distanceBase 1 (some .int) (e + 1) 0 0 := C0
  show Wa Y X 1 (g_MQ Y X 1 (g_N RV 116 P) 0 0) 0 0 0 [(0, .int (i32 x0))] [] RV iv av 116
  refine r_iload_n (pc' := 1) C 0 rfl rfl dX13_distanceBase_0 rfl ?_
  refine r_iconst (pc' := 2) C dX13_distanceBase_1 rfl ?_
  refine r_icmp_ge (pc' := 5) (tgt := 11) C hx0 (by decide) dX13_distanceBase_2 (by decide) rfl (fun c1 => ?_) (fun c1 => ?_)
  · replace h := h.1 c1
    refine r_iconst (pc' := 12) C dX13_distanceBase_11 rfl ?_
    refine r_iconst (pc' := 13) C dX13_distanceBase_12 rfl ?_
    refine r_iload_n (pc' := 14) C 0 rfl rfl dX13_distanceBase_13 rfl ?_
    refine r_iconst (pc' := 15) C dX13_distanceBase_14 rfl ?_
    have o2 := h.1
    replace h := h.2
    refine r_irem (pc' := 16) C ⟨o2, hx0⟩ ⟨(by decide), (by decide)⟩ dX13_distanceBase_15 rfl ?_
    refine r_iadd (pc' := 17) C dX13_distanceBase_16 rfl ?_
    refine r_iload_n (pc' := 18) C 0 rfl rfl dX13_distanceBase_17 rfl ?_
    refine c_Si (pc' := 21) (mt := mX13_distanceBits) (as := [.int (i32 x0)]) (st := [.int (i32 (2 + (x0 % 2))), .int (i32 1)]) C h rfl cl_X13_distanceBits ml_X13_158 sm_X13_distanceBits (by omega) (Nat.le_refl _) (Nat.le_refl _) rfl rfl (Nat.le_of_ble_eq_true rfl) dX13_distanceBase_18 rfl (fun r3 iv4 av5 f6 h => ?_)
    replace h := h f6
    have o7 := h.1
    replace h := h.2
    refine r_ishl (pc' := 22) C o7 dX13_distanceBase_21 rfl ?_
    refine r_iadd (pc' := 23) C dX13_distanceBase_22 rfl ?_
    have o8 := h.1
    replace h := h.2
    exact r_iret C o8 ⟨rfl, rfl, h⟩ dX13_distanceBase_23
  · replace h := h.2 c1
    refine r_iload_n (pc' := 6) C 0 rfl rfl dX13_distanceBase_5 rfl ?_
    refine r_iconst (pc' := 7) C dX13_distanceBase_6 rfl ?_
    refine r_iadd (pc' := 8) C dX13_distanceBase_7 rfl ?_
    refine r_goto (tgt := 23) C dX13_distanceBase_8 (by decide) ?_
    have o9 := h.1
    replace h := h.2
    exact r_iret C o9 ⟨rfl, rfl, h⟩ dX13_distanceBase_23
def L_X13_lengthSymbol_4 (Y : Gl) (X : Cx) (P : PN) (x0 : Int) (x1 : Int) (iv av : IVt) : Prop := Wa Y X 2 (g_MQ Y X 1 (g_N RV 116 P) 0 0) 0 0 4 [(0, .int (i32 x0)), (1, .int (i32 x1))] [] RV iv av 116
set_option maxHeartbeats 4000000 in
set_option maxRecDepth 100000 in
theorem w_X13_lengthSymbol_4 {Y : Gl} {X : Cx} {e : Nat} {P : PN} {x0 : Int} {x1 : Int} {iv av : IVt} (C : CX Y X RX13 "lengthSymbol" cX13_lengthSymbol 2 (some .int) (e + 2) 0 0) (hx0 : InR x0) (hx1 : InR x1) (h :
    ((284 ≤ x1) →
      ((¬ x0 = 258) →
        P x1 iv av
      ) ∧
      ((x0 = 258) →
        P 285 iv av
      )
    ) ∧
    ((¬ 284 ≤ x1) →
      (InR (x1 + 1)) ∧
      OkN Y (e + 1) mX13_lengthBase [.int (i32 (x1 + 1))] RV iv av 116 (fun r4 iv5 av6 =>
        (InR r4) →
        ((x0 < r4) →
          ((¬ x0 = 258) →
            P x1 iv5 av6
          ) ∧
          ((x0 = 258) →
            P 285 iv5 av6
          )
        ) ∧
        ((¬ x0 < r4) →
          L_X13_lengthSymbol_4 Y X P x0 (x1 + 1) iv5 av6
        )
      )
    )) : L_X13_lengthSymbol_4 Y X P x0 x1 iv av := by
  unfold L_X13_lengthSymbol_4
  refine r_iload_n (pc' := 5) C 1 rfl rfl dX13_lengthSymbol_4 rfl ?_
  refine r_sipush (pc' := 8) C dX13_lengthSymbol_5 (by decide) rfl ?_
  refine r_icmp_ge (pc' := 11) (tgt := 27) C hx1 (by decide) dX13_lengthSymbol_8 (by decide) rfl (fun c1 => ?_) (fun c1 => ?_)
  · replace h := h.1 c1
    refine r_iload_n (pc' := 28) C 0 rfl rfl dX13_lengthSymbol_27 rfl ?_
    refine r_sipush (pc' := 31) C dX13_lengthSymbol_28 (by decide) rfl ?_
    refine r_icmp_ne (pc' := 34) (tgt := 40) C hx0 (by decide) dX13_lengthSymbol_31 (by decide) rfl (fun c2 => ?_) (fun c2 => ?_)
    · replace h := h.1 c2
      refine r_iload_n (pc' := 41) C 1 rfl rfl dX13_lengthSymbol_40 rfl ?_
      exact r_iret C hx1 ⟨rfl, rfl, h⟩ dX13_lengthSymbol_41
    · replace h := h.2 c2
      refine r_sipush (pc' := 37) C dX13_lengthSymbol_34 (by decide) rfl ?_
      refine r_goto (tgt := 41) C dX13_lengthSymbol_37 (by decide) ?_
      exact r_iret C (by decide) ⟨rfl, rfl, h⟩ dX13_lengthSymbol_41
  · replace h := h.2 c1
    refine r_iload_n (pc' := 12) C 1 rfl rfl dX13_lengthSymbol_11 rfl ?_
    refine r_iconst (pc' := 13) C dX13_lengthSymbol_12 rfl ?_
    refine r_iadd (pc' := 14) C dX13_lengthSymbol_13 rfl ?_
    have o3 := h.1
    replace h := h.2
    refine c_Si (pc' := 17) (mt := mX13_lengthBase) (as := [.int (i32 (x1 + 1))]) (st := []) C h rfl cl_X13_lengthBase ml_X13_161 sm_X13_lengthBase (by omega) (Nat.le_refl _) (Nat.le_refl _) rfl rfl (Nat.le_of_ble_eq_true rfl) dX13_lengthSymbol_14 rfl (fun r4 iv5 av6 f7 h => ?_)
    replace h := h f7
    refine r_iload_n (pc' := 18) C 0 rfl rfl dX13_lengthSymbol_17 rfl ?_
    refine r_icmp_gt (pc' := 21) (tgt := 27) C f7 hx0 dX13_lengthSymbol_18 (by decide) rfl (fun c8 => ?_) (fun c8 => ?_)
    · replace h := h.1 c8
      refine r_iload_n (pc' := 28) C 0 rfl rfl dX13_lengthSymbol_27 rfl ?_
      refine r_sipush (pc' := 31) C dX13_lengthSymbol_28 (by decide) rfl ?_
      refine r_icmp_ne (pc' := 34) (tgt := 40) C hx0 (by decide) dX13_lengthSymbol_31 (by decide) rfl (fun c9 => ?_) (fun c9 => ?_)
      · replace h := h.1 c9
        refine r_iload_n (pc' := 41) C 1 rfl rfl dX13_lengthSymbol_40 rfl ?_
        exact r_iret C hx1 ⟨rfl, rfl, h⟩ dX13_lengthSymbol_41
      · replace h := h.2 c9
        refine r_sipush (pc' := 37) C dX13_lengthSymbol_34 (by decide) rfl ?_
        refine r_goto (tgt := 41) C dX13_lengthSymbol_37 (by decide) ?_
        exact r_iret C (by decide) ⟨rfl, rfl, h⟩ dX13_lengthSymbol_41
    · replace h := h.2 c8
      refine r_iinc (pc' := 24) (ls' := [(0, .int (i32 x0)), (1, .int (i32 (x1 + 1)))]) C 1 rfl (by decide) rfl dX13_lengthSymbol_21 rfl ?_
      refine r_goto (tgt := 4) C dX13_lengthSymbol_24 (by decide) ?_
      exact Wa.sub [0, 1] rfl h
set_option maxHeartbeats 4000000 in
set_option maxRecDepth 100000 in
theorem o_X13_lengthSymbol {Y : Gl} {e : Nat} {P : PN} {x0 : Int} {iv av : IVt} (h : ∀ X : Cx, CX Y X RX13 "lengthSymbol" cX13_lengthSymbol 2 (some .int) (e + 2) 0 0 →
    L_X13_lengthSymbol_4 Y X P x0 257 iv av) : OkN Y (e + 2) mX13_lengthSymbol [.int (i32 x0)] RV iv av 116 P := by
  refine OkW.of rfl (by show _ ≤ 2; exact Nat.le_of_ble_eq_true rfl) fun X C0 hR => ?_
  have C : CX Y X RX13 "lengthSymbol" cX13_lengthSymbol 2 (some .int) (e + 2) 0 0 := C0
  replace h := h X C
  show Wa Y X 2 (g_MQ Y X 1 (g_N RV 116 P) 0 0) 0 0 0 [(0, .int (i32 x0))] [] RV iv av 116
  refine r_sipush (pc' := 3) C dX13_lengthSymbol_0 (by decide) rfl ?_
  refine r_istore_n (pc' := 4) (ls' := [(0, .int (i32 x0)), (1, .int (i32 257))]) C (by decide) rfl rfl dX13_lengthSymbol_3 rfl ?_
  exact Wa.sub [0, 1] rfl h
def L_X13_distanceSymbol_2 (Y : Gl) (X : Cx) (P : PN) (x0 : Int) (x1 : Int) (iv av : IVt) : Prop := Wa Y X 2 (g_MQ Y X 1 (g_N RV 116 P) 0 0) 0 0 2 [(0, .int (i32 x0)), (1, .int (i32 x1))] [] RV iv av 116
set_option maxHeartbeats 4000000 in
set_option maxRecDepth 100000 in
theorem w_X13_distanceSymbol_2 {Y : Gl} {X : Cx} {e : Nat} {P : PN} {x0 : Int} {x1 : Int} {iv av : IVt} (C : CX Y X RX13 "distanceSymbol" cX13_distanceSymbol 2 (some .int) (e + 2) 0 0) (hx0 : InR x0) (hx1 : InR x1) (h :
    ((29 ≤ x1) →
      P x1 iv av
    ) ∧
    ((¬ 29 ≤ x1) →
      (InR (x1 + 1)) ∧
      OkN Y (e + 1) mX13_distanceBase [.int (i32 (x1 + 1))] RV iv av 116 (fun r3 iv4 av5 =>
        (InR r3) →
        ((x0 < r3) →
          P x1 iv4 av5
        ) ∧
        ((¬ x0 < r3) →
          L_X13_distanceSymbol_2 Y X P x0 (x1 + 1) iv4 av5
        )
      )
    )) : L_X13_distanceSymbol_2 Y X P x0 x1 iv av := by
  unfold L_X13_distanceSymbol_2
  refine r_iload_n (pc' := 3) C 1 rfl rfl dX13_distanceSymbol_2 rfl ?_
  refine r_bipush (pc' := 5) C dX13_distanceSymbol_3 (by decide) rfl ?_
  refine r_icmp_ge (pc' := 8) (tgt := 24) C hx1 (by decide) dX13_distanceSymbol_5 (by decide) rfl (fun c1 => ?_) (fun c1 => ?_)
  · replace h := h.1 c1
    refine r_iload_n (pc' := 25) C 1 rfl rfl dX13_distanceSymbol_24 rfl ?_
    exact r_iret C hx1 ⟨rfl, rfl, h⟩ dX13_distanceSymbol_25
  · replace h := h.2 c1
    refine r_iload_n (pc' := 9) C 1 rfl rfl dX13_distanceSymbol_8 rfl ?_
    refine r_iconst (pc' := 10) C dX13_distanceSymbol_9 rfl ?_
    refine r_iadd (pc' := 11) C dX13_distanceSymbol_10 rfl ?_
    have o2 := h.1
    replace h := h.2
    refine c_Si (pc' := 14) (mt := mX13_distanceBase) (as := [.int (i32 (x1 + 1))]) (st := []) C h rfl cl_X13_distanceBase ml_X13_164 sm_X13_distanceBase (by omega) (Nat.le_refl _) (Nat.le_refl _) rfl rfl (Nat.le_of_ble_eq_true rfl) dX13_distanceSymbol_11 rfl (fun r3 iv4 av5 f6 h => ?_)
    replace h := h f6
    refine r_iload_n (pc' := 15) C 0 rfl rfl dX13_distanceSymbol_14 rfl ?_
    refine r_icmp_gt (pc' := 18) (tgt := 24) C f6 hx0 dX13_distanceSymbol_15 (by decide) rfl (fun c7 => ?_) (fun c7 => ?_)
    · replace h := h.1 c7
      refine r_iload_n (pc' := 25) C 1 rfl rfl dX13_distanceSymbol_24 rfl ?_
      exact r_iret C hx1 ⟨rfl, rfl, h⟩ dX13_distanceSymbol_25
    · replace h := h.2 c7
      refine r_iinc (pc' := 21) (ls' := [(0, .int (i32 x0)), (1, .int (i32 (x1 + 1)))]) C 1 rfl (by decide) rfl dX13_distanceSymbol_18 rfl ?_
      refine r_goto (tgt := 2) C dX13_distanceSymbol_21 (by decide) ?_
      exact Wa.sub [0, 1] rfl h
set_option maxHeartbeats 4000000 in
set_option maxRecDepth 100000 in
theorem o_X13_distanceSymbol {Y : Gl} {e : Nat} {P : PN} {x0 : Int} {iv av : IVt} (h : ∀ X : Cx, CX Y X RX13 "distanceSymbol" cX13_distanceSymbol 2 (some .int) (e + 2) 0 0 →
    L_X13_distanceSymbol_2 Y X P x0 0 iv av) : OkN Y (e + 2) mX13_distanceSymbol [.int (i32 x0)] RV iv av 116 P := by
  refine OkW.of rfl (by show _ ≤ 2; exact Nat.le_of_ble_eq_true rfl) fun X C0 hR => ?_
  have C : CX Y X RX13 "distanceSymbol" cX13_distanceSymbol 2 (some .int) (e + 2) 0 0 := C0
  replace h := h X C
  show Wa Y X 2 (g_MQ Y X 1 (g_N RV 116 P) 0 0) 0 0 0 [(0, .int (i32 x0))] [] RV iv av 116
  refine r_iconst (pc' := 1) C dX13_distanceSymbol_0 rfl ?_
  refine r_istore_n (pc' := 2) (ls' := [(0, .int (i32 x0)), (1, .int (i32 0))]) C (by decide) rfl rfl dX13_distanceSymbol_1 rfl ?_
  exact Wa.sub [0, 1] rfl h
set_option maxHeartbeats 4000000 in
set_option maxRecDepth 100000 in
theorem o_X13_smallOrder {Y : Gl} {e : Nat} {P : PN} {x0 : Int} {iv av : IVt} (hx0 : InR x0) (h : 
    ((¬ x0 = 0) →
      ((¬ x0 = 1) →
        ((¬ x0 = 2) →
          ((¬ x0 = 3) →
            (0 ≤ x0) ∧
            ((¬ (x0 % 2) = 0) →
              (InR (9 - (x0 / 2))) ∧
              P (9 - (x0 / 2)) iv av
            ) ∧
            (((x0 % 2) = 0) →
              (InR (6 + (x0 / 2))) ∧
              P (6 + (x0 / 2)) iv av
            )
          ) ∧
          ((x0 = 3) →
            P 0 iv av
          )
        ) ∧
        ((x0 = 2) →
          P 18 iv av
        )
      ) ∧
      ((x0 = 1) →
        P 17 iv av
      )
    ) ∧
    ((x0 = 0) →
      P 16 iv av
    )) : OkN Y e mX13_smallOrder [.int (i32 x0)] RV iv av 116 P := by
  refine OkW.of rfl (by show _ ≤ 1; exact Nat.le_of_ble_eq_true rfl) fun X C0 hR => ?_
  have C : CX Y X RX13 "smallOrder" cX13_smallOrder 1 (some .int) e 0 0 := C0
  show Wa Y X 1 (g_MQ Y X 1 (g_N RV 116 P) 0 0) 0 0 0 [(0, .int (i32 x0))] [] RV iv av 116
  refine r_iload_n (pc' := 1) C 0 rfl rfl dX13_smallOrder_0 rfl ?_
  refine r_if_ne (pc' := 4) (tgt := 9) C hx0 dX13_smallOrder_1 (by decide) rfl (fun c1 => ?_) (fun c1 => ?_)
  · replace h := h.1 c1
    refine r_iload_n (pc' := 10) C 0 rfl rfl dX13_smallOrder_9 rfl ?_
    refine r_iconst (pc' := 11) C dX13_smallOrder_10 rfl ?_
    refine r_icmp_ne (pc' := 14) (tgt := 19) C hx0 (by decide) dX13_smallOrder_11 (by decide) rfl (fun c2 => ?_) (fun c2 => ?_)
    · replace h := h.1 c2
      refine r_iload_n (pc' := 20) C 0 rfl rfl dX13_smallOrder_19 rfl ?_
      refine r_iconst (pc' := 21) C dX13_smallOrder_20 rfl ?_
      refine r_icmp_ne (pc' := 24) (tgt := 29) C hx0 (by decide) dX13_smallOrder_21 (by decide) rfl (fun c3 => ?_) (fun c3 => ?_)
      · replace h := h.1 c3
        refine r_iload_n (pc' := 30) C 0 rfl rfl dX13_smallOrder_29 rfl ?_
        refine r_iconst (pc' := 31) C dX13_smallOrder_30 rfl ?_
        refine r_icmp_ne (pc' := 34) (tgt := 38) C hx0 (by decide) dX13_smallOrder_31 (by decide) rfl (fun c4 => ?_) (fun c4 => ?_)
        · replace h := h.1 c4
          refine r_iload_n (pc' := 39) C 0 rfl rfl dX13_smallOrder_38 rfl ?_
          refine r_iconst (pc' := 40) C dX13_smallOrder_39 rfl ?_
          have o5 := h.1
          replace h := h.2
          refine r_irem (pc' := 41) C ⟨o5, hx0⟩ ⟨(by decide), (by decide)⟩ dX13_smallOrder_40 rfl ?_
          refine r_if_ne (pc' := 44) (tgt := 53) C (by omega) dX13_smallOrder_41 (by decide) rfl (fun c6 => ?_) (fun c6 => ?_)
          · replace h := h.1 c6
            refine r_bipush (pc' := 55) C dX13_smallOrder_53 (by decide) rfl ?_
            refine r_iload_n (pc' := 56) C 0 rfl rfl dX13_smallOrder_55 rfl ?_
            refine r_iconst (pc' := 57) C dX13_smallOrder_56 rfl ?_
            refine r_idiv (pc' := 58) C ⟨o5, hx0⟩ ⟨(by decide), (by decide)⟩ dX13_smallOrder_57 rfl ?_
            refine r_isub (pc' := 59) C dX13_smallOrder_58 rfl ?_
            have o7 := h.1
            replace h := h.2
            exact r_iret C o7 ⟨rfl, rfl, h⟩ dX13_smallOrder_59
          · replace h := h.2 c6
            refine r_bipush (pc' := 46) C dX13_smallOrder_44 (by decide) rfl ?_
            refine r_iload_n (pc' := 47) C 0 rfl rfl dX13_smallOrder_46 rfl ?_
            refine r_iconst (pc' := 48) C dX13_smallOrder_47 rfl ?_
            refine r_idiv (pc' := 49) C ⟨o5, hx0⟩ ⟨(by decide), (by decide)⟩ dX13_smallOrder_48 rfl ?_
            refine r_iadd (pc' := 50) C dX13_smallOrder_49 rfl ?_
            refine r_goto (tgt := 59) C dX13_smallOrder_50 (by decide) ?_
            have o8 := h.1
            replace h := h.2
            exact r_iret C o8 ⟨rfl, rfl, h⟩ dX13_smallOrder_59
        · replace h := h.2 c4
          refine r_iconst (pc' := 35) C dX13_smallOrder_34 rfl ?_
          refine r_goto (tgt := 59) C dX13_smallOrder_35 (by decide) ?_
          exact r_iret C (by decide) ⟨rfl, rfl, h⟩ dX13_smallOrder_59
      · replace h := h.2 c3
        refine r_bipush (pc' := 26) C dX13_smallOrder_24 (by decide) rfl ?_
        refine r_goto (tgt := 59) C dX13_smallOrder_26 (by decide) ?_
        exact r_iret C (by decide) ⟨rfl, rfl, h⟩ dX13_smallOrder_59
    · replace h := h.2 c2
      refine r_bipush (pc' := 16) C dX13_smallOrder_14 (by decide) rfl ?_
      refine r_goto (tgt := 59) C dX13_smallOrder_16 (by decide) ?_
      exact r_iret C (by decide) ⟨rfl, rfl, h⟩ dX13_smallOrder_59
  · replace h := h.2 c1
    refine r_bipush (pc' := 6) C dX13_smallOrder_4 (by decide) rfl ?_
    refine r_goto (tgt := 59) C dX13_smallOrder_6 (by decide) ?_
    exact r_iret C (by decide) ⟨rfl, rfl, h⟩ dX13_smallOrder_59
set_option maxHeartbeats 4000000 in
set_option maxRecDepth 100000 in
theorem o_X13_writeBit {Y : Gl} {e : Nat} {P : PN} {x1 : Int} {iv av : IVt} (h : 
    ((InR (iv 73 31)) →
      (0 ≤ (iv 73 31)) ∧
      ((¬ ((iv 73 31) % 8) = 0) →
        (0 ≤ ((iv 73 31) / 8) ∧ ((iv 73 31) / 8) < 66000) ∧
        ((-128 ≤ (av 93 ((iv 73 31) / 8).toNat) ∧ (av 93 ((iv 73 31) / 8).toNat) ≤ 127) →
          (0 ≤ ((iv 73 31) % 8) ∧ ((iv 73 31) % 8) ≤ 31) ∧
          (InR ((iv 73 31) + 1)) ∧
          P 0 (up2 iv 73 31 ((iv 73 31) + 1)) (up2 av 93 (((iv 73 31) / 8).toNat) (bm8 (bm8 (g_or (av 93 ((iv 73 31) / 8).toNat) (x1 * 2 ^ ((iv 73 31) % 8).toNat)))))
        )
      ) ∧
      ((((iv 73 31) % 8) = 0) →
        (0 ≤ ((iv 73 31) / 8) ∧ ((iv 73 31) / 8) < 66000) ∧
        (InR ((iv 73 31) + 1)) ∧
        P 0 (up2 iv 73 31 ((iv 73 31) + 1)) (up2 av 93 (((iv 73 31) / 8).toNat) (bm8 (bm8 x1)))
      )
    )) : OkN Y e mX13_writeBit [.ref (gl_b Y + 73), .int (i32 x1)] RV iv av 116 P := by
  refine OkW.of rfl (by show _ ≤ 3; exact Nat.le_of_ble_eq_true rfl) fun X C0 hR => ?_
  have C : CX Y X RX13 "writeBit" cX13_writeBit 3 none e 0 0 := C0
  show Wa Y X 3 (g_MQ Y X 0 (g_N RV 116 P) 0 0) 0 0 0 [(0, .ref (gl_b Y + 73)), (1, .int (i32 x1))] [] RV iv av 116
  refine r_aload_n (pc' := 1) C 0 rfl rfl dX13_writeBit_0 rfl ?_
  refine r_geti (pc' := 4) (k := 73) C fl_X13_167 (by decide) kc_73 (by decide) fr_13_31 dX13_writeBit_1 rfl (fun f1 => ?_)
  replace h := h f1
  refine r_bipush (pc' := 6) C dX13_writeBit_4 (by decide) rfl ?_
  have o2 := h.1
  replace h := h.2
  refine r_idiv (pc' := 7) C ⟨o2, f1⟩ ⟨(by decide), (by decide)⟩ dX13_writeBit_6 rfl ?_
  refine r_istore_n (pc' := 8) (ls' := [(0, .ref (gl_b Y + 73)), (1, .int (i32 x1)), (2, .int (i32 ((iv 73 31) / 8)))]) C (by decide) rfl rfl dX13_writeBit_7 rfl ?_
  refine r_aload_n (pc' := 9) C 0 rfl rfl dX13_writeBit_8 rfl ?_
  refine r_getr (pc' := 12) (k := 73) (r := 93) C fl_X13_75 (by decide) kc_73 (by decide) fr_13_30 RV_73_30 dX13_writeBit_9 rfl ?_
  refine r_iload_n (pc' := 13) C 2 rfl rfl dX13_writeBit_12 rfl ?_
  refine r_aload_n (pc' := 14) C 0 rfl rfl dX13_writeBit_13 rfl ?_
  refine r_geti (pc' := 17) (k := 73) C fl_X13_167 (by decide) kc_73 (by decide) fr_13_31 dX13_writeBit_14 rfl (fun f3 => ?_)
  refine r_bipush (pc' := 19) C dX13_writeBit_17 (by decide) rfl ?_
  refine r_irem (pc' := 20) C ⟨o2, f1⟩ ⟨(by decide), (by decide)⟩ dX13_writeBit_19 rfl ?_
  refine r_if_ne (pc' := 23) (tgt := 27) C (by omega) dX13_writeBit_20 (by decide) rfl (fun c4 => ?_) (fun c4 => ?_)
  · replace h := h.1 c4
    refine r_aload_n (pc' := 28) C 0 rfl rfl dX13_writeBit_27 rfl ?_
    refine r_getr (pc' := 31) (k := 73) (r := 93) C fl_X13_75 (by decide) kc_73 (by decide) fr_13_30 RV_73_30 dX13_writeBit_28 rfl ?_
    refine r_iload_n (pc' := 32) C 2 rfl rfl dX13_writeBit_31 rfl ?_
    have o5 := h.1
    replace h := h.2
    refine r_bald (pc' := 33) (k := 93) C (by decide) kc_93 (by have := kl_93; omega) dX13_writeBit_32 rfl (fun f6 => ?_)
    replace h := h f6
    refine r_iload_n (pc' := 34) C 1 rfl rfl dX13_writeBit_33 rfl ?_
    refine r_aload_n (pc' := 35) C 0 rfl rfl dX13_writeBit_34 rfl ?_
    refine r_geti (pc' := 38) (k := 73) C fl_X13_167 (by decide) kc_73 (by decide) fr_13_31 dX13_writeBit_35 rfl (fun f7 => ?_)
    refine r_bipush (pc' := 40) C dX13_writeBit_38 (by decide) rfl ?_
    refine r_irem (pc' := 41) C ⟨o2, f1⟩ ⟨(by decide), (by decide)⟩ dX13_writeBit_40 rfl ?_
    have o8 := h.1
    replace h := h.2
    refine r_ishl (pc' := 42) C o8 dX13_writeBit_41 rfl ?_
    refine r_ior (pc' := 43) C dX13_writeBit_42 rfl ?_
    refine r_i2b (pc' := 44) C dX13_writeBit_43 rfl ?_
    refine r_bast (pc' := 45) (k := 93) C (by decide) kc_93 (by have := kl_93; omega) dX13_writeBit_44 rfl ?_
    refine r_aload_n (pc' := 46) C 0 rfl rfl dX13_writeBit_45 rfl ?_
    refine r_dup (pc' := 47) C rfl dX13_writeBit_46 rfl ?_
    refine r_geti (pc' := 50) (k := 73) C fl_X13_167 (by decide) kc_73 (by decide) fr_13_31 dX13_writeBit_47 rfl (fun f9 => ?_)
    refine r_iconst (pc' := 51) C dX13_writeBit_50 rfl ?_
    refine r_iadd (pc' := 52) C dX13_writeBit_51 rfl ?_
    have o10 := h.1
    replace h := h.2
    refine r_puti (pc' := 55) (k := 73) C fl_X13_167 (by decide) kc_73 (by decide) fr_13_31 o10 dX13_writeBit_52 rfl ?_
    exact r_vret C ⟨rfl, rfl, h⟩ dX13_writeBit_55
  · replace h := h.2 c4
    refine r_iload_n (pc' := 24) C 1 rfl rfl dX13_writeBit_23 rfl ?_
    refine r_goto (tgt := 43) C dX13_writeBit_24 (by decide) ?_
    refine r_i2b (pc' := 44) C dX13_writeBit_43 rfl ?_
    have o11 := h.1
    replace h := h.2
    refine r_bast (pc' := 45) (k := 93) C (by decide) kc_93 (by have := kl_93; omega) dX13_writeBit_44 rfl ?_
    refine r_aload_n (pc' := 46) C 0 rfl rfl dX13_writeBit_45 rfl ?_
    refine r_dup (pc' := 47) C rfl dX13_writeBit_46 rfl ?_
    refine r_geti (pc' := 50) (k := 73) C fl_X13_167 (by decide) kc_73 (by decide) fr_13_31 dX13_writeBit_47 rfl (fun f12 => ?_)
    refine r_iconst (pc' := 51) C dX13_writeBit_50 rfl ?_
    refine r_iadd (pc' := 52) C dX13_writeBit_51 rfl ?_
    have o13 := h.1
    replace h := h.2
    refine r_puti (pc' := 55) (k := 73) C fl_X13_167 (by decide) kc_73 (by decide) fr_13_31 o13 dX13_writeBit_52 rfl ?_
    exact r_vret C ⟨rfl, rfl, h⟩ dX13_writeBit_55
def L_X13_writeNumber_2 (Y : Gl) (X : Cx) (P : PN) (x1 : Int) (x2 : Int) (x3 : Int) (iv av : IVt) : Prop := Wa Y X 4 (g_MQ Y X 0 (g_N RV 116 P) 0 0) 0 0 2 [(0, .ref (gl_b Y + 73)), (1, .int (i32 x1)), (2, .int (i32 x2)), (3, .int (i32 x3))] [] RV iv av 116
set_option maxHeartbeats 4000000 in
set_option maxRecDepth 100000 in
theorem w_X13_writeNumber_2 {Y : Gl} {X : Cx} {e : Nat} {P : PN} {x1 : Int} {x2 : Int} {x3 : Int} {iv av : IVt} (C : CX Y X RX13 "writeNumber" cX13_writeNumber 4 none (e + 1) 0 0) (hx1 : InR x1) (hx2 : InR x2) (hx3 : InR x3) (h :
    ((x2 ≤ x3) →
      P 0 iv av
    ) ∧
    ((¬ x2 ≤ x3) →
      (0 ≤ x3 ∧ x3 ≤ 31) ∧
      OkN Y e mX13_writeBit [.ref (gl_b Y + 73), .int (i32 ((x1 / 2 ^ x3.toNat) % 2))] RV iv av 116 (fun r3 iv4 av5 =>
        L_X13_writeNumber_2 Y X P x1 x2 (x3 + 1) iv4 av5
      )
    )) : L_X13_writeNumber_2 Y X P x1 x2 x3 iv av := by
  unfold L_X13_writeNumber_2
  refine r_iload_n (pc' := 3) C 3 rfl rfl dX13_writeNumber_2 rfl ?_
  refine r_iload_n (pc' := 4) C 2 rfl rfl dX13_writeNumber_3 rfl ?_
  refine r_icmp_ge (pc' := 7) (tgt := 22) C hx3 hx2 dX13_writeNumber_4 (by decide) rfl (fun c1 => ?_) (fun c1 => ?_)
  · replace h := h.1 c1
    exact r_vret C ⟨rfl, rfl, h⟩ dX13_writeNumber_22
  · replace h := h.2 c1
    refine r_aload_n (pc' := 8) C 0 rfl rfl dX13_writeNumber_7 rfl ?_
    refine r_iload_n (pc' := 9) C 1 rfl rfl dX13_writeNumber_8 rfl ?_
    refine r_iload_n (pc' := 10) C 3 rfl rfl dX13_writeNumber_9 rfl ?_
    have o2 := h.1
    replace h := h.2
    refine r_ishr (pc' := 11) C hx1 o2 dX13_writeNumber_10 rfl ?_
    refine r_iconst (pc' := 12) C dX13_writeNumber_11 rfl ?_
    refine r_iandM (pc' := 13) (m := 2) C 1 (by decide) (by decide) (by decide) dX13_writeNumber_12 rfl ?_
    refine c_Vv (pc' := 16) (mt := mX13_writeBit) (as := [.int (i32 ((x1 / 2 ^ x3.toNat) % 2))]) (st := []) (k := 73) C h rfl cl_X13_writeBit ml_X13_170 im_X13_writeBit sl_X13_writeBit (by omega) (Nat.le_refl _) (Nat.le_refl _) rfl (by decide) kc_73 (by decide) rfl rfl rfl (Nat.le_of_ble_eq_true rfl) dX13_writeNumber_13 rfl (fun r3 iv4 av5 h => ?_)
    refine r_iinc (pc' := 19) (ls' := [(0, .ref (gl_b Y + 73)), (1, .int (i32 x1)), (2, .int (i32 x2)), (3, .int (i32 (x3 + 1)))]) C 3 rfl (by decide) rfl dX13_writeNumber_16 rfl ?_
    refine r_goto (tgt := 2) C dX13_writeNumber_19 (by decide) ?_
    exact Wa.sub [0, 1, 2, 3] rfl h
set_option maxHeartbeats 4000000 in
set_option maxRecDepth 100000 in
theorem o_X13_writeNumber {Y : Gl} {e : Nat} {P : PN} {x1 : Int} {x2 : Int} {iv av : IVt} (h : ∀ X : Cx, CX Y X RX13 "writeNumber" cX13_writeNumber 4 none (e + 1) 0 0 →
    L_X13_writeNumber_2 Y X P x1 x2 0 iv av) : OkN Y (e + 1) mX13_writeNumber [.ref (gl_b Y + 73), .int (i32 x1), .int (i32 x2)] RV iv av 116 P := by
  refine OkW.of rfl (by show _ ≤ 4; exact Nat.le_of_ble_eq_true rfl) fun X C0 hR => ?_
  have C : CX Y X RX13 "writeNumber" cX13_writeNumber 4 none (e + 1) 0 0 := C0
  replace h := h X C
  show Wa Y X 4 (g_MQ Y X 0 (g_N RV 116 P) 0 0) 0 0 0 [(0, .ref (gl_b Y + 73)), (1, .int (i32 x1)), (2, .int (i32 x2))] [] RV iv av 116
  refine r_iconst (pc' := 1) C dX13_writeNumber_0 rfl ?_
  refine r_istore_n (pc' := 2) (ls' := [(0, .ref (gl_b Y + 73)), (1, .int (i32 x1)), (2, .int (i32 x2)), (3, .int (i32 0))]) C (by decide) rfl rfl dX13_writeNumber_1 rfl ?_
  exact Wa.sub [0, 1, 2, 3] rfl h
def L_X13_codeOf_6 (Y : Gl) (X : Cx) (P : PN) (a0 : Nat) (x1 : Int) (x2 : Int) (x3 : Int) (x4 : Int) (x5 : Int) (iv av : IVt) : Prop := Wa Y X 8 (g_MQ Y X 1 (g_N RV 116 P) 0 0) 0 0 6 [(0, .ref (gl_b Y + a0)), (1, .int (i32 x1)), (2, .int (i32 x2)), (3, .int (i32 x3)), (4, .int (i32 x4)), (5, .int (i32 x5))] [] RV iv av 116
def L_X13_codeOf_25 (Y : Gl) (X : Cx) (P : PN) (a0 : Nat) (x1 : Int) (x2 : Int) (x3 : Int) (x4 : Int) (x5 : Int) (x6 : Int) (iv av : IVt) : Prop := Wa Y X 8 (g_MQ Y X 1 (g_N RV 116 P) 0 0) 0 0 25 [(0, .ref (gl_b Y + a0)), (1, .int (i32 x1)), (2, .int (i32 x2)), (3, .int (i32 x3)), (4, .int (i32 x4)), (5, .int (i32 x5)), (6, .int (i32 x6))] [] RV iv av 116
set_option maxHeartbeats 4000000 in
set_option maxRecDepth 100000 in
theorem w_X13_codeOf_25 {Y : Gl} {X : Cx} {e : Nat} {P : PN} {a0 : Nat} {x1 : Int} {x2 : Int} {x3 : Int} {x4 : Int} {x5 : Int} {x6 : Int} {iv av : IVt} (C : CX Y X RX13 "codeOf" cX13_codeOf 8 (some .int) e 0 0) (Ka0 : ArrK 100 a0) (hx2 : InR x2) (hx3 : InR x3) (hx5 : InR x5) (hx6 : InR x6) (h :
    ((x2 ≤ x6) →
      L_X13_codeOf_6 Y X P a0 x1 x2 x3 x4 (x5 + 1) iv av
    ) ∧
    ((¬ x2 ≤ x6) →
      (0 ≤ (x1 + x3) ∧ (x1 + x3) < (kl a0 : Int)) ∧
      ((InR (av a0 (x1 + x3).toNat)) →
        ((x5 < (av a0 (x1 + x3).toNat)) →
          (0 ≤ (x1 + x6) ∧ (x1 + x6) < (kl a0 : Int)) ∧
          ((InR (av a0 (x1 + x6).toNat)) →
            ((¬ (av a0 (x1 + x6).toNat) = x5) →
              L_X13_codeOf_25 Y X P a0 x1 x2 x3 x4 x5 (x6 + 1) iv av
            ) ∧
            (((av a0 (x1 + x6).toNat) = x5) →
              L_X13_codeOf_25 Y X P a0 x1 x2 x3 (x4 + 1) x5 (x6 + 1) iv av
            )
          )
        ) ∧
        ((¬ x5 < (av a0 (x1 + x3).toNat)) →
          ((x3 ≤ x6) →
            (0 ≤ (x1 + x6) ∧ (x1 + x6) < (kl a0 : Int)) ∧
            ((InR (av a0 (x1 + x6).toNat)) →
              ((¬ (av a0 (x1 + x6).toNat) = x5) →
                L_X13_codeOf_25 Y X P a0 x1 x2 x3 x4 x5 (x6 + 1) iv av
              ) ∧
              (((av a0 (x1 + x6).toNat) = x5) →
                L_X13_codeOf_25 Y X P a0 x1 x2 x3 x4 x5 (x6 + 1) iv av
              )
            )
          ) ∧
          ((¬ x3 ≤ x6) →
            (0 ≤ (x1 + x6) ∧ (x1 + x6) < (kl a0 : Int)) ∧
            ((InR (av a0 (x1 + x6).toNat)) →
              ((¬ (av a0 (x1 + x6).toNat) = x5) →
                L_X13_codeOf_25 Y X P a0 x1 x2 x3 x4 x5 (x6 + 1) iv av
              ) ∧
              (((av a0 (x1 + x6).toNat) = x5) →
                L_X13_codeOf_25 Y X P a0 x1 x2 x3 (x4 + 1) x5 (x6 + 1) iv av
              )
            )
          )
        )
      )
    )) : L_X13_codeOf_25 Y X P a0 x1 x2 x3 x4 x5 x6 iv av := by
  obtain ⟨ha0c, ha0l⟩ := Ka0
  unfold L_X13_codeOf_25
  refine r_iload (pc' := 27) C 6 rfl dX13_codeOf_25 rfl ?_
  refine r_iload_n (pc' := 28) C 2 rfl rfl dX13_codeOf_27 rfl ?_
  refine r_icmp_ge (pc' := 31) (tgt := 87) C hx6 hx2 dX13_codeOf_28 (by decide) rfl (fun c1 => ?_) (fun c1 => ?_)
  · replace h := h.1 c1
    refine r_iinc (pc' := 90) (ls' := [(0, .ref (gl_b Y + a0)), (1, .int (i32 x1)), (2, .int (i32 x2)), (3, .int (i32 x3)), (4, .int (i32 x4)), (5, .int (i32 (x5 + 1))), (6, .int (i32 x6))]) C 5 rfl (by decide) rfl dX13_codeOf_87 rfl ?_
    refine r_goto (tgt := 6) C dX13_codeOf_90 (by decide) ?_
    exact Wa.sub [0, 1, 2, 3, 4, 5] rfl h
  · replace h := h.2 c1
    refine r_iload (pc' := 33) C 5 rfl dX13_codeOf_31 rfl ?_
    refine r_aload_n (pc' := 34) C 0 rfl rfl dX13_codeOf_33 rfl ?_
    refine r_iload_n (pc' := 35) C 1 rfl rfl dX13_codeOf_34 rfl ?_
    refine r_iload_n (pc' := 36) C 3 rfl rfl dX13_codeOf_35 rfl ?_
    refine r_iadd (pc' := 37) C dX13_codeOf_36 rfl ?_
    have o2 := h.1
    replace h := h.2
    refine r_iald (pc' := 38) (k := a0) C (by omega) ha0c o2 dX13_codeOf_37 rfl (fun f3 => ?_)
    replace h := h f3
    refine r_icmp_lt (pc' := 41) (tgt := 47) C hx5 f3 dX13_codeOf_38 (by decide) rfl (fun c4 => ?_) (fun c4 => ?_)
    · replace h := h.1 c4
      refine r_iconst (pc' := 48) C dX13_codeOf_47 rfl ?_
      refine r_goto (tgt := 52) C dX13_codeOf_48 (by decide) ?_
      refine r_istore (pc' := 54) (ls' := [(0, .ref (gl_b Y + a0)), (1, .int (i32 x1)), (2, .int (i32 x2)), (3, .int (i32 x3)), (4, .int (i32 x4)), (5, .int (i32 x5)), (6, .int (i32 x6)), (7, .int (i32 1))]) C (by decide) rfl dX13_codeOf_52 rfl ?_
      refine r_aload_n (pc' := 55) C 0 rfl rfl dX13_codeOf_54 rfl ?_
      refine r_iload_n (pc' := 56) C 1 rfl rfl dX13_codeOf_55 rfl ?_
      refine r_iload (pc' := 58) C 6 rfl dX13_codeOf_56 rfl ?_
      refine r_iadd (pc' := 59) C dX13_codeOf_58 rfl ?_
      have o5 := h.1
      replace h := h.2
      refine r_iald (pc' := 60) (k := a0) C (by omega) ha0c o5 dX13_codeOf_59 rfl (fun f6 => ?_)
      replace h := h f6
      refine r_iload (pc' := 62) C 5 rfl dX13_codeOf_60 rfl ?_
      refine r_icmp_ne (pc' := 65) (tgt := 77) C f6 hx5 dX13_codeOf_62 (by decide) rfl (fun c7 => ?_) (fun c7 => ?_)
      · replace h := h.1 c7
        refine r_iload (pc' := 79) C 4 rfl dX13_codeOf_77 rfl ?_
        refine r_istore (pc' := 81) (ls' := [(0, .ref (gl_b Y + a0)), (1, .int (i32 x1)), (2, .int (i32 x2)), (3, .int (i32 x3)), (4, .int (i32 x4)), (5, .int (i32 x5)), (6, .int (i32 x6)), (7, .int (i32 1))]) C (by decide) rfl dX13_codeOf_79 rfl ?_
        refine r_iinc (pc' := 84) (ls' := [(0, .ref (gl_b Y + a0)), (1, .int (i32 x1)), (2, .int (i32 x2)), (3, .int (i32 x3)), (4, .int (i32 x4)), (5, .int (i32 x5)), (6, .int (i32 (x6 + 1))), (7, .int (i32 1))]) C 6 rfl (by decide) rfl dX13_codeOf_81 rfl ?_
        refine r_goto (tgt := 25) C dX13_codeOf_84 (by decide) ?_
        exact Wa.sub [0, 1, 2, 3, 4, 5, 6] rfl h
      · replace h := h.2 c7
        refine r_iload (pc' := 67) C 7 rfl dX13_codeOf_65 rfl ?_
        refine r_if_eq (pc' := 70) (tgt := 77) C (by decide) dX13_codeOf_67 (by decide) rfl (fun z => absurd z (by decide)) (fun _ => ?_)
        refine r_iload (pc' := 72) C 4 rfl dX13_codeOf_70 rfl ?_
        refine r_iconst (pc' := 73) C dX13_codeOf_72 rfl ?_
        refine r_iadd (pc' := 74) C dX13_codeOf_73 rfl ?_
        refine r_goto (tgt := 79) C dX13_codeOf_74 (by decide) ?_
        refine r_istore (pc' := 81) (ls' := [(0, .ref (gl_b Y + a0)), (1, .int (i32 x1)), (2, .int (i32 x2)), (3, .int (i32 x3)), (4, .int (i32 (x4 + 1))), (5, .int (i32 x5)), (6, .int (i32 x6)), (7, .int (i32 1))]) C (by decide) rfl dX13_codeOf_79 rfl ?_
        refine r_iinc (pc' := 84) (ls' := [(0, .ref (gl_b Y + a0)), (1, .int (i32 x1)), (2, .int (i32 x2)), (3, .int (i32 x3)), (4, .int (i32 (x4 + 1))), (5, .int (i32 x5)), (6, .int (i32 (x6 + 1))), (7, .int (i32 1))]) C 6 rfl (by decide) rfl dX13_codeOf_81 rfl ?_
        refine r_goto (tgt := 25) C dX13_codeOf_84 (by decide) ?_
        exact Wa.sub [0, 1, 2, 3, 4, 5, 6] rfl h
    · replace h := h.2 c4
      refine r_iload (pc' := 43) C 6 rfl dX13_codeOf_41 rfl ?_
      refine r_iload_n (pc' := 44) C 3 rfl rfl dX13_codeOf_43 rfl ?_
      refine r_icmp_ge (pc' := 47) (tgt := 51) C hx6 hx3 dX13_codeOf_44 (by decide) rfl (fun c8 => ?_) (fun c8 => ?_)
      · replace h := h.1 c8
        refine r_iconst (pc' := 52) C dX13_codeOf_51 rfl ?_
        refine r_istore (pc' := 54) (ls' := [(0, .ref (gl_b Y + a0)), (1, .int (i32 x1)), (2, .int (i32 x2)), (3, .int (i32 x3)), (4, .int (i32 x4)), (5, .int (i32 x5)), (6, .int (i32 x6)), (7, .int (i32 0))]) C (by decide) rfl dX13_codeOf_52 rfl ?_
        refine r_aload_n (pc' := 55) C 0 rfl rfl dX13_codeOf_54 rfl ?_
        refine r_iload_n (pc' := 56) C 1 rfl rfl dX13_codeOf_55 rfl ?_
        refine r_iload (pc' := 58) C 6 rfl dX13_codeOf_56 rfl ?_
        refine r_iadd (pc' := 59) C dX13_codeOf_58 rfl ?_
        have o9 := h.1
        replace h := h.2
        refine r_iald (pc' := 60) (k := a0) C (by omega) ha0c o9 dX13_codeOf_59 rfl (fun f10 => ?_)
        replace h := h f10
        refine r_iload (pc' := 62) C 5 rfl dX13_codeOf_60 rfl ?_
        refine r_icmp_ne (pc' := 65) (tgt := 77) C f10 hx5 dX13_codeOf_62 (by decide) rfl (fun c11 => ?_) (fun c11 => ?_)
        · replace h := h.1 c11
          refine r_iload (pc' := 79) C 4 rfl dX13_codeOf_77 rfl ?_
          refine r_istore (pc' := 81) (ls' := [(0, .ref (gl_b Y + a0)), (1, .int (i32 x1)), (2, .int (i32 x2)), (3, .int (i32 x3)), (4, .int (i32 x4)), (5, .int (i32 x5)), (6, .int (i32 x6)), (7, .int (i32 0))]) C (by decide) rfl dX13_codeOf_79 rfl ?_
          refine r_iinc (pc' := 84) (ls' := [(0, .ref (gl_b Y + a0)), (1, .int (i32 x1)), (2, .int (i32 x2)), (3, .int (i32 x3)), (4, .int (i32 x4)), (5, .int (i32 x5)), (6, .int (i32 (x6 + 1))), (7, .int (i32 0))]) C 6 rfl (by decide) rfl dX13_codeOf_81 rfl ?_
          refine r_goto (tgt := 25) C dX13_codeOf_84 (by decide) ?_
          exact Wa.sub [0, 1, 2, 3, 4, 5, 6] rfl h
        · replace h := h.2 c11
          refine r_iload (pc' := 67) C 7 rfl dX13_codeOf_65 rfl ?_
          refine r_if_eq (pc' := 70) (tgt := 77) C (by decide) dX13_codeOf_67 (by decide) rfl (fun _ => ?_) (fun z => absurd z (by decide))
          refine r_iload (pc' := 79) C 4 rfl dX13_codeOf_77 rfl ?_
          refine r_istore (pc' := 81) (ls' := [(0, .ref (gl_b Y + a0)), (1, .int (i32 x1)), (2, .int (i32 x2)), (3, .int (i32 x3)), (4, .int (i32 x4)), (5, .int (i32 x5)), (6, .int (i32 x6)), (7, .int (i32 0))]) C (by decide) rfl dX13_codeOf_79 rfl ?_
          refine r_iinc (pc' := 84) (ls' := [(0, .ref (gl_b Y + a0)), (1, .int (i32 x1)), (2, .int (i32 x2)), (3, .int (i32 x3)), (4, .int (i32 x4)), (5, .int (i32 x5)), (6, .int (i32 (x6 + 1))), (7, .int (i32 0))]) C 6 rfl (by decide) rfl dX13_codeOf_81 rfl ?_
          refine r_goto (tgt := 25) C dX13_codeOf_84 (by decide) ?_
          exact Wa.sub [0, 1, 2, 3, 4, 5, 6] rfl h
      · replace h := h.2 c8
        refine r_iconst (pc' := 48) C dX13_codeOf_47 rfl ?_
        refine r_goto (tgt := 52) C dX13_codeOf_48 (by decide) ?_
        refine r_istore (pc' := 54) (ls' := [(0, .ref (gl_b Y + a0)), (1, .int (i32 x1)), (2, .int (i32 x2)), (3, .int (i32 x3)), (4, .int (i32 x4)), (5, .int (i32 x5)), (6, .int (i32 x6)), (7, .int (i32 1))]) C (by decide) rfl dX13_codeOf_52 rfl ?_
        refine r_aload_n (pc' := 55) C 0 rfl rfl dX13_codeOf_54 rfl ?_
        refine r_iload_n (pc' := 56) C 1 rfl rfl dX13_codeOf_55 rfl ?_
        refine r_iload (pc' := 58) C 6 rfl dX13_codeOf_56 rfl ?_
        refine r_iadd (pc' := 59) C dX13_codeOf_58 rfl ?_
        have o12 := h.1
        replace h := h.2
        refine r_iald (pc' := 60) (k := a0) C (by omega) ha0c o12 dX13_codeOf_59 rfl (fun f13 => ?_)
        replace h := h f13
        refine r_iload (pc' := 62) C 5 rfl dX13_codeOf_60 rfl ?_
        refine r_icmp_ne (pc' := 65) (tgt := 77) C f13 hx5 dX13_codeOf_62 (by decide) rfl (fun c14 => ?_) (fun c14 => ?_)
        · replace h := h.1 c14
          refine r_iload (pc' := 79) C 4 rfl dX13_codeOf_77 rfl ?_
          refine r_istore (pc' := 81) (ls' := [(0, .ref (gl_b Y + a0)), (1, .int (i32 x1)), (2, .int (i32 x2)), (3, .int (i32 x3)), (4, .int (i32 x4)), (5, .int (i32 x5)), (6, .int (i32 x6)), (7, .int (i32 1))]) C (by decide) rfl dX13_codeOf_79 rfl ?_
          refine r_iinc (pc' := 84) (ls' := [(0, .ref (gl_b Y + a0)), (1, .int (i32 x1)), (2, .int (i32 x2)), (3, .int (i32 x3)), (4, .int (i32 x4)), (5, .int (i32 x5)), (6, .int (i32 (x6 + 1))), (7, .int (i32 1))]) C 6 rfl (by decide) rfl dX13_codeOf_81 rfl ?_
          refine r_goto (tgt := 25) C dX13_codeOf_84 (by decide) ?_
          exact Wa.sub [0, 1, 2, 3, 4, 5, 6] rfl h
        · replace h := h.2 c14
          refine r_iload (pc' := 67) C 7 rfl dX13_codeOf_65 rfl ?_
          refine r_if_eq (pc' := 70) (tgt := 77) C (by decide) dX13_codeOf_67 (by decide) rfl (fun z => absurd z (by decide)) (fun _ => ?_)
          refine r_iload (pc' := 72) C 4 rfl dX13_codeOf_70 rfl ?_
          refine r_iconst (pc' := 73) C dX13_codeOf_72 rfl ?_
          refine r_iadd (pc' := 74) C dX13_codeOf_73 rfl ?_
          refine r_goto (tgt := 79) C dX13_codeOf_74 (by decide) ?_
          refine r_istore (pc' := 81) (ls' := [(0, .ref (gl_b Y + a0)), (1, .int (i32 x1)), (2, .int (i32 x2)), (3, .int (i32 x3)), (4, .int (i32 (x4 + 1))), (5, .int (i32 x5)), (6, .int (i32 x6)), (7, .int (i32 1))]) C (by decide) rfl dX13_codeOf_79 rfl ?_
          refine r_iinc (pc' := 84) (ls' := [(0, .ref (gl_b Y + a0)), (1, .int (i32 x1)), (2, .int (i32 x2)), (3, .int (i32 x3)), (4, .int (i32 (x4 + 1))), (5, .int (i32 x5)), (6, .int (i32 (x6 + 1))), (7, .int (i32 1))]) C 6 rfl (by decide) rfl dX13_codeOf_81 rfl ?_
          refine r_goto (tgt := 25) C dX13_codeOf_84 (by decide) ?_
          exact Wa.sub [0, 1, 2, 3, 4, 5, 6] rfl h
set_option maxHeartbeats 4000000 in
set_option maxRecDepth 100000 in
theorem w_X13_codeOf_6 {Y : Gl} {X : Cx} {e : Nat} {P : PN} {a0 : Nat} {x1 : Int} {x2 : Int} {x3 : Int} {x4 : Int} {x5 : Int} {iv av : IVt} (C : CX Y X RX13 "codeOf" cX13_codeOf 8 (some .int) e 0 0) (Ka0 : ArrK 100 a0) (hx4 : InR x4) (hx5 : InR x5) (h :
    (0 ≤ (x1 + x3) ∧ (x1 + x3) < (kl a0 : Int)) ∧
    ((InR (av a0 (x1 + x3).toNat)) →
      (((av a0 (x1 + x3).toNat) < x5) →
        P x4 iv av
      ) ∧
      ((¬ (av a0 (x1 + x3).toNat) < x5) →
        L_X13_codeOf_25 Y X P a0 x1 x2 x3 (2 * x4) x5 0 iv av
      )
    )) : L_X13_codeOf_6 Y X P a0 x1 x2 x3 x4 x5 iv av := by
  obtain ⟨ha0c, ha0l⟩ := Ka0
  unfold L_X13_codeOf_6
  refine r_iload (pc' := 8) C 5 rfl dX13_codeOf_6 rfl ?_
  refine r_aload_n (pc' := 9) C 0 rfl rfl dX13_codeOf_8 rfl ?_
  refine r_iload_n (pc' := 10) C 1 rfl rfl dX13_codeOf_9 rfl ?_
  refine r_iload_n (pc' := 11) C 3 rfl rfl dX13_codeOf_10 rfl ?_
  refine r_iadd (pc' := 12) C dX13_codeOf_11 rfl ?_
  have o1 := h.1
  replace h := h.2
  refine r_iald (pc' := 13) (k := a0) C (by omega) ha0c o1 dX13_codeOf_12 rfl (fun f2 => ?_)
  replace h := h f2
  refine r_icmp_gt (pc' := 16) (tgt := 93) C hx5 f2 dX13_codeOf_13 (by decide) rfl (fun c3 => ?_) (fun c3 => ?_)
  · replace h := h.1 c3
    refine r_iload (pc' := 95) C 4 rfl dX13_codeOf_93 rfl ?_
    exact r_iret C hx4 ⟨rfl, rfl, h⟩ dX13_codeOf_95
  · replace h := h.2 c3
    refine r_iconst (pc' := 17) C dX13_codeOf_16 rfl ?_
    refine r_iload (pc' := 19) C 4 rfl dX13_codeOf_17 rfl ?_
    refine r_imul (pc' := 20) C dX13_codeOf_19 rfl ?_
    refine r_istore (pc' := 22) (ls' := [(0, .ref (gl_b Y + a0)), (1, .int (i32 x1)), (2, .int (i32 x2)), (3, .int (i32 x3)), (4, .int (i32 (2 * x4))), (5, .int (i32 x5))]) C (by decide) rfl dX13_codeOf_20 rfl ?_
    refine r_iconst (pc' := 23) C dX13_codeOf_22 rfl ?_
    refine r_istore (pc' := 25) (ls' := [(0, .ref (gl_b Y + a0)), (1, .int (i32 x1)), (2, .int (i32 x2)), (3, .int (i32 x3)), (4, .int (i32 (2 * x4))), (5, .int (i32 x5)), (6, .int (i32 0))]) C (by decide) rfl dX13_codeOf_23 rfl ?_
    exact Wa.sub [0, 1, 2, 3, 4, 5, 6] rfl h
set_option maxHeartbeats 4000000 in
set_option maxRecDepth 100000 in
theorem o_X13_codeOf {Y : Gl} {e : Nat} {P : PN} {a0 : Nat} {x1 : Int} {x2 : Int} {x3 : Int} {iv av : IVt} (Ka0 : ArrK 100 a0) (h : ∀ X : Cx, CX Y X RX13 "codeOf" cX13_codeOf 8 (some .int) e 0 0 →
    L_X13_codeOf_6 Y X P a0 x1 x2 x3 0 1 iv av) : OkN Y e mX13_codeOf [.ref (gl_b Y + a0), .int (i32 x1), .int (i32 x2), .int (i32 x3)] RV iv av 116 P := by
  obtain ⟨ha0c, ha0l⟩ := Ka0
  refine OkW.of rfl (by show _ ≤ 8; exact Nat.le_of_ble_eq_true rfl) fun X C0 hR => ?_
  have C : CX Y X RX13 "codeOf" cX13_codeOf 8 (some .int) e 0 0 := C0
  replace h := h X C
  show Wa Y X 8 (g_MQ Y X 1 (g_N RV 116 P) 0 0) 0 0 0 [(0, .ref (gl_b Y + a0)), (1, .int (i32 x1)), (2, .int (i32 x2)), (3, .int (i32 x3))] [] RV iv av 116
  refine r_iconst (pc' := 1) C dX13_codeOf_0 rfl ?_
  refine r_istore (pc' := 3) (ls' := [(0, .ref (gl_b Y + a0)), (1, .int (i32 x1)), (2, .int (i32 x2)), (3, .int (i32 x3)), (4, .int (i32 0))]) C (by decide) rfl dX13_codeOf_1 rfl ?_
  refine r_iconst (pc' := 4) C dX13_codeOf_3 rfl ?_
  refine r_istore (pc' := 6) (ls' := [(0, .ref (gl_b Y + a0)), (1, .int (i32 x1)), (2, .int (i32 x2)), (3, .int (i32 x3)), (4, .int (i32 0)), (5, .int (i32 1))]) C (by decide) rfl dX13_codeOf_4 rfl ?_
  exact Wa.sub [0, 1, 2, 3, 4, 5] rfl h
def L_X13_makeCodes_3 (Y : Gl) (X : Cx) (P : PN) (a1 : Nat) (x2 : Int) (x3 : Int) (x4 : Int) (iv av : IVt) : Prop := Wa Y X 5 (g_MQ Y X 0 (g_N RV 116 P) 0 0) 0 0 3 [(0, .ref (gl_b Y + 73)), (1, .ref (gl_b Y + a1)), (2, .int (i32 x2)), (3, .int (i32 x3)), (4, .int (i32 x4))] [] RV iv av 116
set_option maxHeartbeats 4000000 in
set_option maxRecDepth 100000 in
theorem w_X13_makeCodes_3 {Y : Gl} {X : Cx} {e : Nat} {P : PN} {a1 : Nat} {x2 : Int} {x3 : Int} {x4 : Int} {iv av : IVt} (C : CX Y X RX13 "makeCodes" cX13_makeCodes 5 none (e + 1) 0 0) (Ka1 : ArrK 100 a1) (hx2 : InR x2) (hx3 : InR x3) (hx4 : InR x4) (h :
    ((x3 ≤ x4) →
      P 0 iv av
    ) ∧
    ((¬ x3 ≤ x4) →
      (0 ≤ (x2 + x4) ∧ (x2 + x4) < (kl a1 : Int)) ∧
      ((InR (av a1 (x2 + x4).toNat)) →
        (((av a1 (x2 + x4).toNat) ≤ 0) →
          (0 ≤ (x2 + x4) ∧ (x2 + x4) < 339) ∧
          L_X13_makeCodes_3 Y X P a1 x2 x3 (x4 + 1) iv (up2 av 108 ((x2 + x4).toNat) 0)
        ) ∧
        ((¬ (av a1 (x2 + x4).toNat) ≤ 0) →
          OkN Y e mX13_codeOf [.ref (gl_b Y + a1), .int (i32 x2), .int (i32 x3), .int (i32 x4)] RV iv av 116 (fun r6 iv7 av8 =>
            (InR r6) →
            (0 ≤ (x2 + x4) ∧ (x2 + x4) < 339) ∧
            L_X13_makeCodes_3 Y X P a1 x2 x3 (x4 + 1) iv7 (up2 av8 108 ((x2 + x4).toNat) r6)
          )
        )
      )
    )) : L_X13_makeCodes_3 Y X P a1 x2 x3 x4 iv av := by
  obtain ⟨ha1c, ha1l⟩ := Ka1
  unfold L_X13_makeCodes_3
  refine r_iload (pc' := 5) C 4 rfl dX13_makeCodes_3 rfl ?_
  refine r_iload_n (pc' := 6) C 3 rfl rfl dX13_makeCodes_5 rfl ?_
  refine r_icmp_ge (pc' := 9) (tgt := 45) C hx4 hx3 dX13_makeCodes_6 (by decide) rfl (fun c1 => ?_) (fun c1 => ?_)
  · replace h := h.1 c1
    exact r_vret C ⟨rfl, rfl, h⟩ dX13_makeCodes_45
  · replace h := h.2 c1
    refine r_aload_n (pc' := 10) C 0 rfl rfl dX13_makeCodes_9 rfl ?_
    refine r_getr (pc' := 13) (k := 73) (r := 108) C fl_X13_120 (by decide) kc_73 (by decide) fr_13_48 RV_73_48 dX13_makeCodes_10 rfl ?_
    refine r_iload_n (pc' := 14) C 2 rfl rfl dX13_makeCodes_13 rfl ?_
    refine r_iload (pc' := 16) C 4 rfl dX13_makeCodes_14 rfl ?_
    refine r_iadd (pc' := 17) C dX13_makeCodes_16 rfl ?_
    refine r_aload_n (pc' := 18) C 1 rfl rfl dX13_makeCodes_17 rfl ?_
    refine r_iload_n (pc' := 19) C 2 rfl rfl dX13_makeCodes_18 rfl ?_
    refine r_iload (pc' := 21) C 4 rfl dX13_makeCodes_19 rfl ?_
    refine r_iadd (pc' := 22) C dX13_makeCodes_21 rfl ?_
    have o2 := h.1
    replace h := h.2
    refine r_iald (pc' := 23) (k := a1) C (by omega) ha1c o2 dX13_makeCodes_22 rfl (fun f3 => ?_)
    replace h := h f3
    refine r_if_le (pc' := 26) (tgt := 37) C f3 dX13_makeCodes_23 (by decide) rfl (fun c4 => ?_) (fun c4 => ?_)
    · replace h := h.1 c4
      refine r_iconst (pc' := 38) C dX13_makeCodes_37 rfl ?_
      have o5 := h.1
      replace h := h.2
      refine r_iast (pc' := 39) (k := 108) C (by decide) kc_108 (by have := kl_108; omega) (by decide) dX13_makeCodes_38 rfl ?_
      refine r_iinc (pc' := 42) (ls' := [(0, .ref (gl_b Y + 73)), (1, .ref (gl_b Y + a1)), (2, .int (i32 x2)), (3, .int (i32 x3)), (4, .int (i32 (x4 + 1)))]) C 4 rfl (by decide) rfl dX13_makeCodes_39 rfl ?_
      refine r_goto (tgt := 3) C dX13_makeCodes_42 (by decide) ?_
      exact Wa.sub [0, 1, 2, 3, 4] rfl h
    · replace h := h.2 c4
      refine r_aload_n (pc' := 27) C 1 rfl rfl dX13_makeCodes_26 rfl ?_
      refine r_iload_n (pc' := 28) C 2 rfl rfl dX13_makeCodes_27 rfl ?_
      refine r_iload_n (pc' := 29) C 3 rfl rfl dX13_makeCodes_28 rfl ?_
      refine r_iload (pc' := 31) C 4 rfl dX13_makeCodes_29 rfl ?_
      refine c_Si (pc' := 34) (mt := mX13_codeOf) (as := [.ref (gl_b Y + a1), .int (i32 x2), .int (i32 x3), .int (i32 x4)]) (st := [.int (i32 (x2 + x4)), .ref (gl_b Y + 108)]) C h rfl cl_X13_codeOf ml_X13_174 sm_X13_codeOf (by omega) (Nat.le_refl _) (Nat.le_refl _) rfl rfl (Nat.le_of_ble_eq_true rfl) dX13_makeCodes_31 rfl (fun r6 iv7 av8 f9 h => ?_)
      replace h := h f9
      refine r_goto (tgt := 38) C dX13_makeCodes_34 (by decide) ?_
      have o10 := h.1
      replace h := h.2
      refine r_iast (pc' := 39) (k := 108) C (by decide) kc_108 (by have := kl_108; omega) f9 dX13_makeCodes_38 rfl ?_
      refine r_iinc (pc' := 42) (ls' := [(0, .ref (gl_b Y + 73)), (1, .ref (gl_b Y + a1)), (2, .int (i32 x2)), (3, .int (i32 x3)), (4, .int (i32 (x4 + 1)))]) C 4 rfl (by decide) rfl dX13_makeCodes_39 rfl ?_
      refine r_goto (tgt := 3) C dX13_makeCodes_42 (by decide) ?_
      exact Wa.sub [0, 1, 2, 3, 4] rfl h
set_option maxHeartbeats 4000000 in
set_option maxRecDepth 100000 in
theorem o_X13_makeCodes {Y : Gl} {e : Nat} {P : PN} {a1 : Nat} {x2 : Int} {x3 : Int} {iv av : IVt} (Ka1 : ArrK 100 a1) (h : ∀ X : Cx, CX Y X RX13 "makeCodes" cX13_makeCodes 5 none (e + 1) 0 0 →
    L_X13_makeCodes_3 Y X P a1 x2 x3 0 iv av) : OkN Y (e + 1) mX13_makeCodes [.ref (gl_b Y + 73), .ref (gl_b Y + a1), .int (i32 x2), .int (i32 x3)] RV iv av 116 P := by
  obtain ⟨ha1c, ha1l⟩ := Ka1
  refine OkW.of rfl (by show _ ≤ 5; exact Nat.le_of_ble_eq_true rfl) fun X C0 hR => ?_
  have C : CX Y X RX13 "makeCodes" cX13_makeCodes 5 none (e + 1) 0 0 := C0
  replace h := h X C
  show Wa Y X 5 (g_MQ Y X 0 (g_N RV 116 P) 0 0) 0 0 0 [(0, .ref (gl_b Y + 73)), (1, .ref (gl_b Y + a1)), (2, .int (i32 x2)), (3, .int (i32 x3))] [] RV iv av 116
  refine r_iconst (pc' := 1) C dX13_makeCodes_0 rfl ?_
  refine r_istore (pc' := 3) (ls' := [(0, .ref (gl_b Y + 73)), (1, .ref (gl_b Y + a1)), (2, .int (i32 x2)), (3, .int (i32 x3)), (4, .int (i32 0))]) C (by decide) rfl dX13_makeCodes_1 rfl ?_
  exact Wa.sub [0, 1, 2, 3, 4] rfl h
def L_X13_writeCode_6 (Y : Gl) (X : Cx) (P : PN) (a1 : Nat) (x2 : Int) (x3 : Int) (iv av : IVt) : Prop := Wa Y X 4 (g_MQ Y X 0 (g_N RV 116 P) 0 0) 0 0 6 [(0, .ref (gl_b Y + 73)), (2, .int (i32 x2)), (3, .int (i32 x3))] [] RV iv av 116
set_option maxHeartbeats 4000000 in
set_option maxRecDepth 100000 in
theorem w_X13_writeCode_6 {Y : Gl} {X : Cx} {e : Nat} {P : PN} {a1 : Nat} {x2 : Int} {x3 : Int} {iv av : IVt} (C : CX Y X RX13 "writeCode" cX13_writeCode 4 none (e + 1) 0 0) (Ka1 : ArrK 100 a1) (hx3 : InR x3) (h :
    ((x3 < 0) →
      P 0 iv av
    ) ∧
    ((¬ x3 < 0) →
      (0 ≤ x2 ∧ x2 < 339) ∧
      ((InR (av 108 x2.toNat)) →
        (0 ≤ x3 ∧ x3 ≤ 31) ∧
        OkN Y e mX13_writeBit [.ref (gl_b Y + 73), .int (i32 (((av 108 x2.toNat) / 2 ^ x3.toNat) % 2))] RV iv av 116 (fun r5 iv6 av7 =>
          L_X13_writeCode_6 Y X P a1 x2 (x3 + (-1)) iv6 av7
        )
      )
    )) : L_X13_writeCode_6 Y X P a1 x2 x3 iv av := by
  obtain ⟨ha1c, ha1l⟩ := Ka1
  unfold L_X13_writeCode_6
  refine r_iload_n (pc' := 7) C 2 rfl rfl dX13_writeCode_6 rfl ?_
  refine r_if_lt (pc' := 10) (tgt := 30) C hx3 dX13_writeCode_7 (by decide) rfl (fun c1 => ?_) (fun c1 => ?_)
  · replace h := h.1 c1
    exact r_vret C ⟨rfl, rfl, h⟩ dX13_writeCode_30
  · replace h := h.2 c1
    refine r_aload_n (pc' := 11) C 0 rfl rfl dX13_writeCode_10 rfl ?_
    refine r_aload_n (pc' := 12) C 0 rfl rfl dX13_writeCode_11 rfl ?_
    refine r_getr (pc' := 15) (k := 73) (r := 108) C fl_X13_120 (by decide) kc_73 (by decide) fr_13_48 RV_73_48 dX13_writeCode_12 rfl ?_
    refine r_iload_n (pc' := 16) C 1 rfl rfl dX13_writeCode_15 rfl ?_
    have o2 := h.1
    replace h := h.2
    refine r_iald (pc' := 17) (k := 108) C (by decide) kc_108 (by have := kl_108; omega) dX13_writeCode_16 rfl (fun f3 => ?_)
    replace h := h f3
    refine r_iload_n (pc' := 18) C 2 rfl rfl dX13_writeCode_17 rfl ?_
    have o4 := h.1
    replace h := h.2
    refine r_ishr (pc' := 19) C f3 o4 dX13_writeCode_18 rfl ?_
    refine r_iconst (pc' := 20) C dX13_writeCode_19 rfl ?_
    refine r_iandM (pc' := 21) (m := 2) C 1 (by decide) (by decide) (by decide) dX13_writeCode_20 rfl ?_
    refine c_Vv (pc' := 24) (mt := mX13_writeBit) (as := [.int (i32 (((av 108 x2.toNat) / 2 ^ x3.toNat) % 2))]) (st := []) (k := 73) C h rfl cl_X13_writeBit ml_X13_170 im_X13_writeBit sl_X13_writeBit (by omega) (Nat.le_refl _) (Nat.le_refl _) rfl (by decide) kc_73 (by decide) rfl rfl rfl (Nat.le_of_ble_eq_true rfl) dX13_writeCode_21 rfl (fun r5 iv6 av7 h => ?_)
    refine r_iinc (pc' := 27) (ls' := [(0, .ref (gl_b Y + 73)), (2, .int (i32 x2)), (3, .int (i32 (x3 + (-1))))]) C 2 rfl (by decide) rfl dX13_writeCode_24 rfl ?_
    refine r_goto (tgt := 6) C dX13_writeCode_27 (by decide) ?_
    exact Wa.sub [0, 1, 2] rfl h
set_option maxHeartbeats 4000000 in
set_option maxRecDepth 100000 in
theorem o_X13_writeCode {Y : Gl} {e : Nat} {P : PN} {a1 : Nat} {x2 : Int} {iv av : IVt} (Ka1 : ArrK 100 a1) (h : ∀ X : Cx, CX Y X RX13 "writeCode" cX13_writeCode 4 none (e + 1) 0 0 →
    (0 ≤ x2 ∧ x2 < (kl a1 : Int)) ∧
    ((InR (av a1 x2.toNat)) →
      L_X13_writeCode_6 Y X P a1 x2 ((av a1 x2.toNat) - 1) iv av
    )) : OkN Y (e + 1) mX13_writeCode [.ref (gl_b Y + 73), .ref (gl_b Y + a1), .int (i32 x2)] RV iv av 116 P := by
  obtain ⟨ha1c, ha1l⟩ := Ka1
  refine OkW.of rfl (by show _ ≤ 4; exact Nat.le_of_ble_eq_true rfl) fun X C0 hR => ?_
  have C : CX Y X RX13 "writeCode" cX13_writeCode 4 none (e + 1) 0 0 := C0
  replace h := h X C
  show Wa Y X 4 (g_MQ Y X 0 (g_N RV 116 P) 0 0) 0 0 0 [(0, .ref (gl_b Y + 73)), (1, .ref (gl_b Y + a1)), (2, .int (i32 x2))] [] RV iv av 116
  refine r_aload_n (pc' := 1) C 1 rfl rfl dX13_writeCode_0 rfl ?_
  refine r_iload_n (pc' := 2) C 2 rfl rfl dX13_writeCode_1 rfl ?_
  have o1 := h.1
  replace h := h.2
  refine r_iald (pc' := 3) (k := a1) C (by omega) ha1c o1 dX13_writeCode_2 rfl (fun f2 => ?_)
  replace h := h f2
  refine r_iconst (pc' := 4) C dX13_writeCode_3 rfl ?_
  refine r_isub (pc' := 5) C dX13_writeCode_4 rfl ?_
  refine r_istore_n (pc' := 6) (ls' := [(0, .ref (gl_b Y + 73)), (1, .ref (gl_b Y + a1)), (2, .int (i32 x2)), (3, .int (i32 ((av a1 x2.toNat) - 1)))]) C (by decide) rfl rfl dX13_writeCode_5 rfl ?_
  exact Wa.sub [0, 2, 3] rfl h
def L_X13_notePairs_3 (Y : Gl) (X : Cx) (P : PN) (a1 : Nat) (x2 : Int) (x3 : Int) (x4 : Int) (iv av : IVt) : Prop := Wa Y X 6 (g_MQ Y X 0 (g_N RV 116 P) 0 0) 0 0 3 [(0, .ref (gl_b Y + 73)), (1, .ref (gl_b Y + a1)), (2, .int (i32 x2)), (3, .int (i32 x3)), (4, .int (i32 x4))] [] RV iv av 116
def L_X13_notePairs_27 (Y : Gl) (X : Cx) (P : PN) (a1 : Nat) (x2 : Int) (x3 : Int) (x4 : Int) (iv av : IVt) : Prop := Wa Y X 6 (g_MQ Y X 0 (g_N RV 116 P) 0 0) 0 0 27 [(0, .ref (gl_b Y + 73)), (1, .ref (gl_b Y + a1)), (2, .int (i32 x2)), (3, .int (i32 x3)), (4, .int (i32 x4))] [] RV iv av 116
set_option maxHeartbeats 4000000 in
set_option maxRecDepth 100000 in
theorem w_X13_notePairs_27 {Y : Gl} {X : Cx} {e : Nat} {P : PN} {a1 : Nat} {x2 : Int} {x3 : Int} {x4 : Int} {iv av : IVt} (C : CX Y X RX13 "notePairs" cX13_notePairs 6 none e 0 0) (Ka1 : ArrK 101 a1) (hx3 : InR x3) (hx4 : InR x4) (h :
    (InR (x4 + 1)) ∧
    ((x3 ≤ (x4 + 1)) →
      P 0 iv av
    ) ∧
    ((¬ x3 ≤ (x4 + 1)) →
      (0 ≤ (x2 + x4) ∧ (x2 + x4) < (kl a1 : Int)) ∧
      ((-128 ≤ (av a1 (x2 + x4).toNat) ∧ (av a1 (x2 + x4).toNat) ≤ 127) →
        (0 ≤ ((x2 + x4) + 1) ∧ ((x2 + x4) + 1) < (kl a1 : Int)) ∧
        ((-128 ≤ (av a1 ((x2 + x4) + 1).toNat) ∧ (av a1 ((x2 + x4) + 1).toNat) ≤ 127) →
          (0 ≤ (g_or (((av a1 (x2 + x4).toNat) % 256) * 256) ((av a1 ((x2 + x4) + 1).toNat) % 256)) ∧ (g_or (((av a1 (x2 + x4).toNat) % 256) * 256) ((av a1 ((x2 + x4) + 1).toNat) % 256)) < 65536) ∧
          ((InR (av 95 (g_or (((av a1 (x2 + x4).toNat) % 256) * 256) ((av a1 ((x2 + x4) + 1).toNat) % 256)).toNat)) →
            (0 ≤ x4 ∧ x4 < 65536) ∧
            L_X13_notePairs_27 Y X P a1 x2 x3 (x4 + 1) iv (up2 (up2 av 94 x4.toNat (av 95 (g_or (((av a1 (x2 + x4).toNat) % 256) * 256) ((av a1 ((x2 + x4) + 1).toNat) % 256)).toNat)) 95 ((g_or (((av a1 (x2 + x4).toNat) % 256) * 256) ((av a1 ((x2 + x4) + 1).toNat) % 256)).toNat) x4)
          )
        )
      )
    )) : L_X13_notePairs_27 Y X P a1 x2 x3 x4 iv av := by
  obtain ⟨ha1c, ha1l⟩ := Ka1
  unfold L_X13_notePairs_27
  refine r_iload (pc' := 29) C 4 rfl dX13_notePairs_27 rfl ?_
  refine r_iconst (pc' := 30) C dX13_notePairs_29 rfl ?_
  refine r_iadd (pc' := 31) C dX13_notePairs_30 rfl ?_
  refine r_iload_n (pc' := 32) C 3 rfl rfl dX13_notePairs_31 rfl ?_
  have o1 := h.1
  replace h := h.2
  refine r_icmp_ge (pc' := 35) (tgt := 92) C o1 hx3 dX13_notePairs_32 (by decide) rfl (fun c2 => ?_) (fun c2 => ?_)
  · replace h := h.1 c2
    exact r_vret C ⟨rfl, rfl, h⟩ dX13_notePairs_92
  · replace h := h.2 c2
    refine r_aload_n (pc' := 36) C 1 rfl rfl dX13_notePairs_35 rfl ?_
    refine r_iload_n (pc' := 37) C 2 rfl rfl dX13_notePairs_36 rfl ?_
    refine r_iload (pc' := 39) C 4 rfl dX13_notePairs_37 rfl ?_
    refine r_iadd (pc' := 40) C dX13_notePairs_39 rfl ?_
    have o3 := h.1
    replace h := h.2
    refine r_bald (pc' := 41) (k := a1) C (by omega) ha1c o3 dX13_notePairs_40 rfl (fun f4 => ?_)
    replace h := h f4
    refine r_sipush (pc' := 44) C dX13_notePairs_41 (by decide) rfl ?_
    refine r_iandM (pc' := 45) (m := 256) C 8 (by decide) (by decide) (by decide) dX13_notePairs_44 rfl ?_
    refine r_bipush (pc' := 47) C dX13_notePairs_45 (by decide) rfl ?_
    refine r_ishlC (pc' := 48) (m := 256) C (by decide) (by decide) dX13_notePairs_47 rfl ?_
    refine r_aload_n (pc' := 49) C 1 rfl rfl dX13_notePairs_48 rfl ?_
    refine r_iload_n (pc' := 50) C 2 rfl rfl dX13_notePairs_49 rfl ?_
    refine r_iload (pc' := 52) C 4 rfl dX13_notePairs_50 rfl ?_
    refine r_iadd (pc' := 53) C dX13_notePairs_52 rfl ?_
    refine r_iconst (pc' := 54) C dX13_notePairs_53 rfl ?_
    refine r_iadd (pc' := 55) C dX13_notePairs_54 rfl ?_
    have o5 := h.1
    replace h := h.2
    refine r_bald (pc' := 56) (k := a1) C (by omega) ha1c o5 dX13_notePairs_55 rfl (fun f6 => ?_)
    replace h := h f6
    refine r_sipush (pc' := 59) C dX13_notePairs_56 (by decide) rfl ?_
    refine r_iandM (pc' := 60) (m := 256) C 8 (by decide) (by decide) (by decide) dX13_notePairs_59 rfl ?_
    refine r_ior (pc' := 61) C dX13_notePairs_60 rfl ?_
    refine r_istore (pc' := 63) (ls' := [(0, .ref (gl_b Y + 73)), (1, .ref (gl_b Y + a1)), (2, .int (i32 x2)), (3, .int (i32 x3)), (4, .int (i32 x4)), (5, .int (i32 (g_or (((av a1 (x2 + x4).toNat) % 256) * 256) ((av a1 ((x2 + x4) + 1).toNat) % 256))))]) C (by decide) rfl dX13_notePairs_61 rfl ?_
    refine r_aload_n (pc' := 64) C 0 rfl rfl dX13_notePairs_63 rfl ?_
    refine r_getr (pc' := 67) (k := 73) (r := 94) C fl_X13_78 (by decide) kc_73 (by decide) fr_13_32 RV_73_32 dX13_notePairs_64 rfl ?_
    refine r_iload (pc' := 69) C 4 rfl dX13_notePairs_67 rfl ?_
    refine r_aload_n (pc' := 70) C 0 rfl rfl dX13_notePairs_69 rfl ?_
    refine r_getr (pc' := 73) (k := 73) (r := 95) C fl_X13_81 (by decide) kc_73 (by decide) fr_13_33 RV_73_33 dX13_notePairs_70 rfl ?_
    refine r_iload (pc' := 75) C 5 rfl dX13_notePairs_73 rfl ?_
    have o7 := h.1
    replace h := h.2
    refine r_iald (pc' := 76) (k := 95) C (by decide) kc_95 (by have := kl_95; omega) dX13_notePairs_75 rfl (fun f8 => ?_)
    replace h := h f8
    have o9 := h.1
    replace h := h.2
    refine r_iast (pc' := 77) (k := 94) C (by decide) kc_94 (by have := kl_94; omega) f8 dX13_notePairs_76 rfl ?_
    refine r_aload_n (pc' := 78) C 0 rfl rfl dX13_notePairs_77 rfl ?_
    refine r_getr (pc' := 81) (k := 73) (r := 95) C fl_X13_81 (by decide) kc_73 (by decide) fr_13_33 RV_73_33 dX13_notePairs_78 rfl ?_
    refine r_iload (pc' := 83) C 5 rfl dX13_notePairs_81 rfl ?_
    refine r_iload (pc' := 85) C 4 rfl dX13_notePairs_83 rfl ?_
    refine r_iast (pc' := 86) (k := 95) C (by decide) kc_95 (by have := kl_95; omega) hx4 dX13_notePairs_85 rfl ?_
    refine r_iinc (pc' := 89) (ls' := [(0, .ref (gl_b Y + 73)), (1, .ref (gl_b Y + a1)), (2, .int (i32 x2)), (3, .int (i32 x3)), (4, .int (i32 (x4 + 1))), (5, .int (i32 (g_or (((av a1 (x2 + x4).toNat) % 256) * 256) ((av a1 ((x2 + x4) + 1).toNat) % 256))))]) C 4 rfl (by decide) rfl dX13_notePairs_86 rfl ?_
    refine r_goto (tgt := 27) C dX13_notePairs_89 (by decide) ?_
    exact Wa.sub [0, 1, 2, 3, 4] rfl h
set_option maxHeartbeats 4000000 in
set_option maxRecDepth 100000 in
theorem w_X13_notePairs_3 {Y : Gl} {X : Cx} {e : Nat} {P : PN} {a1 : Nat} {x2 : Int} {x3 : Int} {x4 : Int} {iv av : IVt} (C : CX Y X RX13 "notePairs" cX13_notePairs 6 none e 0 0) (Ka1 : ArrK 101 a1) (hx4 : InR x4) (h :
    ((65536 ≤ x4) →
      L_X13_notePairs_27 Y X P a1 x2 x3 0 iv av
    ) ∧
    ((¬ 65536 ≤ x4) →
      (0 ≤ x4 ∧ x4 < 65536) ∧
      L_X13_notePairs_3 Y X P a1 x2 x3 (x4 + 1) iv (up2 av 95 x4.toNat (-1))
    )) : L_X13_notePairs_3 Y X P a1 x2 x3 x4 iv av := by
  obtain ⟨ha1c, ha1l⟩ := Ka1
  unfold L_X13_notePairs_3
  refine r_iload (pc' := 5) C 4 rfl dX13_notePairs_3 rfl ?_
  refine r_ldc (pc' := 7) (x := 65536) C ct_X13_20 (by decide) dX13_notePairs_5 rfl ?_
  refine r_icmp_ge (pc' := 10) (tgt := 24) C hx4 (by decide) dX13_notePairs_7 (by decide) rfl (fun c1 => ?_) (fun c1 => ?_)
  · replace h := h.1 c1
    refine r_iconst (pc' := 25) C dX13_notePairs_24 rfl ?_
    refine r_istore (pc' := 27) (ls' := [(0, .ref (gl_b Y + 73)), (1, .ref (gl_b Y + a1)), (2, .int (i32 x2)), (3, .int (i32 x3)), (4, .int (i32 0))]) C (by decide) rfl dX13_notePairs_25 rfl ?_
    exact Wa.sub [0, 1, 2, 3, 4] rfl h
  · replace h := h.2 c1
    refine r_aload_n (pc' := 11) C 0 rfl rfl dX13_notePairs_10 rfl ?_
    refine r_getr (pc' := 14) (k := 73) (r := 95) C fl_X13_81 (by decide) kc_73 (by decide) fr_13_33 RV_73_33 dX13_notePairs_11 rfl ?_
    refine r_iload (pc' := 16) C 4 rfl dX13_notePairs_14 rfl ?_
    refine r_iconst (pc' := 17) C dX13_notePairs_16 rfl ?_
    have o2 := h.1
    replace h := h.2
    refine r_iast (pc' := 18) (k := 95) C (by decide) kc_95 (by have := kl_95; omega) (by decide) dX13_notePairs_17 rfl ?_
    refine r_iinc (pc' := 21) (ls' := [(0, .ref (gl_b Y + 73)), (1, .ref (gl_b Y + a1)), (2, .int (i32 x2)), (3, .int (i32 x3)), (4, .int (i32 (x4 + 1)))]) C 4 rfl (by decide) rfl dX13_notePairs_18 rfl ?_
    refine r_goto (tgt := 3) C dX13_notePairs_21 (by decide) ?_
    exact Wa.sub [0, 1, 2, 3, 4] rfl h
set_option maxHeartbeats 4000000 in
set_option maxRecDepth 100000 in
theorem o_X13_notePairs {Y : Gl} {e : Nat} {P : PN} {a1 : Nat} {x2 : Int} {x3 : Int} {iv av : IVt} (Ka1 : ArrK 101 a1) (h : ∀ X : Cx, CX Y X RX13 "notePairs" cX13_notePairs 6 none e 0 0 →
    L_X13_notePairs_3 Y X P a1 x2 x3 0 iv av) : OkN Y e mX13_notePairs [.ref (gl_b Y + 73), .ref (gl_b Y + a1), .int (i32 x2), .int (i32 x3)] RV iv av 116 P := by
  obtain ⟨ha1c, ha1l⟩ := Ka1
  refine OkW.of rfl (by show _ ≤ 6; exact Nat.le_of_ble_eq_true rfl) fun X C0 hR => ?_
  have C : CX Y X RX13 "notePairs" cX13_notePairs 6 none e 0 0 := C0
  replace h := h X C
  show Wa Y X 6 (g_MQ Y X 0 (g_N RV 116 P) 0 0) 0 0 0 [(0, .ref (gl_b Y + 73)), (1, .ref (gl_b Y + a1)), (2, .int (i32 x2)), (3, .int (i32 x3))] [] RV iv av 116
  refine r_iconst (pc' := 1) C dX13_notePairs_0 rfl ?_
  refine r_istore (pc' := 3) (ls' := [(0, .ref (gl_b Y + 73)), (1, .ref (gl_b Y + a1)), (2, .int (i32 x2)), (3, .int (i32 x3)), (4, .int (i32 0))]) C (by decide) rfl dX13_notePairs_1 rfl ?_
  exact Wa.sub [0, 1, 2, 3, 4] rfl h
def L_X13_cutPart_8 (Y : Gl) (X : Cx) (P : PN) (a1 : Nat) (x2 : Int) (x4 : Int) (x5 : Int) (iv av : IVt) : Prop := Wa Y X 11 (g_MQ Y X 0 (g_N RV 116 P) 0 0) 0 0 8 [(0, .ref (gl_b Y + 73)), (1, .ref (gl_b Y + a1)), (2, .int (i32 x2)), (4, .int (i32 x4)), (5, .int (i32 x5))] [] RV iv av 116
def L_X13_cutPart_46 (Y : Gl) (X : Cx) (P : PN) (a1 : Nat) (x2 : Int) (x4 : Int) (x5 : Int) (x6 : Int) (x7 : Int) (x8 : Int) (x9 : Int) (iv av : IVt) : Prop := Wa Y X 11 (g_MQ Y X 0 (g_N RV 116 P) 0 0) 0 0 46 [(0, .ref (gl_b Y + 73)), (1, .ref (gl_b Y + a1)), (2, .int (i32 x2)), (4, .int (i32 x4)), (5, .int (i32 x5)), (6, .int (i32 x6)), (7, .int (i32 x7)), (8, .int (i32 x8)), (9, .int (i32 x9))] [] RV iv av 116
def L_X13_cutPart_71 (Y : Gl) (X : Cx) (P : PN) (a1 : Nat) (x2 : Int) (x4 : Int) (x5 : Int) (x6 : Int) (x7 : Int) (x8 : Int) (x9 : Int) (x10 : Int) (iv av : IVt) : Prop := Wa Y X 11 (g_MQ Y X 0 (g_N RV 116 P) 0 0) 0 0 71 [(0, .ref (gl_b Y + 73)), (1, .ref (gl_b Y + a1)), (2, .int (i32 x2)), (4, .int (i32 x4)), (5, .int (i32 x5)), (6, .int (i32 x6)), (7, .int (i32 x7)), (8, .int (i32 x8)), (9, .int (i32 x9)), (10, .int (i32 x10))] [] RV iv av 116
def L_X13_cutPart_133 (Y : Gl) (X : Cx) (P : PN) (a1 : Nat) (x2 : Int) (x4 : Int) (x5 : Int) (x6 : Int) (x7 : Int) (x8 : Int) (x9 : Int) (x10 : Int) (iv av : IVt) : Prop := Wa Y X 11 (g_MQ Y X 0 (g_N RV 116 P) 0 0) 0 0 133 [(0, .ref (gl_b Y + 73)), (1, .ref (gl_b Y + a1)), (2, .int (i32 x2)), (4, .int (i32 x4)), (5, .int (i32 x5)), (6, .int (i32 x6)), (7, .int (i32 x7)), (8, .int (i32 x8)), (9, .int (i32 x9)), (10, .int (i32 x10))] [] RV iv av 116
def L_X13_cutPart_154 (Y : Gl) (X : Cx) (P : PN) (a1 : Nat) (x2 : Int) (x4 : Int) (x5 : Int) (x6 : Int) (x7 : Int) (x8 : Int) (x9 : Int) (x10 : Int) (iv av : IVt) : Prop := Wa Y X 11 (g_MQ Y X 0 (g_N RV 116 P) 0 0) 0 0 154 [(0, .ref (gl_b Y + 73)), (1, .ref (gl_b Y + a1)), (2, .int (i32 x2)), (4, .int (i32 x4)), (5, .int (i32 x5)), (6, .int (i32 x6)), (7, .int (i32 x7)), (8, .int (i32 x8)), (9, .int (i32 x9)), (10, .int (i32 x10))] [] RV iv av 116
def L_X13_cutPart_158 (Y : Gl) (X : Cx) (P : PN) (a1 : Nat) (x2 : Int) (x4 : Int) (x5 : Int) (x6 : Int) (x7 : Int) (x8 : Int) (x9 : Int) (x10 : Int) (iv av : IVt) : Prop := Wa Y X 11 (g_MQ Y X 0 (g_N RV 116 P) 0 0) 0 0 158 [(0, .ref (gl_b Y + 73)), (1, .ref (gl_b Y + a1)), (2, .int (i32 x2)), (4, .int (i32 x4)), (5, .int (i32 x5)), (6, .int (i32 x6)), (7, .int (i32 x7)), (8, .int (i32 x8)), (9, .int (i32 x9)), (10, .int (i32 x10))] [] RV iv av 116
def L_X13_cutPart_176 (Y : Gl) (X : Cx) (P : PN) (a1 : Nat) (x2 : Int) (x4 : Int) (x5 : Int) (x6 : Int) (x7 : Int) (x8 : Int) (x9 : Int) (iv av : IVt) : Prop := Wa Y X 11 (g_MQ Y X 0 (g_N RV 116 P) 0 0) 0 0 176 [(0, .ref (gl_b Y + 73)), (1, .ref (gl_b Y + a1)), (2, .int (i32 x2)), (4, .int (i32 x4)), (5, .int (i32 x5)), (6, .int (i32 x6)), (7, .int (i32 x7)), (8, .int (i32 x8)), (9, .int (i32 x9))] [] RV iv av 116
def L_X13_cutPart_180 (Y : Gl) (X : Cx) (P : PN) (a1 : Nat) (x2 : Int) (x4 : Int) (x5 : Int) (x6 : Int) (x7 : Int) (x8 : Int) (x9 : Int) (iv av : IVt) : Prop := Wa Y X 11 (g_MQ Y X 0 (g_N RV 116 P) 0 0) 0 0 180 [(0, .ref (gl_b Y + 73)), (1, .ref (gl_b Y + a1)), (2, .int (i32 x2)), (4, .int (i32 x4)), (5, .int (i32 x5)), (6, .int (i32 x6)), (7, .int (i32 x7)), (8, .int (i32 x8)), (9, .int (i32 x9))] [] RV iv av 116
def L_X13_cutPart_232 (Y : Gl) (X : Cx) (P : PN) (a1 : Nat) (x2 : Int) (x4 : Int) (x5 : Int) (x6 : Int) (iv av : IVt) : Prop := Wa Y X 11 (g_MQ Y X 0 (g_N RV 116 P) 0 0) 0 0 232 [(0, .ref (gl_b Y + 73)), (1, .ref (gl_b Y + a1)), (2, .int (i32 x2)), (4, .int (i32 x4)), (5, .int (i32 x5)), (6, .int (i32 x6))] [] RV iv av 116
def L_X13_cutPart_261 (Y : Gl) (X : Cx) (P : PN) (a1 : Nat) (x2 : Int) (x4 : Int) (x5 : Int) (iv av : IVt) : Prop := Wa Y X 11 (g_MQ Y X 0 (g_N RV 116 P) 0 0) 0 0 261 [(0, .ref (gl_b Y + 73)), (1, .ref (gl_b Y + a1)), (2, .int (i32 x2)), (4, .int (i32 x4)), (5, .int (i32 x5))] [] RV iv av 116
set_option maxHeartbeats 4000000 in
set_option maxRecDepth 100000 in
theorem w_X13_cutPart_261 {Y : Gl} {X : Cx} {e : Nat} {P : PN} {a1 : Nat} {x2 : Int} {x4 : Int} {x5 : Int} {iv av : IVt} (C : CX Y X RX13 "cutPart" cX13_cutPart 11 none e 0 0) (Ka1 : ArrK 101 a1) (h :
    L_X13_cutPart_8 Y X P a1 x2 x4 x5 iv av) : L_X13_cutPart_261 Y X P a1 x2 x4 x5 iv av := by
  obtain ⟨ha1c, ha1l⟩ := Ka1
  unfold L_X13_cutPart_261
  refine r_goto (tgt := 8) C dX13_cutPart_261 (by decide) ?_
  exact Wa.sub [0, 1, 2, 3, 4] rfl h
set_option maxHeartbeats 4000000 in
set_option maxRecDepth 100000 in
theorem w_X13_cutPart_232 {Y : Gl} {X : Cx} {e : Nat} {P : PN} {a1 : Nat} {x2 : Int} {x4 : Int} {x5 : Int} {x6 : Int} {iv av : IVt} (C : CX Y X RX13 "cutPart" cX13_cutPart 11 none e 0 0) (Ka1 : ArrK 101 a1) (hx6 : InR x6) (h :
    ((InR (iv 73 34)) →
      (InR ((iv 73 34) + 1)) ∧
      ((x6 ≤ 0) →
        L_X13_cutPart_261 Y X P a1 x2 x4 (x5 + 1) (up2 iv 73 34 ((iv 73 34) + 1)) av
      ) ∧
      ((¬ x6 ≤ 0) →
        L_X13_cutPart_261 Y X P a1 x2 x4 (x5 + x6) (up2 iv 73 34 ((iv 73 34) + 1)) av
      )
    )) : L_X13_cutPart_232 Y X P a1 x2 x4 x5 x6 iv av := by
  obtain ⟨ha1c, ha1l⟩ := Ka1
  unfold L_X13_cutPart_232
  refine r_aload_n (pc' := 233) C 0 rfl rfl dX13_cutPart_232 rfl ?_
  refine r_dup (pc' := 234) C rfl dX13_cutPart_233 rfl ?_
  refine r_geti (pc' := 237) (k := 73) C fl_X13_178 (by decide) kc_73 (by decide) fr_13_34 dX13_cutPart_234 rfl (fun f1 => ?_)
  replace h := h f1
  refine r_iconst (pc' := 238) C dX13_cutPart_237 rfl ?_
  refine r_iadd (pc' := 239) C dX13_cutPart_238 rfl ?_
  have o2 := h.1
  replace h := h.2
  refine r_puti (pc' := 242) (k := 73) C fl_X13_178 (by decide) kc_73 (by decide) fr_13_34 o2 dX13_cutPart_239 rfl ?_
  refine r_iload (pc' := 244) C 5 rfl dX13_cutPart_242 rfl ?_
  refine r_if_le (pc' := 247) (tgt := 255) C hx6 dX13_cutPart_244 (by decide) rfl (fun c3 => ?_) (fun c3 => ?_)
  · replace h := h.1 c3
    refine r_iload (pc' := 257) C 4 rfl dX13_cutPart_255 rfl ?_
    refine r_iconst (pc' := 258) C dX13_cutPart_257 rfl ?_
    refine r_iadd (pc' := 259) C dX13_cutPart_258 rfl ?_
    refine r_istore (pc' := 261) (ls' := [(0, .ref (gl_b Y + 73)), (1, .ref (gl_b Y + a1)), (2, .int (i32 x2)), (4, .int (i32 x4)), (5, .int (i32 (x5 + 1))), (6, .int (i32 x6))]) C (by decide) rfl dX13_cutPart_259 rfl ?_
    exact Wa.sub [0, 1, 2, 3, 4] rfl h
  · replace h := h.2 c3
    refine r_iload (pc' := 249) C 4 rfl dX13_cutPart_247 rfl ?_
    refine r_iload (pc' := 251) C 5 rfl dX13_cutPart_249 rfl ?_
    refine r_iadd (pc' := 252) C dX13_cutPart_251 rfl ?_
    refine r_goto (tgt := 259) C dX13_cutPart_252 (by decide) ?_
    refine r_istore (pc' := 261) (ls' := [(0, .ref (gl_b Y + 73)), (1, .ref (gl_b Y + a1)), (2, .int (i32 x2)), (4, .int (i32 x4)), (5, .int (i32 (x5 + x6))), (6, .int (i32 x6))]) C (by decide) rfl dX13_cutPart_259 rfl ?_
    exact Wa.sub [0, 1, 2, 3, 4] rfl h
set_option maxHeartbeats 4000000 in
set_option maxRecDepth 100000 in
theorem w_X13_cutPart_180 {Y : Gl} {X : Cx} {e : Nat} {P : PN} {a1 : Nat} {x2 : Int} {x4 : Int} {x5 : Int} {x6 : Int} {x7 : Int} {x8 : Int} {x9 : Int} {iv av : IVt} (C : CX Y X RX13 "cutPart" cX13_cutPart 11 none e 0 0) (Ka1 : ArrK 101 a1) (h :
    (0 ≤ x9 ∧ x9 < 65536) ∧
    ((InR (av 94 x9.toNat)) →
      L_X13_cutPart_46 Y X P a1 x2 x4 x5 x6 x7 x8 (av 94 x9.toNat) iv av
    )) : L_X13_cutPart_180 Y X P a1 x2 x4 x5 x6 x7 x8 x9 iv av := by
  obtain ⟨ha1c, ha1l⟩ := Ka1
  unfold L_X13_cutPart_180
  refine r_aload_n (pc' := 181) C 0 rfl rfl dX13_cutPart_180 rfl ?_
  refine r_getr (pc' := 184) (k := 73) (r := 94) C fl_X13_78 (by decide) kc_73 (by decide) fr_13_32 RV_73_32 dX13_cutPart_181 rfl ?_
  refine r_iload (pc' := 186) C 8 rfl dX13_cutPart_184 rfl ?_
  have o1 := h.1
  replace h := h.2
  refine r_iald (pc' := 187) (k := 94) C (by decide) kc_94 (by have := kl_94; omega) dX13_cutPart_186 rfl (fun f2 => ?_)
  replace h := h f2
  refine r_istore (pc' := 189) (ls' := [(0, .ref (gl_b Y + 73)), (1, .ref (gl_b Y + a1)), (2, .int (i32 x2)), (4, .int (i32 x4)), (5, .int (i32 x5)), (6, .int (i32 x6)), (7, .int (i32 x7)), (8, .int (i32 x8)), (9, .int (i32 (av 94 x9.toNat)))]) C (by decide) rfl dX13_cutPart_187 rfl ?_
  refine r_goto (tgt := 46) C dX13_cutPart_189 (by decide) ?_
  exact Wa.sub [0, 1, 2, 3, 4, 5, 6, 7, 8] rfl h
set_option maxHeartbeats 4000000 in
set_option maxRecDepth 100000 in
theorem w_X13_cutPart_176 {Y : Gl} {X : Cx} {e : Nat} {P : PN} {a1 : Nat} {x2 : Int} {x4 : Int} {x5 : Int} {x6 : Int} {x7 : Int} {x8 : Int} {x9 : Int} {iv av : IVt} (C : CX Y X RX13 "cutPart" cX13_cutPart 11 none e 0 0) (Ka1 : ArrK 101 a1) (h :
    L_X13_cutPart_180 Y X P a1 x2 x4 x5 x6 x7 x8 x9 iv av) : L_X13_cutPart_176 Y X P a1 x2 x4 x5 x6 x7 x8 x9 iv av := by
  obtain ⟨ha1c, ha1l⟩ := Ka1
  unfold L_X13_cutPart_176
  refine r_iload (pc' := 178) C 5 rfl dX13_cutPart_176 rfl ?_
  refine r_istore (pc' := 180) (ls' := [(0, .ref (gl_b Y + 73)), (1, .ref (gl_b Y + a1)), (2, .int (i32 x2)), (4, .int (i32 x4)), (5, .int (i32 x5)), (6, .int (i32 x6)), (7, .int (i32 x7)), (8, .int (i32 x8)), (9, .int (i32 x9))]) C (by decide) rfl dX13_cutPart_178 rfl ?_
  exact Wa.sub [0, 1, 2, 3, 4, 5, 6, 7, 8] rfl h
set_option maxHeartbeats 4000000 in
set_option maxRecDepth 100000 in
theorem w_X13_cutPart_158 {Y : Gl} {X : Cx} {e : Nat} {P : PN} {a1 : Nat} {x2 : Int} {x4 : Int} {x5 : Int} {x6 : Int} {x7 : Int} {x8 : Int} {x9 : Int} {x10 : Int} {iv av : IVt} (C : CX Y X RX13 "cutPart" cX13_cutPart 11 none e 0 0) (Ka1 : ArrK 101 a1) (hx6 : InR x6) (hx10 : InR x10) (h :
    ((x10 ≤ 2) →
      L_X13_cutPart_176 Y X P a1 x2 x4 x5 x6 x7 x8 x9 iv av
    ) ∧
    ((¬ x10 ≤ 2) →
      ((x10 ≤ x6) →
        L_X13_cutPart_176 Y X P a1 x2 x4 x5 x6 x7 x8 x9 iv av
      ) ∧
      ((¬ x10 ≤ x6) →
        L_X13_cutPart_180 Y X P a1 x2 x4 x5 x10 x7 x8 x9 iv av
      )
    )) : L_X13_cutPart_158 Y X P a1 x2 x4 x5 x6 x7 x8 x9 x10 iv av := by
  obtain ⟨ha1c, ha1l⟩ := Ka1
  unfold L_X13_cutPart_158
  refine r_iload (pc' := 160) C 9 rfl dX13_cutPart_158 rfl ?_
  refine r_iconst (pc' := 161) C dX13_cutPart_160 rfl ?_
  refine r_icmp_le (pc' := 164) (tgt := 176) C hx10 (by decide) dX13_cutPart_161 (by decide) rfl (fun c1 => ?_) (fun c1 => ?_)
  · replace h := h.1 c1
    exact Wa.sub [0, 1, 2, 3, 4, 5, 6, 7, 8] rfl h
  · replace h := h.2 c1
    refine r_iload (pc' := 166) C 9 rfl dX13_cutPart_164 rfl ?_
    refine r_iload (pc' := 168) C 5 rfl dX13_cutPart_166 rfl ?_
    refine r_icmp_le (pc' := 171) (tgt := 176) C hx10 hx6 dX13_cutPart_168 (by decide) rfl (fun c2 => ?_) (fun c2 => ?_)
    · replace h := h.1 c2
      exact Wa.sub [0, 1, 2, 3, 4, 5, 6, 7, 8] rfl h
    · replace h := h.2 c2
      refine r_iload (pc' := 173) C 9 rfl dX13_cutPart_171 rfl ?_
      refine r_goto (tgt := 178) C dX13_cutPart_173 (by decide) ?_
      refine r_istore (pc' := 180) (ls' := [(0, .ref (gl_b Y + 73)), (1, .ref (gl_b Y + a1)), (2, .int (i32 x2)), (4, .int (i32 x4)), (5, .int (i32 x5)), (6, .int (i32 x10)), (7, .int (i32 x7)), (8, .int (i32 x8)), (9, .int (i32 x9)), (10, .int (i32 x10))]) C (by decide) rfl dX13_cutPart_178 rfl ?_
      exact Wa.sub [0, 1, 2, 3, 4, 5, 6, 7, 8] rfl h
set_option maxHeartbeats 4000000 in
set_option maxRecDepth 100000 in
theorem w_X13_cutPart_154 {Y : Gl} {X : Cx} {e : Nat} {P : PN} {a1 : Nat} {x2 : Int} {x4 : Int} {x5 : Int} {x6 : Int} {x7 : Int} {x8 : Int} {x9 : Int} {x10 : Int} {iv av : IVt} (C : CX Y X RX13 "cutPart" cX13_cutPart 11 none e 0 0) (Ka1 : ArrK 101 a1) (h :
    L_X13_cutPart_158 Y X P a1 x2 x4 x5 x6 x7 x8 x9 x10 iv av) : L_X13_cutPart_154 Y X P a1 x2 x4 x5 x6 x7 x8 x9 x10 iv av := by
  obtain ⟨ha1c, ha1l⟩ := Ka1
  unfold L_X13_cutPart_154
  refine r_iload (pc' := 156) C 6 rfl dX13_cutPart_154 rfl ?_
  refine r_istore (pc' := 158) (ls' := [(0, .ref (gl_b Y + 73)), (1, .ref (gl_b Y + a1)), (2, .int (i32 x2)), (4, .int (i32 x4)), (5, .int (i32 x5)), (6, .int (i32 x6)), (7, .int (i32 x7)), (8, .int (i32 x8)), (9, .int (i32 x9)), (10, .int (i32 x10))]) C (by decide) rfl dX13_cutPart_156 rfl ?_
  exact Wa.sub [0, 1, 2, 3, 4, 5, 6, 7, 8, 9] rfl h
set_option maxHeartbeats 4000000 in
set_option maxRecDepth 100000 in
theorem w_X13_cutPart_133 {Y : Gl} {X : Cx} {e : Nat} {P : PN} {a1 : Nat} {x2 : Int} {x4 : Int} {x5 : Int} {x6 : Int} {x7 : Int} {x8 : Int} {x9 : Int} {x10 : Int} {iv av : IVt} (C : CX Y X RX13 "cutPart" cX13_cutPart 11 none e 0 0) (Ka1 : ArrK 101 a1) (hx6 : InR x6) (hx10 : InR x10) (h :
    ((x10 ≤ 2) →
      L_X13_cutPart_154 Y X P a1 x2 x4 x5 x6 x7 x8 x9 x10 iv av
    ) ∧
    ((¬ x10 ≤ 2) →
      ((x10 ≤ x6) →
        L_X13_cutPart_154 Y X P a1 x2 x4 x5 x6 x7 x8 x9 x10 iv av
      ) ∧
      ((¬ x10 ≤ x6) →
        L_X13_cutPart_158 Y X P a1 x2 x4 x5 x6 (x5 - x9) x8 x9 x10 iv av
      )
    )) : L_X13_cutPart_133 Y X P a1 x2 x4 x5 x6 x7 x8 x9 x10 iv av := by
  obtain ⟨ha1c, ha1l⟩ := Ka1
  unfold L_X13_cutPart_133
  refine r_iload (pc' := 135) C 9 rfl dX13_cutPart_133 rfl ?_
  refine r_iconst (pc' := 136) C dX13_cutPart_135 rfl ?_
  refine r_icmp_le (pc' := 139) (tgt := 154) C hx10 (by decide) dX13_cutPart_136 (by decide) rfl (fun c1 => ?_) (fun c1 => ?_)
  · replace h := h.1 c1
    exact Wa.sub [0, 1, 2, 3, 4, 5, 6, 7, 8, 9] rfl h
  · replace h := h.2 c1
    refine r_iload (pc' := 141) C 9 rfl dX13_cutPart_139 rfl ?_
    refine r_iload (pc' := 143) C 5 rfl dX13_cutPart_141 rfl ?_
    refine r_icmp_le (pc' := 146) (tgt := 154) C hx10 hx6 dX13_cutPart_143 (by decide) rfl (fun c2 => ?_) (fun c2 => ?_)
    · replace h := h.1 c2
      exact Wa.sub [0, 1, 2, 3, 4, 5, 6, 7, 8, 9] rfl h
    · replace h := h.2 c2
      refine r_iload (pc' := 148) C 4 rfl dX13_cutPart_146 rfl ?_
      refine r_iload (pc' := 150) C 8 rfl dX13_cutPart_148 rfl ?_
      refine r_isub (pc' := 151) C dX13_cutPart_150 rfl ?_
      refine r_goto (tgt := 156) C dX13_cutPart_151 (by decide) ?_
      refine r_istore (pc' := 158) (ls' := [(0, .ref (gl_b Y + 73)), (1, .ref (gl_b Y + a1)), (2, .int (i32 x2)), (4, .int (i32 x4)), (5, .int (i32 x5)), (6, .int (i32 x6)), (7, .int (i32 (x5 - x9))), (8, .int (i32 x8)), (9, .int (i32 x9)), (10, .int (i32 x10))]) C (by decide) rfl dX13_cutPart_156 rfl ?_
      exact Wa.sub [0, 1, 2, 3, 4, 5, 6, 7, 8, 9] rfl h
set_option maxHeartbeats 4000000 in
set_option maxRecDepth 100000 in
theorem w_X13_cutPart_71 {Y : Gl} {X : Cx} {e : Nat} {P : PN} {a1 : Nat} {x2 : Int} {x4 : Int} {x5 : Int} {x6 : Int} {x7 : Int} {x8 : Int} {x9 : Int} {x10 : Int} {iv av : IVt} (C : CX Y X RX13 "cutPart" cX13_cutPart 11 none e 0 0) (Ka1 : ArrK 101 a1) (hx4 : InR x4) (hx10 : InR x10) (h :
    (InR (x5 + x10)) ∧
    ((x4 ≤ (x5 + x10)) →
      ((x10 ≤ 2) →
        L_X13_cutPart_133 Y X P a1 x2 x4 x5 x6 x7 x8 x9 x10 iv av
      ) ∧
      ((¬ x10 ≤ 2) →
        L_X13_cutPart_133 Y X P a1 x2 x4 x5 x6 x7 (x8 + 1) x9 x10 iv av
      )
    ) ∧
    ((¬ x4 ≤ (x5 + x10)) →
      ((258 ≤ x10) →
        ((x10 ≤ 2) →
          L_X13_cutPart_133 Y X P a1 x2 x4 x5 x6 x7 x8 x9 x10 iv av
        ) ∧
        ((¬ x10 ≤ 2) →
          L_X13_cutPart_133 Y X P a1 x2 x4 x5 x6 x7 (x8 + 1) x9 x10 iv av
        )
      ) ∧
      ((¬ 258 ≤ x10) →
        (0 ≤ ((x2 + x9) + x10) ∧ ((x2 + x9) + x10) < (kl a1 : Int)) ∧
        ((-128 ≤ (av a1 ((x2 + x9) + x10).toNat) ∧ (av a1 ((x2 + x9) + x10).toNat) ≤ 127) →
          (0 ≤ ((x2 + x5) + x10) ∧ ((x2 + x5) + x10) < (kl a1 : Int)) ∧
          ((-128 ≤ (av a1 ((x2 + x5) + x10).toNat) ∧ (av a1 ((x2 + x5) + x10).toNat) ≤ 127) →
            ((¬ (av a1 ((x2 + x9) + x10).toNat) = (av a1 ((x2 + x5) + x10).toNat)) →
              ((x10 ≤ 2) →
                L_X13_cutPart_133 Y X P a1 x2 x4 x5 x6 x7 x8 x9 x10 iv av
              ) ∧
              ((¬ x10 ≤ 2) →
                L_X13_cutPart_133 Y X P a1 x2 x4 x5 x6 x7 (x8 + 1) x9 x10 iv av
              )
            ) ∧
            (((av a1 ((x2 + x9) + x10).toNat) = (av a1 ((x2 + x5) + x10).toNat)) →
              L_X13_cutPart_71 Y X P a1 x2 x4 x5 x6 x7 x8 x9 (x10 + 1) iv av
            )
          )
        )
      )
    )) : L_X13_cutPart_71 Y X P a1 x2 x4 x5 x6 x7 x8 x9 x10 iv av := by
  obtain ⟨ha1c, ha1l⟩ := Ka1
  unfold L_X13_cutPart_71
  refine r_iload (pc' := 73) C 4 rfl dX13_cutPart_71 rfl ?_
  refine r_iload (pc' := 75) C 9 rfl dX13_cutPart_73 rfl ?_
  refine r_iadd (pc' := 76) C dX13_cutPart_75 rfl ?_
  refine r_iload (pc' := 78) C 3 rfl dX13_cutPart_76 rfl ?_
  have o1 := h.1
  replace h := h.2
  refine r_icmp_ge (pc' := 81) (tgt := 116) C o1 hx4 dX13_cutPart_78 (by decide) rfl (fun c2 => ?_) (fun c2 => ?_)
  · replace h := h.1 c2
    refine r_iload (pc' := 118) C 9 rfl dX13_cutPart_116 rfl ?_
    refine r_iconst (pc' := 119) C dX13_cutPart_118 rfl ?_
    refine r_icmp_le (pc' := 122) (tgt := 129) C hx10 (by decide) dX13_cutPart_119 (by decide) rfl (fun c3 => ?_) (fun c3 => ?_)
    · replace h := h.1 c3
      refine r_iload (pc' := 131) C 7 rfl dX13_cutPart_129 rfl ?_
      refine r_istore (pc' := 133) (ls' := [(0, .ref (gl_b Y + 73)), (1, .ref (gl_b Y + a1)), (2, .int (i32 x2)), (4, .int (i32 x4)), (5, .int (i32 x5)), (6, .int (i32 x6)), (7, .int (i32 x7)), (8, .int (i32 x8)), (9, .int (i32 x9)), (10, .int (i32 x10))]) C (by decide) rfl dX13_cutPart_131 rfl ?_
      exact Wa.sub [0, 1, 2, 3, 4, 5, 6, 7, 8, 9] rfl h
    · replace h := h.2 c3
      refine r_iload (pc' := 124) C 7 rfl dX13_cutPart_122 rfl ?_
      refine r_iconst (pc' := 125) C dX13_cutPart_124 rfl ?_
      refine r_iadd (pc' := 126) C dX13_cutPart_125 rfl ?_
      refine r_goto (tgt := 131) C dX13_cutPart_126 (by decide) ?_
      refine r_istore (pc' := 133) (ls' := [(0, .ref (gl_b Y + 73)), (1, .ref (gl_b Y + a1)), (2, .int (i32 x2)), (4, .int (i32 x4)), (5, .int (i32 x5)), (6, .int (i32 x6)), (7, .int (i32 x7)), (8, .int (i32 (x8 + 1))), (9, .int (i32 x9)), (10, .int (i32 x10))]) C (by decide) rfl dX13_cutPart_131 rfl ?_
      exact Wa.sub [0, 1, 2, 3, 4, 5, 6, 7, 8, 9] rfl h
  · replace h := h.2 c2
    refine r_iload (pc' := 83) C 9 rfl dX13_cutPart_81 rfl ?_
    refine r_sipush (pc' := 86) C dX13_cutPart_83 (by decide) rfl ?_
    refine r_icmp_ge (pc' := 89) (tgt := 116) C hx10 (by decide) dX13_cutPart_86 (by decide) rfl (fun c4 => ?_) (fun c4 => ?_)
    · replace h := h.1 c4
      refine r_iload (pc' := 118) C 9 rfl dX13_cutPart_116 rfl ?_
      refine r_iconst (pc' := 119) C dX13_cutPart_118 rfl ?_
      refine r_icmp_le (pc' := 122) (tgt := 129) C hx10 (by decide) dX13_cutPart_119 (by decide) rfl (fun c5 => ?_) (fun c5 => ?_)
      · replace h := h.1 c5
        refine r_iload (pc' := 131) C 7 rfl dX13_cutPart_129 rfl ?_
        refine r_istore (pc' := 133) (ls' := [(0, .ref (gl_b Y + 73)), (1, .ref (gl_b Y + a1)), (2, .int (i32 x2)), (4, .int (i32 x4)), (5, .int (i32 x5)), (6, .int (i32 x6)), (7, .int (i32 x7)), (8, .int (i32 x8)), (9, .int (i32 x9)), (10, .int (i32 x10))]) C (by decide) rfl dX13_cutPart_131 rfl ?_
        exact Wa.sub [0, 1, 2, 3, 4, 5, 6, 7, 8, 9] rfl h
      · replace h := h.2 c5
        refine r_iload (pc' := 124) C 7 rfl dX13_cutPart_122 rfl ?_
        refine r_iconst (pc' := 125) C dX13_cutPart_124 rfl ?_
        refine r_iadd (pc' := 126) C dX13_cutPart_125 rfl ?_
        refine r_goto (tgt := 131) C dX13_cutPart_126 (by decide) ?_
        refine r_istore (pc' := 133) (ls' := [(0, .ref (gl_b Y + 73)), (1, .ref (gl_b Y + a1)), (2, .int (i32 x2)), (4, .int (i32 x4)), (5, .int (i32 x5)), (6, .int (i32 x6)), (7, .int (i32 x7)), (8, .int (i32 (x8 + 1))), (9, .int (i32 x9)), (10, .int (i32 x10))]) C (by decide) rfl dX13_cutPart_131 rfl ?_
        exact Wa.sub [0, 1, 2, 3, 4, 5, 6, 7, 8, 9] rfl h
    · replace h := h.2 c4
      refine r_aload_n (pc' := 90) C 1 rfl rfl dX13_cutPart_89 rfl ?_
      refine r_iload_n (pc' := 91) C 2 rfl rfl dX13_cutPart_90 rfl ?_
      refine r_iload (pc' := 93) C 8 rfl dX13_cutPart_91 rfl ?_
      refine r_iadd (pc' := 94) C dX13_cutPart_93 rfl ?_
      refine r_iload (pc' := 96) C 9 rfl dX13_cutPart_94 rfl ?_
      refine r_iadd (pc' := 97) C dX13_cutPart_96 rfl ?_
      have o6 := h.1
      replace h := h.2
      refine r_bald (pc' := 98) (k := a1) C (by omega) ha1c o6 dX13_cutPart_97 rfl (fun f7 => ?_)
      replace h := h f7
      refine r_aload_n (pc' := 99) C 1 rfl rfl dX13_cutPart_98 rfl ?_
      refine r_iload_n (pc' := 100) C 2 rfl rfl dX13_cutPart_99 rfl ?_
      refine r_iload (pc' := 102) C 4 rfl dX13_cutPart_100 rfl ?_
      refine r_iadd (pc' := 103) C dX13_cutPart_102 rfl ?_
      refine r_iload (pc' := 105) C 9 rfl dX13_cutPart_103 rfl ?_
      refine r_iadd (pc' := 106) C dX13_cutPart_105 rfl ?_
      have o8 := h.1
      replace h := h.2
      refine r_bald (pc' := 107) (k := a1) C (by omega) ha1c o8 dX13_cutPart_106 rfl (fun f9 => ?_)
      replace h := h f9
      refine r_icmp_ne (pc' := 110) (tgt := 116) C (by omega) (by omega) dX13_cutPart_107 (by decide) rfl (fun c10 => ?_) (fun c10 => ?_)
      · replace h := h.1 c10
        refine r_iload (pc' := 118) C 9 rfl dX13_cutPart_116 rfl ?_
        refine r_iconst (pc' := 119) C dX13_cutPart_118 rfl ?_
        refine r_icmp_le (pc' := 122) (tgt := 129) C hx10 (by decide) dX13_cutPart_119 (by decide) rfl (fun c11 => ?_) (fun c11 => ?_)
        · replace h := h.1 c11
          refine r_iload (pc' := 131) C 7 rfl dX13_cutPart_129 rfl ?_
          refine r_istore (pc' := 133) (ls' := [(0, .ref (gl_b Y + 73)), (1, .ref (gl_b Y + a1)), (2, .int (i32 x2)), (4, .int (i32 x4)), (5, .int (i32 x5)), (6, .int (i32 x6)), (7, .int (i32 x7)), (8, .int (i32 x8)), (9, .int (i32 x9)), (10, .int (i32 x10))]) C (by decide) rfl dX13_cutPart_131 rfl ?_
          exact Wa.sub [0, 1, 2, 3, 4, 5, 6, 7, 8, 9] rfl h
        · replace h := h.2 c11
          refine r_iload (pc' := 124) C 7 rfl dX13_cutPart_122 rfl ?_
          refine r_iconst (pc' := 125) C dX13_cutPart_124 rfl ?_
          refine r_iadd (pc' := 126) C dX13_cutPart_125 rfl ?_
          refine r_goto (tgt := 131) C dX13_cutPart_126 (by decide) ?_
          refine r_istore (pc' := 133) (ls' := [(0, .ref (gl_b Y + 73)), (1, .ref (gl_b Y + a1)), (2, .int (i32 x2)), (4, .int (i32 x4)), (5, .int (i32 x5)), (6, .int (i32 x6)), (7, .int (i32 x7)), (8, .int (i32 (x8 + 1))), (9, .int (i32 x9)), (10, .int (i32 x10))]) C (by decide) rfl dX13_cutPart_131 rfl ?_
          exact Wa.sub [0, 1, 2, 3, 4, 5, 6, 7, 8, 9] rfl h
      · replace h := h.2 c10
        refine r_iinc (pc' := 113) (ls' := [(0, .ref (gl_b Y + 73)), (1, .ref (gl_b Y + a1)), (2, .int (i32 x2)), (4, .int (i32 x4)), (5, .int (i32 x5)), (6, .int (i32 x6)), (7, .int (i32 x7)), (8, .int (i32 x8)), (9, .int (i32 x9)), (10, .int (i32 (x10 + 1)))]) C 9 rfl (by decide) rfl dX13_cutPart_110 rfl ?_
        refine r_goto (tgt := 71) C dX13_cutPart_113 (by decide) ?_
        exact Wa.sub [0, 1, 2, 3, 4, 5, 6, 7, 8, 9] rfl h
set_option maxHeartbeats 4000000 in
set_option maxRecDepth 100000 in
theorem w_X13_cutPart_46 {Y : Gl} {X : Cx} {e : Nat} {P : PN} {a1 : Nat} {x2 : Int} {x4 : Int} {x5 : Int} {x6 : Int} {x7 : Int} {x8 : Int} {x9 : Int} {iv av : IVt} (C : CX Y X RX13 "cutPart" cX13_cutPart 11 none e 0 0) (Ka1 : ArrK 101 a1) (hx6 : InR x6) (hx7 : InR x7) (hx8 : InR x8) (hx9 : InR x9) (h :
    ((x9 < 0) →
      ((InR (iv 73 34)) →
        (0 ≤ (iv 73 34) ∧ (iv 73 34) < 4096) ∧
        ((x6 ≤ 0) →
          (0 ≤ (x2 + x5) ∧ (x2 + x5) < (kl a1 : Int)) ∧
          ((-128 ≤ ((up2 av 96 ((iv 73 34).toNat) x6) a1 (x2 + x5).toNat) ∧ ((up2 av 96 ((iv 73 34).toNat) x6) a1 (x2 + x5).toNat) ≤ 127) →
            L_X13_cutPart_232 Y X P a1 x2 x4 x5 x6 iv (up2 (up2 av 96 ((iv 73 34).toNat) x6) 97 ((iv 73 34).toNat) (((up2 av 96 ((iv 73 34).toNat) x6) a1 (x2 + x5).toNat) % 256))
          )
        ) ∧
        ((¬ x6 ≤ 0) →
          L_X13_cutPart_232 Y X P a1 x2 x4 x5 x6 iv (up2 (up2 av 96 ((iv 73 34).toNat) x6) 97 ((iv 73 34).toNat) x7)
        )
      )
    ) ∧
    ((¬ x9 < 0) →
      (InR (x5 - x9)) ∧
      ((32768 < (x5 - x9)) →
        ((InR (iv 73 34)) →
          (0 ≤ (iv 73 34) ∧ (iv 73 34) < 4096) ∧
          ((x6 ≤ 0) →
            (0 ≤ (x2 + x5) ∧ (x2 + x5) < (kl a1 : Int)) ∧
            ((-128 ≤ ((up2 av 96 ((iv 73 34).toNat) x6) a1 (x2 + x5).toNat) ∧ ((up2 av 96 ((iv 73 34).toNat) x6) a1 (x2 + x5).toNat) ≤ 127) →
              L_X13_cutPart_232 Y X P a1 x2 x4 x5 x6 iv (up2 (up2 av 96 ((iv 73 34).toNat) x6) 97 ((iv 73 34).toNat) (((up2 av 96 ((iv 73 34).toNat) x6) a1 (x2 + x5).toNat) % 256))
            )
          ) ∧
          ((¬ x6 ≤ 0) →
            L_X13_cutPart_232 Y X P a1 x2 x4 x5 x6 iv (up2 (up2 av 96 ((iv 73 34).toNat) x6) 97 ((iv 73 34).toNat) x7)
          )
        )
      ) ∧
      ((¬ 32768 < (x5 - x9)) →
        ((16 ≤ x8) →
          ((InR (iv 73 34)) →
            (0 ≤ (iv 73 34) ∧ (iv 73 34) < 4096) ∧
            ((x6 ≤ 0) →
              (0 ≤ (x2 + x5) ∧ (x2 + x5) < (kl a1 : Int)) ∧
              ((-128 ≤ ((up2 av 96 ((iv 73 34).toNat) x6) a1 (x2 + x5).toNat) ∧ ((up2 av 96 ((iv 73 34).toNat) x6) a1 (x2 + x5).toNat) ≤ 127) →
                L_X13_cutPart_232 Y X P a1 x2 x4 x5 x6 iv (up2 (up2 av 96 ((iv 73 34).toNat) x6) 97 ((iv 73 34).toNat) (((up2 av 96 ((iv 73 34).toNat) x6) a1 (x2 + x5).toNat) % 256))
              )
            ) ∧
            ((¬ x6 ≤ 0) →
              L_X13_cutPart_232 Y X P a1 x2 x4 x5 x6 iv (up2 (up2 av 96 ((iv 73 34).toNat) x6) 97 ((iv 73 34).toNat) x7)
            )
          )
        ) ∧
        ((¬ 16 ≤ x8) →
          L_X13_cutPart_71 Y X P a1 x2 x4 x5 x6 x7 x8 x9 2 iv av
        )
      )
    )) : L_X13_cutPart_46 Y X P a1 x2 x4 x5 x6 x7 x8 x9 iv av := by
  obtain ⟨ha1c, ha1l⟩ := Ka1
  unfold L_X13_cutPart_46
  refine r_iload (pc' := 48) C 8 rfl dX13_cutPart_46 rfl ?_
  refine r_if_lt (pc' := 51) (tgt := 192) C hx9 dX13_cutPart_48 (by decide) rfl (fun c1 => ?_) (fun c1 => ?_)
  · replace h := h.1 c1
    refine r_aload_n (pc' := 193) C 0 rfl rfl dX13_cutPart_192 rfl ?_
    refine r_getr (pc' := 196) (k := 73) (r := 96) C fl_X13_84 (by decide) kc_73 (by decide) fr_13_35 RV_73_35 dX13_cutPart_193 rfl ?_
    refine r_aload_n (pc' := 197) C 0 rfl rfl dX13_cutPart_196 rfl ?_
    refine r_geti (pc' := 200) (k := 73) C fl_X13_178 (by decide) kc_73 (by decide) fr_13_34 dX13_cutPart_197 rfl (fun f2 => ?_)
    replace h := h f2
    refine r_iload (pc' := 202) C 5 rfl dX13_cutPart_200 rfl ?_
    have o3 := h.1
    replace h := h.2
    refine r_iast (pc' := 203) (k := 96) C (by decide) kc_96 (by have := kl_96; omega) hx6 dX13_cutPart_202 rfl ?_
    refine r_aload_n (pc' := 204) C 0 rfl rfl dX13_cutPart_203 rfl ?_
    refine r_getr (pc' := 207) (k := 73) (r := 97) C fl_X13_87 (by decide) kc_73 (by decide) fr_13_36 RV_73_36 dX13_cutPart_204 rfl ?_
    refine r_aload_n (pc' := 208) C 0 rfl rfl dX13_cutPart_207 rfl ?_
    refine r_geti (pc' := 211) (k := 73) C fl_X13_178 (by decide) kc_73 (by decide) fr_13_34 dX13_cutPart_208 rfl (fun f4 => ?_)
    refine r_iload (pc' := 213) C 5 rfl dX13_cutPart_211 rfl ?_
    refine r_if_le (pc' := 216) (tgt := 221) C hx6 dX13_cutPart_213 (by decide) rfl (fun c5 => ?_) (fun c5 => ?_)
    · replace h := h.1 c5
      refine r_aload_n (pc' := 222) C 1 rfl rfl dX13_cutPart_221 rfl ?_
      refine r_iload_n (pc' := 223) C 2 rfl rfl dX13_cutPart_222 rfl ?_
      refine r_iload (pc' := 225) C 4 rfl dX13_cutPart_223 rfl ?_
      refine r_iadd (pc' := 226) C dX13_cutPart_225 rfl ?_
      have o6 := h.1
      replace h := h.2
      refine r_bald (pc' := 227) (k := a1) C (by omega) ha1c o6 dX13_cutPart_226 rfl (fun f7 => ?_)
      replace h := h f7
      refine r_sipush (pc' := 230) C dX13_cutPart_227 (by decide) rfl ?_
      refine r_iandM (pc' := 231) (m := 256) C 8 (by decide) (by decide) (by decide) dX13_cutPart_230 rfl ?_
      refine r_iast (pc' := 232) (k := 97) C (by decide) kc_97 (by have := kl_97; omega) (by omega) dX13_cutPart_231 rfl ?_
      exact Wa.sub [0, 1, 2, 3, 4, 5] rfl h
    · replace h := h.2 c5
      refine r_iload (pc' := 218) C 6 rfl dX13_cutPart_216 rfl ?_
      refine r_goto (tgt := 231) C dX13_cutPart_218 (by decide) ?_
      refine r_iast (pc' := 232) (k := 97) C (by decide) kc_97 (by have := kl_97; omega) hx7 dX13_cutPart_231 rfl ?_
      exact Wa.sub [0, 1, 2, 3, 4, 5] rfl h
  · replace h := h.2 c1
    refine r_iload (pc' := 53) C 4 rfl dX13_cutPart_51 rfl ?_
    refine r_iload (pc' := 55) C 8 rfl dX13_cutPart_53 rfl ?_
    refine r_isub (pc' := 56) C dX13_cutPart_55 rfl ?_
    refine r_ldc (pc' := 58) (x := 32768) C ct_X13_181 (by decide) dX13_cutPart_56 rfl ?_
    have o8 := h.1
    replace h := h.2
    refine r_icmp_gt (pc' := 61) (tgt := 192) C o8 (by decide) dX13_cutPart_58 (by decide) rfl (fun c9 => ?_) (fun c9 => ?_)
    · replace h := h.1 c9
      refine r_aload_n (pc' := 193) C 0 rfl rfl dX13_cutPart_192 rfl ?_
      refine r_getr (pc' := 196) (k := 73) (r := 96) C fl_X13_84 (by decide) kc_73 (by decide) fr_13_35 RV_73_35 dX13_cutPart_193 rfl ?_
      refine r_aload_n (pc' := 197) C 0 rfl rfl dX13_cutPart_196 rfl ?_
      refine r_geti (pc' := 200) (k := 73) C fl_X13_178 (by decide) kc_73 (by decide) fr_13_34 dX13_cutPart_197 rfl (fun f10 => ?_)
      replace h := h f10
      refine r_iload (pc' := 202) C 5 rfl dX13_cutPart_200 rfl ?_
      have o11 := h.1
      replace h := h.2
      refine r_iast (pc' := 203) (k := 96) C (by decide) kc_96 (by have := kl_96; omega) hx6 dX13_cutPart_202 rfl ?_
      refine r_aload_n (pc' := 204) C 0 rfl rfl dX13_cutPart_203 rfl ?_
      refine r_getr (pc' := 207) (k := 73) (r := 97) C fl_X13_87 (by decide) kc_73 (by decide) fr_13_36 RV_73_36 dX13_cutPart_204 rfl ?_
      refine r_aload_n (pc' := 208) C 0 rfl rfl dX13_cutPart_207 rfl ?_
      refine r_geti (pc' := 211) (k := 73) C fl_X13_178 (by decide) kc_73 (by decide) fr_13_34 dX13_cutPart_208 rfl (fun f12 => ?_)
      refine r_iload (pc' := 213) C 5 rfl dX13_cutPart_211 rfl ?_
      refine r_if_le (pc' := 216) (tgt := 221) C hx6 dX13_cutPart_213 (by decide) rfl (fun c13 => ?_) (fun c13 => ?_)
      · replace h := h.1 c13
        refine r_aload_n (pc' := 222) C 1 rfl rfl dX13_cutPart_221 rfl ?_
        refine r_iload_n (pc' := 223) C 2 rfl rfl dX13_cutPart_222 rfl ?_
        refine r_iload (pc' := 225) C 4 rfl dX13_cutPart_223 rfl ?_
        refine r_iadd (pc' := 226) C dX13_cutPart_225 rfl ?_
        have o14 := h.1
        replace h := h.2
        refine r_bald (pc' := 227) (k := a1) C (by omega) ha1c o14 dX13_cutPart_226 rfl (fun f15 => ?_)
        replace h := h f15
        refine r_sipush (pc' := 230) C dX13_cutPart_227 (by decide) rfl ?_
        refine r_iandM (pc' := 231) (m := 256) C 8 (by decide) (by decide) (by decide) dX13_cutPart_230 rfl ?_
        refine r_iast (pc' := 232) (k := 97) C (by decide) kc_97 (by have := kl_97; omega) (by omega) dX13_cutPart_231 rfl ?_
        exact Wa.sub [0, 1, 2, 3, 4, 5] rfl h
      · replace h := h.2 c13
        refine r_iload (pc' := 218) C 6 rfl dX13_cutPart_216 rfl ?_
        refine r_goto (tgt := 231) C dX13_cutPart_218 (by decide) ?_
        refine r_iast (pc' := 232) (k := 97) C (by decide) kc_97 (by have := kl_97; omega) hx7 dX13_cutPart_231 rfl ?_
        exact Wa.sub [0, 1, 2, 3, 4, 5] rfl h
    · replace h := h.2 c9
      refine r_iload (pc' := 63) C 7 rfl dX13_cutPart_61 rfl ?_
      refine r_bipush (pc' := 65) C dX13_cutPart_63 (by decide) rfl ?_
      refine r_icmp_ge (pc' := 68) (tgt := 192) C hx8 (by decide) dX13_cutPart_65 (by decide) rfl (fun c16 => ?_) (fun c16 => ?_)
      · replace h := h.1 c16
        refine r_aload_n (pc' := 193) C 0 rfl rfl dX13_cutPart_192 rfl ?_
        refine r_getr (pc' := 196) (k := 73) (r := 96) C fl_X13_84 (by decide) kc_73 (by decide) fr_13_35 RV_73_35 dX13_cutPart_193 rfl ?_
        refine r_aload_n (pc' := 197) C 0 rfl rfl dX13_cutPart_196 rfl ?_
        refine r_geti (pc' := 200) (k := 73) C fl_X13_178 (by decide) kc_73 (by decide) fr_13_34 dX13_cutPart_197 rfl (fun f17 => ?_)
        replace h := h f17
        refine r_iload (pc' := 202) C 5 rfl dX13_cutPart_200 rfl ?_
        have o18 := h.1
        replace h := h.2
        refine r_iast (pc' := 203) (k := 96) C (by decide) kc_96 (by have := kl_96; omega) hx6 dX13_cutPart_202 rfl ?_
        refine r_aload_n (pc' := 204) C 0 rfl rfl dX13_cutPart_203 rfl ?_
        refine r_getr (pc' := 207) (k := 73) (r := 97) C fl_X13_87 (by decide) kc_73 (by decide) fr_13_36 RV_73_36 dX13_cutPart_204 rfl ?_
        refine r_aload_n (pc' := 208) C 0 rfl rfl dX13_cutPart_207 rfl ?_
        refine r_geti (pc' := 211) (k := 73) C fl_X13_178 (by decide) kc_73 (by decide) fr_13_34 dX13_cutPart_208 rfl (fun f19 => ?_)
        refine r_iload (pc' := 213) C 5 rfl dX13_cutPart_211 rfl ?_
        refine r_if_le (pc' := 216) (tgt := 221) C hx6 dX13_cutPart_213 (by decide) rfl (fun c20 => ?_) (fun c20 => ?_)
        · replace h := h.1 c20
          refine r_aload_n (pc' := 222) C 1 rfl rfl dX13_cutPart_221 rfl ?_
          refine r_iload_n (pc' := 223) C 2 rfl rfl dX13_cutPart_222 rfl ?_
          refine r_iload (pc' := 225) C 4 rfl dX13_cutPart_223 rfl ?_
          refine r_iadd (pc' := 226) C dX13_cutPart_225 rfl ?_
          have o21 := h.1
          replace h := h.2
          refine r_bald (pc' := 227) (k := a1) C (by omega) ha1c o21 dX13_cutPart_226 rfl (fun f22 => ?_)
          replace h := h f22
          refine r_sipush (pc' := 230) C dX13_cutPart_227 (by decide) rfl ?_
          refine r_iandM (pc' := 231) (m := 256) C 8 (by decide) (by decide) (by decide) dX13_cutPart_230 rfl ?_
          refine r_iast (pc' := 232) (k := 97) C (by decide) kc_97 (by have := kl_97; omega) (by omega) dX13_cutPart_231 rfl ?_
          exact Wa.sub [0, 1, 2, 3, 4, 5] rfl h
        · replace h := h.2 c20
          refine r_iload (pc' := 218) C 6 rfl dX13_cutPart_216 rfl ?_
          refine r_goto (tgt := 231) C dX13_cutPart_218 (by decide) ?_
          refine r_iast (pc' := 232) (k := 97) C (by decide) kc_97 (by have := kl_97; omega) hx7 dX13_cutPart_231 rfl ?_
          exact Wa.sub [0, 1, 2, 3, 4, 5] rfl h
      · replace h := h.2 c16
        refine r_iconst (pc' := 69) C dX13_cutPart_68 rfl ?_
        refine r_istore (pc' := 71) (ls' := [(0, .ref (gl_b Y + 73)), (1, .ref (gl_b Y + a1)), (2, .int (i32 x2)), (4, .int (i32 x4)), (5, .int (i32 x5)), (6, .int (i32 x6)), (7, .int (i32 x7)), (8, .int (i32 x8)), (9, .int (i32 x9)), (10, .int (i32 2))]) C (by decide) rfl dX13_cutPart_69 rfl ?_
        exact Wa.sub [0, 1, 2, 3, 4, 5, 6, 7, 8, 9] rfl h
set_option maxHeartbeats 4000000 in
set_option maxRecDepth 100000 in
theorem w_X13_cutPart_8 {Y : Gl} {X : Cx} {e : Nat} {P : PN} {a1 : Nat} {x2 : Int} {x4 : Int} {x5 : Int} {iv av : IVt} (C : CX Y X RX13 "cutPart" cX13_cutPart 11 none e 0 0) (Ka1 : ArrK 101 a1) (hx4 : InR x4) (hx5 : InR x5) (h :
    ((x4 ≤ x5) →
      P 0 iv av
    ) ∧
    ((¬ x4 ≤ x5) →
      (InR (x5 + 3)) ∧
      ((x4 < (x5 + 3)) →
        L_X13_cutPart_46 Y X P a1 x2 x4 x5 0 0 0 (-1) iv av
      ) ∧
      ((¬ x4 < (x5 + 3)) →
        (0 ≤ x5 ∧ x5 < 65536) ∧
        ((InR (av 94 x5.toNat)) →
          L_X13_cutPart_46 Y X P a1 x2 x4 x5 0 0 0 (av 94 x5.toNat) iv av
        )
      )
    )) : L_X13_cutPart_8 Y X P a1 x2 x4 x5 iv av := by
  obtain ⟨ha1c, ha1l⟩ := Ka1
  unfold L_X13_cutPart_8
  refine r_iload (pc' := 10) C 4 rfl dX13_cutPart_8 rfl ?_
  refine r_iload (pc' := 12) C 3 rfl dX13_cutPart_10 rfl ?_
  refine r_icmp_ge (pc' := 15) (tgt := 264) C hx5 hx4 dX13_cutPart_12 (by decide) rfl (fun c1 => ?_) (fun c1 => ?_)
  · replace h := h.1 c1
    exact r_vret C ⟨rfl, rfl, h⟩ dX13_cutPart_264
  · replace h := h.2 c1
    refine r_iconst (pc' := 16) C dX13_cutPart_15 rfl ?_
    refine r_istore (pc' := 18) (ls' := [(0, .ref (gl_b Y + 73)), (1, .ref (gl_b Y + a1)), (2, .int (i32 x2)), (4, .int (i32 x4)), (5, .int (i32 x5)), (6, .int (i32 0))]) C (by decide) rfl dX13_cutPart_16 rfl ?_
    refine r_iconst (pc' := 19) C dX13_cutPart_18 rfl ?_
    refine r_istore (pc' := 21) (ls' := [(0, .ref (gl_b Y + 73)), (1, .ref (gl_b Y + a1)), (2, .int (i32 x2)), (4, .int (i32 x4)), (5, .int (i32 x5)), (6, .int (i32 0)), (7, .int (i32 0))]) C (by decide) rfl dX13_cutPart_19 rfl ?_
    refine r_iconst (pc' := 22) C dX13_cutPart_21 rfl ?_
    refine r_istore (pc' := 24) (ls' := [(0, .ref (gl_b Y + 73)), (1, .ref (gl_b Y + a1)), (2, .int (i32 x2)), (4, .int (i32 x4)), (5, .int (i32 x5)), (6, .int (i32 0)), (7, .int (i32 0)), (8, .int (i32 0))]) C (by decide) rfl dX13_cutPart_22 rfl ?_
    refine r_iload (pc' := 26) C 4 rfl dX13_cutPart_24 rfl ?_
    refine r_iconst (pc' := 27) C dX13_cutPart_26 rfl ?_
    refine r_iadd (pc' := 28) C dX13_cutPart_27 rfl ?_
    refine r_iload (pc' := 30) C 3 rfl dX13_cutPart_28 rfl ?_
    have o2 := h.1
    replace h := h.2
    refine r_icmp_gt (pc' := 33) (tgt := 43) C o2 hx4 dX13_cutPart_30 (by decide) rfl (fun c3 => ?_) (fun c3 => ?_)
    · replace h := h.1 c3
      refine r_iconst (pc' := 44) C dX13_cutPart_43 rfl ?_
      refine r_istore (pc' := 46) (ls' := [(0, .ref (gl_b Y + 73)), (1, .ref (gl_b Y + a1)), (2, .int (i32 x2)), (4, .int (i32 x4)), (5, .int (i32 x5)), (6, .int (i32 0)), (7, .int (i32 0)), (8, .int (i32 0)), (9, .int (i32 (-1)))]) C (by decide) rfl dX13_cutPart_44 rfl ?_
      exact Wa.sub [0, 1, 2, 3, 4, 5, 6, 7, 8] rfl h
    · replace h := h.2 c3
      refine r_aload_n (pc' := 34) C 0 rfl rfl dX13_cutPart_33 rfl ?_
      refine r_getr (pc' := 37) (k := 73) (r := 94) C fl_X13_78 (by decide) kc_73 (by decide) fr_13_32 RV_73_32 dX13_cutPart_34 rfl ?_
      refine r_iload (pc' := 39) C 4 rfl dX13_cutPart_37 rfl ?_
      have o4 := h.1
      replace h := h.2
      refine r_iald (pc' := 40) (k := 94) C (by decide) kc_94 (by have := kl_94; omega) dX13_cutPart_39 rfl (fun f5 => ?_)
      replace h := h f5
      refine r_goto (tgt := 44) C dX13_cutPart_40 (by decide) ?_
      refine r_istore (pc' := 46) (ls' := [(0, .ref (gl_b Y + 73)), (1, .ref (gl_b Y + a1)), (2, .int (i32 x2)), (4, .int (i32 x4)), (5, .int (i32 x5)), (6, .int (i32 0)), (7, .int (i32 0)), (8, .int (i32 0)), (9, .int (i32 (av 94 x5.toNat)))]) C (by decide) rfl dX13_cutPart_44 rfl ?_
      exact Wa.sub [0, 1, 2, 3, 4, 5, 6, 7, 8] rfl h
set_option maxHeartbeats 4000000 in
set_option maxRecDepth 100000 in
theorem o_X13_cutPart {Y : Gl} {e : Nat} {P : PN} {a1 : Nat} {x2 : Int} {x3 : Int} {x4 : Int} {iv av : IVt} (Ka1 : ArrK 101 a1) (h : ∀ X : Cx, CX Y X RX13 "cutPart" cX13_cutPart 11 none e 0 0 →
    L_X13_cutPart_8 Y X P a1 x2 x4 x3 (up2 iv 73 34 0) av) : OkN Y e mX13_cutPart [.ref (gl_b Y + 73), .ref (gl_b Y + a1), .int (i32 x2), .int (i32 x3), .int (i32 x4)] RV iv av 116 P := by
  obtain ⟨ha1c, ha1l⟩ := Ka1
  refine OkW.of rfl (by show _ ≤ 11; exact Nat.le_of_ble_eq_true rfl) fun X C0 hR => ?_
  have C : CX Y X RX13 "cutPart" cX13_cutPart 11 none e 0 0 := C0
  replace h := h X C
  show Wa Y X 11 (g_MQ Y X 0 (g_N RV 116 P) 0 0) 0 0 0 [(0, .ref (gl_b Y + 73)), (1, .ref (gl_b Y + a1)), (2, .int (i32 x2)), (3, .int (i32 x3)), (4, .int (i32 x4))] [] RV iv av 116
  refine r_aload_n (pc' := 1) C 0 rfl rfl dX13_cutPart_0 rfl ?_
  refine r_iconst (pc' := 2) C dX13_cutPart_1 rfl ?_
  refine r_puti (pc' := 5) (k := 73) C fl_X13_178 (by decide) kc_73 (by decide) fr_13_34 (by decide) dX13_cutPart_2 rfl ?_
  refine r_iload_n (pc' := 6) C 3 rfl rfl dX13_cutPart_5 rfl ?_
  refine r_istore (pc' := 8) (ls' := [(0, .ref (gl_b Y + 73)), (1, .ref (gl_b Y + a1)), (2, .int (i32 x2)), (3, .int (i32 x3)), (4, .int (i32 x4)), (5, .int (i32 x3))]) C (by decide) rfl dX13_cutPart_6 rfl ?_
  exact Wa.sub [0, 1, 2, 4, 5] rfl h
def L_X13_countTokens_2 (Y : Gl) (X : Cx) (P : PN) (x1 : Int) (iv av : IVt) : Prop := Wa Y X 2 (g_MQ Y X 0 (g_N RV 116 P) 0 0) 0 0 2 [(0, .ref (gl_b Y + 73)), (1, .int (i32 x1))] [] RV iv av 116
def L_X13_countTokens_33 (Y : Gl) (X : Cx) (P : PN) (x1 : Int) (iv av : IVt) : Prop := Wa Y X 2 (g_MQ Y X 0 (g_N RV 116 P) 0 0) 0 0 33 [(0, .ref (gl_b Y + 73)), (1, .int (i32 x1))] [] RV iv av 116
set_option maxHeartbeats 4000000 in
set_option maxRecDepth 100000 in
theorem w_X13_countTokens_33 {Y : Gl} {X : Cx} {e : Nat} {P : PN} {x1 : Int} {iv av : IVt} (C : CX Y X RX13 "countTokens" cX13_countTokens 2 none (e + 3) 0 0) (hx1 : InR x1) (h :
    ((InR (iv 73 34)) →
      (((iv 73 34) ≤ x1) →
        P 0 iv av
      ) ∧
      ((¬ (iv 73 34) ≤ x1) →
        (0 ≤ x1 ∧ x1 < 4096) ∧
        ((InR (av 96 x1.toNat)) →
          ((¬ (av 96 x1.toNat) = 0) →
            OkN Y (e + 2) mX13_lengthSymbol [.int (i32 (av 96 x1.toNat))] RV iv av 116 (fun r7 iv8 av9 =>
              (InR r7) →
              (0 ≤ r7 ∧ r7 < 339) ∧
              ((InR (av9 98 r7.toNat)) →
                (InR ((av9 98 r7.toNat) + 1)) ∧
                ((InR (av9 97 x1.toNat)) →
                  OkN Y (e + 2) mX13_distanceSymbol [.int (i32 (av9 97 x1.toNat))] RV iv8 (up2 av9 98 r7.toNat ((av9 98 r7.toNat) + 1)) 116 (fun r15 iv16 av17 =>
                    (InR r15) →
                    (0 ≤ (288 + r15) ∧ (288 + r15) < 339) ∧
                    ((InR (av17 98 (288 + r15).toNat)) →
                      (InR ((av17 98 (288 + r15).toNat) + 1)) ∧
                      L_X13_countTokens_33 Y X P (x1 + 1) iv16 (up2 av17 98 ((288 + r15).toNat) ((av17 98 (288 + r15).toNat) + 1))
                    )
                  )
                )
              )
            )
          ) ∧
          (((av 96 x1.toNat) = 0) →
            ((InR (av 97 x1.toNat)) →
              (0 ≤ (av 97 x1.toNat) ∧ (av 97 x1.toNat) < 339) ∧
              ((InR (av 98 (av 97 x1.toNat).toNat)) →
                (InR ((av 98 (av 97 x1.toNat).toNat) + 1)) ∧
                L_X13_countTokens_33 Y X P (x1 + 1) iv (up2 av 98 ((av 97 x1.toNat).toNat) ((av 98 (av 97 x1.toNat).toNat) + 1))
              )
            )
          )
        )
      )
    )) : L_X13_countTokens_33 Y X P x1 iv av := by
  unfold L_X13_countTokens_33
  refine r_iload_n (pc' := 34) C 1 rfl rfl dX13_countTokens_33 rfl ?_
  refine r_aload_n (pc' := 35) C 0 rfl rfl dX13_countTokens_34 rfl ?_
  refine r_geti (pc' := 38) (k := 73) C fl_X13_178 (by decide) kc_73 (by decide) fr_13_34 dX13_countTokens_35 rfl (fun f1 => ?_)
  replace h := h f1
  refine r_icmp_ge (pc' := 41) (tgt := 114) C hx1 f1 dX13_countTokens_38 (by decide) rfl (fun c2 => ?_) (fun c2 => ?_)
  · replace h := h.1 c2
    exact r_vret C ⟨rfl, rfl, h⟩ dX13_countTokens_114
  · replace h := h.2 c2
    refine r_aload_n (pc' := 42) C 0 rfl rfl dX13_countTokens_41 rfl ?_
    refine r_getr (pc' := 45) (k := 73) (r := 96) C fl_X13_84 (by decide) kc_73 (by decide) fr_13_35 RV_73_35 dX13_countTokens_42 rfl ?_
    refine r_iload_n (pc' := 46) C 1 rfl rfl dX13_countTokens_45 rfl ?_
    have o3 := h.1
    replace h := h.2
    refine r_iald (pc' := 47) (k := 96) C (by decide) kc_96 (by have := kl_96; omega) dX13_countTokens_46 rfl (fun f4 => ?_)
    replace h := h f4
    refine r_if_ne (pc' := 50) (tgt := 68) C f4 dX13_countTokens_47 (by decide) rfl (fun c5 => ?_) (fun c5 => ?_)
    · replace h := h.1 c5
      refine r_aload_n (pc' := 69) C 0 rfl rfl dX13_countTokens_68 rfl ?_
      refine r_getr (pc' := 72) (k := 73) (r := 98) C fl_X13_90 (by decide) kc_73 (by decide) fr_13_37 RV_73_37 dX13_countTokens_69 rfl ?_
      refine r_aload_n (pc' := 73) C 0 rfl rfl dX13_countTokens_72 rfl ?_
      refine r_getr (pc' := 76) (k := 73) (r := 96) C fl_X13_84 (by decide) kc_73 (by decide) fr_13_35 RV_73_35 dX13_countTokens_73 rfl ?_
      refine r_iload_n (pc' := 77) C 1 rfl rfl dX13_countTokens_76 rfl ?_
      refine r_iald (pc' := 78) (k := 96) C (by decide) kc_96 (by have := kl_96; omega) dX13_countTokens_77 rfl (fun f6 => ?_)
      refine c_Si (pc' := 81) (mt := mX13_lengthSymbol) (as := [.int (i32 (av 96 x1.toNat))]) (st := [.ref (gl_b Y + 98)]) C h rfl cl_X13_lengthSymbol ml_X13_182 sm_X13_lengthSymbol (by omega) (Nat.le_refl _) (Nat.le_refl _) rfl rfl (Nat.le_of_ble_eq_true rfl) dX13_countTokens_78 rfl (fun r7 iv8 av9 f10 h => ?_)
      replace h := h f10
      refine r_dup2 (pc' := 82) C rfl rfl dX13_countTokens_81 rfl ?_
      have o11 := h.1
      replace h := h.2
      refine r_iald (pc' := 83) (k := 98) C (by decide) kc_98 (by have := kl_98; omega) dX13_countTokens_82 rfl (fun f12 => ?_)
      replace h := h f12
      refine r_iconst (pc' := 84) C dX13_countTokens_83 rfl ?_
      refine r_iadd (pc' := 85) C dX13_countTokens_84 rfl ?_
      have o13 := h.1
      replace h := h.2
      refine r_iast (pc' := 86) (k := 98) C (by decide) kc_98 (by have := kl_98; omega) o13 dX13_countTokens_85 rfl ?_
      refine r_aload_n (pc' := 87) C 0 rfl rfl dX13_countTokens_86 rfl ?_
      refine r_getr (pc' := 90) (k := 73) (r := 98) C fl_X13_90 (by decide) kc_73 (by decide) fr_13_37 RV_73_37 dX13_countTokens_87 rfl ?_
      refine r_sipush (pc' := 93) C dX13_countTokens_90 (by decide) rfl ?_
      refine r_aload_n (pc' := 94) C 0 rfl rfl dX13_countTokens_93 rfl ?_
      refine r_getr (pc' := 97) (k := 73) (r := 97) C fl_X13_87 (by decide) kc_73 (by decide) fr_13_36 RV_73_36 dX13_countTokens_94 rfl ?_
      refine r_iload_n (pc' := 98) C 1 rfl rfl dX13_countTokens_97 rfl ?_
      refine r_iald (pc' := 99) (k := 97) C (by decide) kc_97 (by have := kl_97; omega) dX13_countTokens_98 rfl (fun f14 => ?_)
      have ef14 : (up2 av9 98 r7.toNat ((av9 98 r7.toNat) + 1)) 97 x1.toNat = (av9 97 x1.toNat) := by simp [up2]
      rw [ef14] at f14 ⊢
      replace h := h f14
      refine c_Si (pc' := 102) (mt := mX13_distanceSymbol) (as := [.int (i32 (av9 97 x1.toNat))]) (st := [.int (i32 288), .ref (gl_b Y + 98)]) C h rfl cl_X13_distanceSymbol ml_X13_185 sm_X13_distanceSymbol (by omega) (Nat.le_refl _) (Nat.le_refl _) rfl rfl (Nat.le_of_ble_eq_true rfl) dX13_countTokens_99 rfl (fun r15 iv16 av17 f18 h => ?_)
      replace h := h f18
      refine r_iadd (pc' := 103) C dX13_countTokens_102 rfl ?_
      refine r_dup2 (pc' := 104) C rfl rfl dX13_countTokens_103 rfl ?_
      have o19 := h.1
      replace h := h.2
      refine r_iald (pc' := 105) (k := 98) C (by decide) kc_98 (by have := kl_98; omega) dX13_countTokens_104 rfl (fun f20 => ?_)
      replace h := h f20
      refine r_iconst (pc' := 106) C dX13_countTokens_105 rfl ?_
      refine r_iadd (pc' := 107) C dX13_countTokens_106 rfl ?_
      have o21 := h.1
      replace h := h.2
      refine r_iast (pc' := 108) (k := 98) C (by decide) kc_98 (by have := kl_98; omega) o21 dX13_countTokens_107 rfl ?_
      refine r_iinc (pc' := 111) (ls' := [(0, .ref (gl_b Y + 73)), (1, .int (i32 (x1 + 1)))]) C 1 rfl (by decide) rfl dX13_countTokens_108 rfl ?_
      refine r_goto (tgt := 33) C dX13_countTokens_111 (by decide) ?_
      exact Wa.sub [0, 1] rfl h
    · replace h := h.2 c5
      refine r_aload_n (pc' := 51) C 0 rfl rfl dX13_countTokens_50 rfl ?_
      refine r_getr (pc' := 54) (k := 73) (r := 98) C fl_X13_90 (by decide) kc_73 (by decide) fr_13_37 RV_73_37 dX13_countTokens_51 rfl ?_
      refine r_aload_n (pc' := 55) C 0 rfl rfl dX13_countTokens_54 rfl ?_
      refine r_getr (pc' := 58) (k := 73) (r := 97) C fl_X13_87 (by decide) kc_73 (by decide) fr_13_36 RV_73_36 dX13_countTokens_55 rfl ?_
      refine r_iload_n (pc' := 59) C 1 rfl rfl dX13_countTokens_58 rfl ?_
      refine r_iald (pc' := 60) (k := 97) C (by decide) kc_97 (by have := kl_97; omega) dX13_countTokens_59 rfl (fun f22 => ?_)
      replace h := h f22
      refine r_dup2 (pc' := 61) C rfl rfl dX13_countTokens_60 rfl ?_
      have o23 := h.1
      replace h := h.2
      refine r_iald (pc' := 62) (k := 98) C (by decide) kc_98 (by have := kl_98; omega) dX13_countTokens_61 rfl (fun f24 => ?_)
      replace h := h f24
      refine r_iconst (pc' := 63) C dX13_countTokens_62 rfl ?_
      refine r_iadd (pc' := 64) C dX13_countTokens_63 rfl ?_
      have o25 := h.1
      replace h := h.2
      refine r_iast (pc' := 65) (k := 98) C (by decide) kc_98 (by have := kl_98; omega) o25 dX13_countTokens_64 rfl ?_
      refine r_goto (tgt := 108) C dX13_countTokens_65 (by decide) ?_
      refine r_iinc (pc' := 111) (ls' := [(0, .ref (gl_b Y + 73)), (1, .int (i32 (x1 + 1)))]) C 1 rfl (by decide) rfl dX13_countTokens_108 rfl ?_
      refine r_goto (tgt := 33) C dX13_countTokens_111 (by decide) ?_
      exact Wa.sub [0, 1] rfl h
set_option maxHeartbeats 4000000 in
set_option maxRecDepth 100000 in
theorem w_X13_countTokens_2 {Y : Gl} {X : Cx} {e : Nat} {P : PN} {x1 : Int} {iv av : IVt} (C : CX Y X RX13 "countTokens" cX13_countTokens 2 none (e + 3) 0 0) (hx1 : InR x1) (h :
    ((339 ≤ x1) →
      L_X13_countTokens_33 Y X P 0 iv (up2 av 98 256 1)
    ) ∧
    ((¬ 339 ≤ x1) →
      (0 ≤ x1 ∧ x1 < 339) ∧
      L_X13_countTokens_2 Y X P (x1 + 1) iv (up2 av 98 x1.toNat 0)
    )) : L_X13_countTokens_2 Y X P x1 iv av := by
  unfold L_X13_countTokens_2
  refine r_iload_n (pc' := 3) C 1 rfl rfl dX13_countTokens_2 rfl ?_
  refine r_sipush (pc' := 6) C dX13_countTokens_3 (by decide) rfl ?_
  refine r_icmp_ge (pc' := 9) (tgt := 22) C hx1 (by decide) dX13_countTokens_6 (by decide) rfl (fun c1 => ?_) (fun c1 => ?_)
  · replace h := h.1 c1
    refine r_aload_n (pc' := 23) C 0 rfl rfl dX13_countTokens_22 rfl ?_
    refine r_getr (pc' := 26) (k := 73) (r := 98) C fl_X13_90 (by decide) kc_73 (by decide) fr_13_37 RV_73_37 dX13_countTokens_23 rfl ?_
    refine r_sipush (pc' := 29) C dX13_countTokens_26 (by decide) rfl ?_
    refine r_iconst (pc' := 30) C dX13_countTokens_29 rfl ?_
    refine r_iast (pc' := 31) (k := 98) C (by decide) kc_98 (by rw [kl_98]; decide) (by decide) dX13_countTokens_30 rfl ?_
    rw [show (256 : Int).toNat = 256 from rfl]
    refine r_iconst (pc' := 32) C dX13_countTokens_31 rfl ?_
    refine r_istore_n (pc' := 33) (ls' := [(0, .ref (gl_b Y + 73)), (1, .int (i32 0))]) C (by decide) rfl rfl dX13_countTokens_32 rfl ?_
    exact Wa.sub [0, 1] rfl h
  · replace h := h.2 c1
    refine r_aload_n (pc' := 10) C 0 rfl rfl dX13_countTokens_9 rfl ?_
    refine r_getr (pc' := 13) (k := 73) (r := 98) C fl_X13_90 (by decide) kc_73 (by decide) fr_13_37 RV_73_37 dX13_countTokens_10 rfl ?_
    refine r_iload_n (pc' := 14) C 1 rfl rfl dX13_countTokens_13 rfl ?_
    refine r_iconst (pc' := 15) C dX13_countTokens_14 rfl ?_
    have o2 := h.1
    replace h := h.2
    refine r_iast (pc' := 16) (k := 98) C (by decide) kc_98 (by have := kl_98; omega) (by decide) dX13_countTokens_15 rfl ?_
    refine r_iinc (pc' := 19) (ls' := [(0, .ref (gl_b Y + 73)), (1, .int (i32 (x1 + 1)))]) C 1 rfl (by decide) rfl dX13_countTokens_16 rfl ?_
    refine r_goto (tgt := 2) C dX13_countTokens_19 (by decide) ?_
    exact Wa.sub [0, 1] rfl h
set_option maxHeartbeats 4000000 in
set_option maxRecDepth 100000 in
theorem o_X13_countTokens {Y : Gl} {e : Nat} {P : PN} {iv av : IVt} (h : ∀ X : Cx, CX Y X RX13 "countTokens" cX13_countTokens 2 none (e + 3) 0 0 →
    L_X13_countTokens_2 Y X P 0 iv av) : OkN Y (e + 3) mX13_countTokens [.ref (gl_b Y + 73)] RV iv av 116 P := by
  refine OkW.of rfl (by show _ ≤ 2; exact Nat.le_of_ble_eq_true rfl) fun X C0 hR => ?_
  have C : CX Y X RX13 "countTokens" cX13_countTokens 2 none (e + 3) 0 0 := C0
  replace h := h X C
  show Wa Y X 2 (g_MQ Y X 0 (g_N RV 116 P) 0 0) 0 0 0 [(0, .ref (gl_b Y + 73))] [] RV iv av 116
  refine r_iconst (pc' := 1) C dX13_countTokens_0 rfl ?_
  refine r_istore_n (pc' := 2) (ls' := [(0, .ref (gl_b Y + 73)), (1, .int (i32 0))]) C (by decide) rfl rfl dX13_countTokens_1 rfl ?_
  exact Wa.sub [0, 1] rfl h
def L_X13_rank_5 (Y : Gl) (X : Cx) (P : PN) (x1 : Int) (x2 : Int) (x3 : Int) (x4 : Int) (iv av : IVt) : Prop := Wa Y X 6 (g_MQ Y X 1 (g_N RV 116 P) 0 0) 0 0 5 [(0, .ref (gl_b Y + 73)), (1, .int (i32 x1)), (2, .int (i32 x2)), (3, .int (i32 x3)), (4, .int (i32 x4))] [] RV iv av 116
def L_X13_rank_26 (Y : Gl) (X : Cx) (P : PN) (x1 : Int) (x2 : Int) (x3 : Int) (x4 : Int) (x5 : Int) (iv av : IVt) : Prop := Wa Y X 6 (g_MQ Y X 1 (g_N RV 116 P) 0 0) 0 0 26 [(0, .ref (gl_b Y + 73)), (1, .int (i32 x1)), (2, .int (i32 x2)), (3, .int (i32 x3)), (4, .int (i32 x4)), (5, .int (i32 x5))] [] RV iv av 116
set_option maxHeartbeats 4000000 in
set_option maxRecDepth 100000 in
theorem w_X13_rank_26 {Y : Gl} {X : Cx} {e : Nat} {P : PN} {x1 : Int} {x2 : Int} {x3 : Int} {x4 : Int} {x5 : Int} {iv av : IVt} (C : CX Y X RX13 "rank" cX13_rank 6 (some .int) e 0 0) (hx4 : InR x4) (hx5 : InR x5) (h :
    ((x5 ≤ 0) →
      (0 ≤ x5 ∧ x5 < 288) ∧
      L_X13_rank_5 Y X P x1 x2 (x3 + 1) (x4 + 1) iv (up2 av 101 x5.toNat x4)
    ) ∧
    ((¬ x5 ≤ 0) →
      (0 ≤ (x5 - 1) ∧ (x5 - 1) < 288) ∧
      ((InR (av 101 (x5 - 1).toNat)) →
        (0 ≤ (x1 + (av 101 (x5 - 1).toNat)) ∧ (x1 + (av 101 (x5 - 1).toNat)) < 339) ∧
        ((InR (av 98 (x1 + (av 101 (x5 - 1).toNat)).toNat)) →
          (0 ≤ (x1 + x4) ∧ (x1 + x4) < 339) ∧
          ((InR (av 98 (x1 + x4).toNat)) →
            (((av 98 (x1 + (av 101 (x5 - 1).toNat)).toNat) ≤ (av 98 (x1 + x4).toNat)) →
              (0 ≤ x5 ∧ x5 < 288) ∧
              L_X13_rank_5 Y X P x1 x2 (x3 + 1) (x4 + 1) iv (up2 av 101 x5.toNat x4)
            ) ∧
            ((¬ (av 98 (x1 + (av 101 (x5 - 1).toNat)).toNat) ≤ (av 98 (x1 + x4).toNat)) →
              (0 ≤ x5 ∧ x5 < 288) ∧
              L_X13_rank_26 Y X P x1 x2 x3 x4 (x5 + (-1)) iv (up2 av 101 x5.toNat (av 101 (x5 - 1).toNat))
            )
          )
        )
      )
    )) : L_X13_rank_26 Y X P x1 x2 x3 x4 x5 iv av := by
  unfold L_X13_rank_26
  refine r_iload (pc' := 28) C 5 rfl dX13_rank_26 rfl ?_
  refine r_if_le (pc' := 31) (tgt := 81) C hx5 dX13_rank_28 (by decide) rfl (fun c1 => ?_) (fun c1 => ?_)
  · replace h := h.1 c1
    refine r_aload_n (pc' := 82) C 0 rfl rfl dX13_rank_81 rfl ?_
    refine r_getr (pc' := 85) (k := 73) (r := 101) C fl_X13_99 (by decide) kc_73 (by decide) fr_13_40 RV_73_40 dX13_rank_82 rfl ?_
    refine r_iload (pc' := 87) C 5 rfl dX13_rank_85 rfl ?_
    refine r_iload (pc' := 89) C 4 rfl dX13_rank_87 rfl ?_
    have o2 := h.1
    replace h := h.2
    refine r_iast (pc' := 90) (k := 101) C (by decide) kc_101 (by have := kl_101; omega) hx4 dX13_rank_89 rfl ?_
    refine r_iinc (pc' := 93) (ls' := [(0, .ref (gl_b Y + 73)), (1, .int (i32 x1)), (2, .int (i32 x2)), (3, .int (i32 (x3 + 1))), (4, .int (i32 x4)), (5, .int (i32 x5))]) C 3 rfl (by decide) rfl dX13_rank_90 rfl ?_
    refine r_iinc (pc' := 96) (ls' := [(0, .ref (gl_b Y + 73)), (1, .int (i32 x1)), (2, .int (i32 x2)), (3, .int (i32 (x3 + 1))), (4, .int (i32 (x4 + 1))), (5, .int (i32 x5))]) C 4 rfl (by decide) rfl dX13_rank_93 rfl ?_
    refine r_goto (tgt := 5) C dX13_rank_96 (by decide) ?_
    exact Wa.sub [0, 1, 2, 3, 4] rfl h
  · replace h := h.2 c1
    refine r_aload_n (pc' := 32) C 0 rfl rfl dX13_rank_31 rfl ?_
    refine r_getr (pc' := 35) (k := 73) (r := 98) C fl_X13_90 (by decide) kc_73 (by decide) fr_13_37 RV_73_37 dX13_rank_32 rfl ?_
    refine r_iload_n (pc' := 36) C 1 rfl rfl dX13_rank_35 rfl ?_
    refine r_aload_n (pc' := 37) C 0 rfl rfl dX13_rank_36 rfl ?_
    refine r_getr (pc' := 40) (k := 73) (r := 101) C fl_X13_99 (by decide) kc_73 (by decide) fr_13_40 RV_73_40 dX13_rank_37 rfl ?_
    refine r_iload (pc' := 42) C 5 rfl dX13_rank_40 rfl ?_
    refine r_iconst (pc' := 43) C dX13_rank_42 rfl ?_
    refine r_isub (pc' := 44) C dX13_rank_43 rfl ?_
    have o3 := h.1
    replace h := h.2
    refine r_iald (pc' := 45) (k := 101) C (by decide) kc_101 (by have := kl_101; omega) dX13_rank_44 rfl (fun f4 => ?_)
    replace h := h f4
    refine r_iadd (pc' := 46) C dX13_rank_45 rfl ?_
    have o5 := h.1
    replace h := h.2
    refine r_iald (pc' := 47) (k := 98) C (by decide) kc_98 (by have := kl_98; omega) dX13_rank_46 rfl (fun f6 => ?_)
    replace h := h f6
    refine r_aload_n (pc' := 48) C 0 rfl rfl dX13_rank_47 rfl ?_
    refine r_getr (pc' := 51) (k := 73) (r := 98) C fl_X13_90 (by decide) kc_73 (by decide) fr_13_37 RV_73_37 dX13_rank_48 rfl ?_
    refine r_iload_n (pc' := 52) C 1 rfl rfl dX13_rank_51 rfl ?_
    refine r_iload (pc' := 54) C 4 rfl dX13_rank_52 rfl ?_
    refine r_iadd (pc' := 55) C dX13_rank_54 rfl ?_
    have o7 := h.1
    replace h := h.2
    refine r_iald (pc' := 56) (k := 98) C (by decide) kc_98 (by have := kl_98; omega) dX13_rank_55 rfl (fun f8 => ?_)
    replace h := h f8
    refine r_icmp_le (pc' := 59) (tgt := 81) C f6 f8 dX13_rank_56 (by decide) rfl (fun c9 => ?_) (fun c9 => ?_)
    · replace h := h.1 c9
      refine r_aload_n (pc' := 82) C 0 rfl rfl dX13_rank_81 rfl ?_
      refine r_getr (pc' := 85) (k := 73) (r := 101) C fl_X13_99 (by decide) kc_73 (by decide) fr_13_40 RV_73_40 dX13_rank_82 rfl ?_
      refine r_iload (pc' := 87) C 5 rfl dX13_rank_85 rfl ?_
      refine r_iload (pc' := 89) C 4 rfl dX13_rank_87 rfl ?_
      have o10 := h.1
      replace h := h.2
      refine r_iast (pc' := 90) (k := 101) C (by decide) kc_101 (by have := kl_101; omega) hx4 dX13_rank_89 rfl ?_
      refine r_iinc (pc' := 93) (ls' := [(0, .ref (gl_b Y + 73)), (1, .int (i32 x1)), (2, .int (i32 x2)), (3, .int (i32 (x3 + 1))), (4, .int (i32 x4)), (5, .int (i32 x5))]) C 3 rfl (by decide) rfl dX13_rank_90 rfl ?_
      refine r_iinc (pc' := 96) (ls' := [(0, .ref (gl_b Y + 73)), (1, .int (i32 x1)), (2, .int (i32 x2)), (3, .int (i32 (x3 + 1))), (4, .int (i32 (x4 + 1))), (5, .int (i32 x5))]) C 4 rfl (by decide) rfl dX13_rank_93 rfl ?_
      refine r_goto (tgt := 5) C dX13_rank_96 (by decide) ?_
      exact Wa.sub [0, 1, 2, 3, 4] rfl h
    · replace h := h.2 c9
      refine r_aload_n (pc' := 60) C 0 rfl rfl dX13_rank_59 rfl ?_
      refine r_getr (pc' := 63) (k := 73) (r := 101) C fl_X13_99 (by decide) kc_73 (by decide) fr_13_40 RV_73_40 dX13_rank_60 rfl ?_
      refine r_iload (pc' := 65) C 5 rfl dX13_rank_63 rfl ?_
      refine r_aload_n (pc' := 66) C 0 rfl rfl dX13_rank_65 rfl ?_
      refine r_getr (pc' := 69) (k := 73) (r := 101) C fl_X13_99 (by decide) kc_73 (by decide) fr_13_40 RV_73_40 dX13_rank_66 rfl ?_
      refine r_iload (pc' := 71) C 5 rfl dX13_rank_69 rfl ?_
      refine r_iconst (pc' := 72) C dX13_rank_71 rfl ?_
      refine r_isub (pc' := 73) C dX13_rank_72 rfl ?_
      refine r_iald (pc' := 74) (k := 101) C (by decide) kc_101 (by have := kl_101; omega) dX13_rank_73 rfl (fun f11 => ?_)
      have o12 := h.1
      replace h := h.2
      refine r_iast (pc' := 75) (k := 101) C (by decide) kc_101 (by have := kl_101; omega) f4 dX13_rank_74 rfl ?_
      refine r_iinc (pc' := 78) (ls' := [(0, .ref (gl_b Y + 73)), (1, .int (i32 x1)), (2, .int (i32 x2)), (3, .int (i32 x3)), (4, .int (i32 x4)), (5, .int (i32 (x5 + (-1))))]) C 5 rfl (by decide) rfl dX13_rank_75 rfl ?_
      refine r_goto (tgt := 26) C dX13_rank_78 (by decide) ?_
      exact Wa.sub [0, 1, 2, 3, 4, 5] rfl h
set_option maxHeartbeats 4000000 in
set_option maxRecDepth 100000 in
theorem w_X13_rank_5 {Y : Gl} {X : Cx} {e : Nat} {P : PN} {x1 : Int} {x2 : Int} {x3 : Int} {x4 : Int} {iv av : IVt} (C : CX Y X RX13 "rank" cX13_rank 6 (some .int) e 0 0) (hx2 : InR x2) (hx3 : InR x3) (hx4 : InR x4) (h :
    ((x2 ≤ x4) →
      P x3 iv av
    ) ∧
    ((¬ x2 ≤ x4) →
      (0 ≤ (x1 + x4) ∧ (x1 + x4) < 339) ∧
      ((InR (av 98 (x1 + x4).toNat)) →
        (((av 98 (x1 + x4).toNat) ≤ 0) →
          L_X13_rank_5 Y X P x1 x2 x3 (x4 + 1) iv av
        ) ∧
        ((¬ (av 98 (x1 + x4).toNat) ≤ 0) →
          L_X13_rank_26 Y X P x1 x2 x3 x4 x3 iv av
        )
      )
    )) : L_X13_rank_5 Y X P x1 x2 x3 x4 iv av := by
  unfold L_X13_rank_5
  refine r_iload (pc' := 7) C 4 rfl dX13_rank_5 rfl ?_
  refine r_iload_n (pc' := 8) C 2 rfl rfl dX13_rank_7 rfl ?_
  refine r_icmp_ge (pc' := 11) (tgt := 99) C hx4 hx2 dX13_rank_8 (by decide) rfl (fun c1 => ?_) (fun c1 => ?_)
  · replace h := h.1 c1
    refine r_iload_n (pc' := 100) C 3 rfl rfl dX13_rank_99 rfl ?_
    exact r_iret C hx3 ⟨rfl, rfl, h⟩ dX13_rank_100
  · replace h := h.2 c1
    refine r_aload_n (pc' := 12) C 0 rfl rfl dX13_rank_11 rfl ?_
    refine r_getr (pc' := 15) (k := 73) (r := 98) C fl_X13_90 (by decide) kc_73 (by decide) fr_13_37 RV_73_37 dX13_rank_12 rfl ?_
    refine r_iload_n (pc' := 16) C 1 rfl rfl dX13_rank_15 rfl ?_
    refine r_iload (pc' := 18) C 4 rfl dX13_rank_16 rfl ?_
    refine r_iadd (pc' := 19) C dX13_rank_18 rfl ?_
    have o2 := h.1
    replace h := h.2
    refine r_iald (pc' := 20) (k := 98) C (by decide) kc_98 (by have := kl_98; omega) dX13_rank_19 rfl (fun f3 => ?_)
    replace h := h f3
    refine r_if_le (pc' := 23) (tgt := 93) C f3 dX13_rank_20 (by decide) rfl (fun c4 => ?_) (fun c4 => ?_)
    · replace h := h.1 c4
      refine r_iinc (pc' := 96) (ls' := [(0, .ref (gl_b Y + 73)), (1, .int (i32 x1)), (2, .int (i32 x2)), (3, .int (i32 x3)), (4, .int (i32 (x4 + 1)))]) C 4 rfl (by decide) rfl dX13_rank_93 rfl ?_
      refine r_goto (tgt := 5) C dX13_rank_96 (by decide) ?_
      exact Wa.sub [0, 1, 2, 3, 4] rfl h
    · replace h := h.2 c4
      refine r_iload_n (pc' := 24) C 3 rfl rfl dX13_rank_23 rfl ?_
      refine r_istore (pc' := 26) (ls' := [(0, .ref (gl_b Y + 73)), (1, .int (i32 x1)), (2, .int (i32 x2)), (3, .int (i32 x3)), (4, .int (i32 x4)), (5, .int (i32 x3))]) C (by decide) rfl dX13_rank_24 rfl ?_
      exact Wa.sub [0, 1, 2, 3, 4, 5] rfl h
set_option maxHeartbeats 4000000 in
set_option maxRecDepth 100000 in
theorem o_X13_rank {Y : Gl} {e : Nat} {P : PN} {x1 : Int} {x2 : Int} {iv av : IVt} (h : ∀ X : Cx, CX Y X RX13 "rank" cX13_rank 6 (some .int) e 0 0 →
    L_X13_rank_5 Y X P x1 x2 0 0 iv av) : OkN Y e mX13_rank [.ref (gl_b Y + 73), .int (i32 x1), .int (i32 x2)] RV iv av 116 P := by
  refine OkW.of rfl (by show _ ≤ 6; exact Nat.le_of_ble_eq_true rfl) fun X C0 hR => ?_
  have C : CX Y X RX13 "rank" cX13_rank 6 (some .int) e 0 0 := C0
  replace h := h X C
  show Wa Y X 6 (g_MQ Y X 1 (g_N RV 116 P) 0 0) 0 0 0 [(0, .ref (gl_b Y + 73)), (1, .int (i32 x1)), (2, .int (i32 x2))] [] RV iv av 116
  refine r_iconst (pc' := 1) C dX13_rank_0 rfl ?_
  refine r_istore_n (pc' := 2) (ls' := [(0, .ref (gl_b Y + 73)), (1, .int (i32 x1)), (2, .int (i32 x2)), (3, .int (i32 0))]) C (by decide) rfl rfl dX13_rank_1 rfl ?_
  refine r_iconst (pc' := 3) C dX13_rank_2 rfl ?_
  refine r_istore (pc' := 5) (ls' := [(0, .ref (gl_b Y + 73)), (1, .int (i32 x1)), (2, .int (i32 x2)), (3, .int (i32 0)), (4, .int (i32 0))]) C (by decide) rfl dX13_rank_3 rfl ?_
  exact Wa.sub [0, 1, 2, 3, 4] rfl h
def L_X13_findLengths_11 (Y : Gl) (X : Cx) (P : PN) (x1 : Int) (x2 : Int) (x3 : Int) (x4 : Int) (x5 : Int) (iv av : IVt) : Prop := Wa Y X 12 (g_MQ Y X 0 (g_N RV 116 P) 0 0) 0 0 11 [(0, .ref (gl_b Y + 73)), (1, .int (i32 x1)), (2, .int (i32 x2)), (3, .int (i32 x3)), (4, .int (i32 x4)), (5, .int (i32 x5))] [] RV iv av 116
def L_X13_findLengths_59 (Y : Gl) (X : Cx) (P : PN) (x1 : Int) (x3 : Int) (x4 : Int) (x5 : Int) (x6 : Int) (iv av : IVt) : Prop := Wa Y X 12 (g_MQ Y X 0 (g_N RV 116 P) 0 0) 0 0 59 [(0, .ref (gl_b Y + 73)), (1, .int (i32 x1)), (3, .int (i32 x3)), (4, .int (i32 x4)), (5, .int (i32 x5)), (6, .int (i32 x6))] [] RV iv av 116
def L_X13_findLengths_86 (Y : Gl) (X : Cx) (P : PN) (x1 : Int) (x3 : Int) (x4 : Int) (x5 : Int) (x6 : Int) (x7 : Int) (x8 : Int) (x9 : Int) (iv av : IVt) : Prop := Wa Y X 12 (g_MQ Y X 0 (g_N RV 116 P) 0 0) 0 0 86 [(0, .ref (gl_b Y + 73)), (1, .int (i32 x1)), (3, .int (i32 x3)), (4, .int (i32 x4)), (5, .int (i32 x5)), (6, .int (i32 x6)), (7, .int (i32 x7)), (8, .int (i32 x8)), (9, .int (i32 x9))] [] RV iv av 116
def L_X13_findLengths_134 (Y : Gl) (X : Cx) (P : PN) (x1 : Int) (x3 : Int) (x4 : Int) (x5 : Int) (x6 : Int) (x7 : Int) (x8 : Int) (x9 : Int) (x10 : Int) (iv av : IVt) : Prop := Wa Y X 12 (g_MQ Y X 0 (g_N RV 116 P) 0 0) 0 0 134 [(0, .ref (gl_b Y + 73)), (1, .int (i32 x1)), (3, .int (i32 x3)), (4, .int (i32 x4)), (5, .int (i32 x5)), (6, .int (i32 x6)), (7, .int (i32 x7)), (8, .int (i32 x8)), (9, .int (i32 x9)), (10, .int (i32 x10))] [] RV iv av 116
def L_X13_findLengths_167 (Y : Gl) (X : Cx) (P : PN) (x1 : Int) (x3 : Int) (x4 : Int) (x5 : Int) (x6 : Int) (x7 : Int) (x8 : Int) (x9 : Int) (x10 : Int) (iv av : IVt) : Prop := Wa Y X 12 (g_MQ Y X 0 (g_N RV 116 P) 0 0) 0 0 167 [(0, .ref (gl_b Y + 73)), (1, .int (i32 x1)), (3, .int (i32 x3)), (4, .int (i32 x4)), (5, .int (i32 x5)), (6, .int (i32 x6)), (7, .int (i32 x7)), (8, .int (i32 x8)), (9, .int (i32 x9)), (10, .int (i32 x10))] [] RV iv av 116
def L_X13_findLengths_171 (Y : Gl) (X : Cx) (P : PN) (x1 : Int) (x3 : Int) (x4 : Int) (x5 : Int) (x6 : Int) (x7 : Int) (x8 : Int) (x9 : Int) (x10 : Int) (iv av : IVt) : Prop := Wa Y X 12 (g_MQ Y X 0 (g_N RV 116 P) 0 0) 0 0 171 [(0, .ref (gl_b Y + 73)), (1, .int (i32 x1)), (3, .int (i32 x3)), (4, .int (i32 x4)), (5, .int (i32 x5)), (6, .int (i32 x6)), (7, .int (i32 x7)), (8, .int (i32 x8)), (9, .int (i32 x9)), (10, .int (i32 x10))] [] RV iv av 116
def L_X13_findLengths_174 (Y : Gl) (X : Cx) (P : PN) (x1 : Int) (x3 : Int) (x4 : Int) (x5 : Int) (x6 : Int) (x7 : Int) (x8 : Int) (x9 : Int) (x10 : Int) (x11 : Int) (iv av : IVt) : Prop := Wa Y X 12 (g_MQ Y X 0 (g_N RV 116 P) 0 0) 0 0 174 [(0, .ref (gl_b Y + 73)), (1, .int (i32 x1)), (3, .int (i32 x3)), (4, .int (i32 x4)), (5, .int (i32 x5)), (6, .int (i32 x6)), (7, .int (i32 x7)), (8, .int (i32 x8)), (9, .int (i32 x9)), (10, .int (i32 x10)), (11, .int (i32 x11))] [] RV iv av 116
def L_X13_findLengths_251 (Y : Gl) (X : Cx) (P : PN) (x1 : Int) (x3 : Int) (x4 : Int) (x5 : Int) (x6 : Int) (x7 : Int) (x8 : Int) (x9 : Int) (x11 : Int) (iv av : IVt) : Prop := Wa Y X 12 (g_MQ Y X 0 (g_N RV 116 P) 0 0) 0 0 251 [(0, .ref (gl_b Y + 73)), (1, .int (i32 x1)), (3, .int (i32 x3)), (4, .int (i32 x4)), (5, .int (i32 x5)), (6, .int (i32 x6)), (7, .int (i32 x7)), (8, .int (i32 x8)), (9, .int (i32 x9)), (11, .int (i32 x11))] [] RV iv av 116
def L_X13_findLengths_267 (Y : Gl) (X : Cx) (P : PN) (x1 : Int) (x3 : Int) (x4 : Int) (x5 : Int) (x6 : Int) (x7 : Int) (x8 : Int) (x9 : Int) (iv av : IVt) : Prop := Wa Y X 12 (g_MQ Y X 0 (g_N RV 116 P) 0 0) 0 0 267 [(0, .ref (gl_b Y + 73)), (1, .int (i32 x1)), (3, .int (i32 x3)), (4, .int (i32 x4)), (5, .int (i32 x5)), (6, .int (i32 x6)), (7, .int (i32 x7)), (8, .int (i32 x8)), (9, .int (i32 x9))] [] RV iv av 116
def L_X13_findLengths_276 (Y : Gl) (X : Cx) (P : PN) (x1 : Int) (x3 : Int) (x4 : Int) (x5 : Int) (x6 : Int) (x10 : Int) (iv av : IVt) : Prop := Wa Y X 12 (g_MQ Y X 0 (g_N RV 116 P) 0 0) 0 0 276 [(0, .ref (gl_b Y + 73)), (1, .int (i32 x1)), (3, .int (i32 x3)), (4, .int (i32 x4)), (5, .int (i32 x5)), (6, .int (i32 x6)), (10, .int (i32 x10))] [] RV iv av 116
def L_X13_findLengths_312 (Y : Gl) (X : Cx) (P : PN) (x1 : Int) (x3 : Int) (x4 : Int) (x6 : Int) (iv av : IVt) : Prop := Wa Y X 12 (g_MQ Y X 0 (g_N RV 116 P) 0 0) 0 0 312 [(0, .ref (gl_b Y + 73)), (1, .int (i32 x1)), (3, .int (i32 x3)), (4, .int (i32 x4)), (6, .int (i32 x6))] [] RV iv av 116
set_option maxHeartbeats 4000000 in
set_option maxRecDepth 100000 in
theorem w_X13_findLengths_312 {Y : Gl} {X : Cx} {e : Nat} {P : PN} {x1 : Int} {x3 : Int} {x4 : Int} {x6 : Int} {iv av : IVt} (C : CX Y X RX13 "findLengths" cX13_findLengths 12 none (e + 17) 0 0) (hx1 : InR x1) (hx4 : InR x4) (hx6 : InR x6) (h :
    (InR ((2 * x4) - 2)) ∧
    ((((2 * x4) - 2) ≤ x6) →
      P 0 iv av
    ) ∧
    ((¬ ((2 * x4) - 2) ≤ x6) →
      ((x4 ≤ 1) →
        P 0 iv av
      ) ∧
      ((¬ x4 ≤ 1) →
        (InR (x3 - 1)) ∧
        OkN Y (e + 16) mX13_takeItem [.ref (gl_b Y + 73), .int (i32 x1), .int (i32 (x3 - 1)), .int (i32 x6)] RV iv av 116 (fun r5 iv6 av7 =>
          L_X13_findLengths_312 Y X P x1 x3 x4 (x6 + 1) iv6 av7
        )
      )
    )) : L_X13_findLengths_312 Y X P x1 x3 x4 x6 iv av := by
  unfold L_X13_findLengths_312
  refine r_iload (pc' := 314) C 4 rfl dX13_findLengths_312 rfl ?_
  refine r_iconst (pc' := 315) C dX13_findLengths_314 rfl ?_
  refine r_iload (pc' := 317) C 3 rfl dX13_findLengths_315 rfl ?_
  refine r_imul (pc' := 318) C dX13_findLengths_317 rfl ?_
  refine r_iconst (pc' := 319) C dX13_findLengths_318 rfl ?_
  refine r_isub (pc' := 320) C dX13_findLengths_319 rfl ?_
  have o1 := h.1
  replace h := h.2
  refine r_icmp_ge (pc' := 323) (tgt := 345) C hx6 o1 dX13_findLengths_320 (by decide) rfl (fun c2 => ?_) (fun c2 => ?_)
  · replace h := h.1 c2
    exact r_vret C ⟨rfl, rfl, h⟩ dX13_findLengths_345
  · replace h := h.2 c2
    refine r_iload (pc' := 325) C 3 rfl dX13_findLengths_323 rfl ?_
    refine r_iconst (pc' := 326) C dX13_findLengths_325 rfl ?_
    refine r_icmp_le (pc' := 329) (tgt := 345) C hx4 (by decide) dX13_findLengths_326 (by decide) rfl (fun c3 => ?_) (fun c3 => ?_)
    · replace h := h.1 c3
      exact r_vret C ⟨rfl, rfl, h⟩ dX13_findLengths_345
    · replace h := h.2 c3
      refine r_aload_n (pc' := 330) C 0 rfl rfl dX13_findLengths_329 rfl ?_
      refine r_iload_n (pc' := 331) C 1 rfl rfl dX13_findLengths_330 rfl ?_
      refine r_iload_n (pc' := 332) C 2 rfl rfl dX13_findLengths_331 rfl ?_
      refine r_iconst (pc' := 333) C dX13_findLengths_332 rfl ?_
      refine r_isub (pc' := 334) C dX13_findLengths_333 rfl ?_
      refine r_iload (pc' := 336) C 4 rfl dX13_findLengths_334 rfl ?_
      have o4 := h.1
      replace h := h.2
      refine c_Vv (pc' := 339) (mt := mX13_takeItem) (as := [.int (i32 x1), .int (i32 (x3 - 1)), .int (i32 x6)]) (st := []) (k := 73) C h rfl cl_X13_takeItem ml_X13_191 im_X13_takeItem sl_X13_takeItem (by omega) (Nat.le_refl _) (Nat.le_refl _) rfl (by decide) kc_73 (by decide) rfl rfl rfl (Nat.le_of_ble_eq_true rfl) dX13_findLengths_336 rfl (fun r5 iv6 av7 h => ?_)
      refine r_iinc (pc' := 342) (ls' := [(0, .ref (gl_b Y + 73)), (1, .int (i32 x1)), (3, .int (i32 x3)), (4, .int (i32 x4)), (6, .int (i32 (x6 + 1)))]) C 4 rfl (by decide) rfl dX13_findLengths_339 rfl ?_
      refine r_goto (tgt := 312) C dX13_findLengths_342 (by decide) ?_
      exact Wa.sub [0, 1, 2, 3, 4] rfl h
set_option maxHeartbeats 4000000 in
set_option maxRecDepth 100000 in
theorem w_X13_findLengths_276 {Y : Gl} {X : Cx} {e : Nat} {P : PN} {x1 : Int} {x3 : Int} {x4 : Int} {x5 : Int} {x6 : Int} {x10 : Int} {iv av : IVt} (C : CX Y X RX13 "findLengths" cX13_findLengths 12 none (e + 17) 0 0) (hx5 : InR x5) (hx10 : InR x10) (h :
    ((x5 ≤ x10) →
      L_X13_findLengths_59 Y X P x1 x3 x4 x5 (x6 + 1) iv av
    ) ∧
    ((¬ x5 ≤ x10) →
      (0 ≤ x10 ∧ x10 < 600) ∧
      ((InR (av 102 x10.toNat)) →
        L_X13_findLengths_276 Y X P x1 x3 x4 x5 x6 (x10 + 1) iv (up2 av 103 x10.toNat (av 102 x10.toNat))
      )
    )) : L_X13_findLengths_276 Y X P x1 x3 x4 x5 x6 x10 iv av := by
  unfold L_X13_findLengths_276
  refine r_iload (pc' := 278) C 6 rfl dX13_findLengths_276 rfl ?_
  refine r_iload (pc' := 280) C 4 rfl dX13_findLengths_278 rfl ?_
  refine r_icmp_ge (pc' := 283) (tgt := 303) C hx10 hx5 dX13_findLengths_280 (by decide) rfl (fun c1 => ?_) (fun c1 => ?_)
  · replace h := h.1 c1
    refine r_iinc (pc' := 306) (ls' := [(0, .ref (gl_b Y + 73)), (1, .int (i32 x1)), (3, .int (i32 x3)), (4, .int (i32 x4)), (5, .int (i32 x5)), (6, .int (i32 (x6 + 1))), (10, .int (i32 x10))]) C 5 rfl (by decide) rfl dX13_findLengths_303 rfl ?_
    refine r_goto (tgt := 59) C dX13_findLengths_306 (by decide) ?_
    exact Wa.sub [0, 1, 2, 3, 4, 5] rfl h
  · replace h := h.2 c1
    refine r_aload_n (pc' := 284) C 0 rfl rfl dX13_findLengths_283 rfl ?_
    refine r_getr (pc' := 287) (k := 73) (r := 103) C fl_X13_105 (by decide) kc_73 (by decide) fr_13_42 RV_73_42 dX13_findLengths_284 rfl ?_
    refine r_iload (pc' := 289) C 6 rfl dX13_findLengths_287 rfl ?_
    refine r_aload_n (pc' := 290) C 0 rfl rfl dX13_findLengths_289 rfl ?_
    refine r_getr (pc' := 293) (k := 73) (r := 102) C fl_X13_102 (by decide) kc_73 (by decide) fr_13_41 RV_73_41 dX13_findLengths_290 rfl ?_
    refine r_iload (pc' := 295) C 6 rfl dX13_findLengths_293 rfl ?_
    have o2 := h.1
    replace h := h.2
    refine r_iald (pc' := 296) (k := 102) C (by decide) kc_102 (by have := kl_102; omega) dX13_findLengths_295 rfl (fun f3 => ?_)
    replace h := h f3
    refine r_iast (pc' := 297) (k := 103) C (by decide) kc_103 (by have := kl_103; omega) f3 dX13_findLengths_296 rfl ?_
    refine r_iinc (pc' := 300) (ls' := [(0, .ref (gl_b Y + 73)), (1, .int (i32 x1)), (3, .int (i32 x3)), (4, .int (i32 x4)), (5, .int (i32 x5)), (6, .int (i32 x6)), (10, .int (i32 (x10 + 1)))]) C 6 rfl (by decide) rfl dX13_findLengths_297 rfl ?_
    refine r_goto (tgt := 276) C dX13_findLengths_300 (by decide) ?_
    exact Wa.sub [0, 1, 2, 3, 4, 5, 6] rfl h
set_option maxHeartbeats 4000000 in
set_option maxRecDepth 100000 in
theorem w_X13_findLengths_267 {Y : Gl} {X : Cx} {e : Nat} {P : PN} {x1 : Int} {x3 : Int} {x4 : Int} {x5 : Int} {x6 : Int} {x7 : Int} {x8 : Int} {x9 : Int} {iv av : IVt} (C : CX Y X RX13 "findLengths" cX13_findLengths 12 none (e + 17) 0 0) (h :
    L_X13_findLengths_86 Y X P x1 x3 x4 (x5 + 1) x6 x7 x8 x9 iv av) : L_X13_findLengths_267 Y X P x1 x3 x4 x5 x6 x7 x8 x9 iv av := by
  unfold L_X13_findLengths_267
  refine r_iinc (pc' := 270) (ls' := [(0, .ref (gl_b Y + 73)), (1, .int (i32 x1)), (3, .int (i32 x3)), (4, .int (i32 x4)), (5, .int (i32 (x5 + 1))), (6, .int (i32 x6)), (7, .int (i32 x7)), (8, .int (i32 x8)), (9, .int (i32 x9))]) C 4 rfl (by decide) rfl dX13_findLengths_267 rfl ?_
  refine r_goto (tgt := 86) C dX13_findLengths_270 (by decide) ?_
  exact Wa.sub [0, 1, 2, 3, 4, 5, 6, 7, 8] rfl h
set_option maxHeartbeats 4000000 in
set_option maxRecDepth 100000 in
theorem w_X13_findLengths_251 {Y : Gl} {X : Cx} {e : Nat} {P : PN} {x1 : Int} {x3 : Int} {x4 : Int} {x5 : Int} {x6 : Int} {x7 : Int} {x8 : Int} {x9 : Int} {x11 : Int} {iv av : IVt} (C : CX Y X RX13 "findLengths" cX13_findLengths 12 none (e + 17) 0 0) (hx11 : InR x11) (h :
    ((x11 = 0) →
      L_X13_findLengths_267 Y X P x1 x3 x4 x5 x6 x7 x8 (x9 + 1) iv av
    ) ∧
    ((¬ x11 = 0) →
      L_X13_findLengths_267 Y X P x1 x3 x4 x5 x6 x7 x8 x9 iv av
    )) : L_X13_findLengths_251 Y X P x1 x3 x4 x5 x6 x7 x8 x9 x11 iv av := by
  unfold L_X13_findLengths_251
  refine r_iload (pc' := 253) C 9 rfl dX13_findLengths_251 rfl ?_
  refine r_if_eq (pc' := 256) (tgt := 261) C hx11 dX13_findLengths_253 (by decide) rfl (fun c1 => ?_) (fun c1 => ?_)
  · replace h := h.1 c1
    refine r_iload (pc' := 263) C 8 rfl dX13_findLengths_261 rfl ?_
    refine r_iconst (pc' := 264) C dX13_findLengths_263 rfl ?_
    refine r_iadd (pc' := 265) C dX13_findLengths_264 rfl ?_
    refine r_istore (pc' := 267) (ls' := [(0, .ref (gl_b Y + 73)), (1, .int (i32 x1)), (3, .int (i32 x3)), (4, .int (i32 x4)), (5, .int (i32 x5)), (6, .int (i32 x6)), (7, .int (i32 x7)), (8, .int (i32 x8)), (9, .int (i32 (x9 + 1))), (11, .int (i32 x11))]) C (by decide) rfl dX13_findLengths_265 rfl ?_
    exact Wa.sub [0, 1, 2, 3, 4, 5, 6, 7, 8] rfl h
  · replace h := h.2 c1
    refine r_iload (pc' := 258) C 8 rfl dX13_findLengths_256 rfl ?_
    refine r_goto (tgt := 265) C dX13_findLengths_258 (by decide) ?_
    refine r_istore (pc' := 267) (ls' := [(0, .ref (gl_b Y + 73)), (1, .int (i32 x1)), (3, .int (i32 x3)), (4, .int (i32 x4)), (5, .int (i32 x5)), (6, .int (i32 x6)), (7, .int (i32 x7)), (8, .int (i32 x8)), (9, .int (i32 x9)), (11, .int (i32 x11))]) C (by decide) rfl dX13_findLengths_265 rfl ?_
    exact Wa.sub [0, 1, 2, 3, 4, 5, 6, 7, 8] rfl h
set_option maxHeartbeats 4000000 in
set_option maxRecDepth 100000 in
theorem w_X13_findLengths_174 {Y : Gl} {X : Cx} {e : Nat} {P : PN} {x1 : Int} {x3 : Int} {x4 : Int} {x5 : Int} {x6 : Int} {x7 : Int} {x8 : Int} {x9 : Int} {x10 : Int} {x11 : Int} {iv av : IVt} (C : CX Y X RX13 "findLengths" cX13_findLengths 12 none (e + 17) 0 0) (hx8 : InR x8) (hx10 : InR x10) (hx11 : InR x11) (h :
    ((x11 = 0) →
      (0 ≤ x5 ∧ x5 < 600) ∧
      ((x11 = 0) →
        (0 ≤ ((600 * x6) + x5) ∧ ((600 * x6) + x5) < 9000) ∧
        (InR ((-1) - (2 * x9))) ∧
        ((x11 = 0) →
          L_X13_findLengths_251 Y X P x1 x3 x4 x5 x6 x7 x8 x9 x11 iv (up2 (up2 av 102 x5.toNat x10) 104 (((600 * x6) + x5).toNat) ((-1) - (2 * x9)))
        ) ∧
        ((¬ x11 = 0) →
          L_X13_findLengths_251 Y X P x1 x3 x4 x5 x6 x7 (x8 + 1) x9 x11 iv (up2 (up2 av 102 x5.toNat x10) 104 (((600 * x6) + x5).toNat) ((-1) - (2 * x9)))
        )
      ) ∧
      ((¬ x11 = 0) →
        (0 ≤ ((600 * x6) + x5) ∧ ((600 * x6) + x5) < 9000) ∧
        ((x11 = 0) →
          L_X13_findLengths_251 Y X P x1 x3 x4 x5 x6 x7 x8 x9 x11 iv (up2 (up2 av 102 x5.toNat x10) 104 (((600 * x6) + x5).toNat) x8)
        ) ∧
        ((¬ x11 = 0) →
          L_X13_findLengths_251 Y X P x1 x3 x4 x5 x6 x7 (x8 + 1) x9 x11 iv (up2 (up2 av 102 x5.toNat x10) 104 (((600 * x6) + x5).toNat) x8)
        )
      )
    ) ∧
    ((¬ x11 = 0) →
      (0 ≤ x8 ∧ x8 < 288) ∧
      ((InR (av 101 x8.toNat)) →
        (0 ≤ (x1 + (av 101 x8.toNat)) ∧ (x1 + (av 101 x8.toNat)) < 339) ∧
        ((InR (av 98 (x1 + (av 101 x8.toNat)).toNat)) →
          (0 ≤ x5 ∧ x5 < 600) ∧
          ((x11 = 0) →
            (0 ≤ ((600 * x6) + x5) ∧ ((600 * x6) + x5) < 9000) ∧
            (InR ((-1) - (2 * x9))) ∧
            ((x11 = 0) →
              L_X13_findLengths_251 Y X P x1 x3 x4 x5 x6 x7 x8 x9 x11 iv (up2 (up2 av 102 x5.toNat (av 98 (x1 + (av 101 x8.toNat)).toNat)) 104 (((600 * x6) + x5).toNat) ((-1) - (2 * x9)))
            ) ∧
            ((¬ x11 = 0) →
              L_X13_findLengths_251 Y X P x1 x3 x4 x5 x6 x7 (x8 + 1) x9 x11 iv (up2 (up2 av 102 x5.toNat (av 98 (x1 + (av 101 x8.toNat)).toNat)) 104 (((600 * x6) + x5).toNat) ((-1) - (2 * x9)))
            )
          ) ∧
          ((¬ x11 = 0) →
            (0 ≤ ((600 * x6) + x5) ∧ ((600 * x6) + x5) < 9000) ∧
            ((x11 = 0) →
              L_X13_findLengths_251 Y X P x1 x3 x4 x5 x6 x7 x8 x9 x11 iv (up2 (up2 av 102 x5.toNat (av 98 (x1 + (av 101 x8.toNat)).toNat)) 104 (((600 * x6) + x5).toNat) x8)
            ) ∧
            ((¬ x11 = 0) →
              L_X13_findLengths_251 Y X P x1 x3 x4 x5 x6 x7 (x8 + 1) x9 x11 iv (up2 (up2 av 102 x5.toNat (av 98 (x1 + (av 101 x8.toNat)).toNat)) 104 (((600 * x6) + x5).toNat) x8)
            )
          )
        )
      )
    )) : L_X13_findLengths_174 Y X P x1 x3 x4 x5 x6 x7 x8 x9 x10 x11 iv av := by
  unfold L_X13_findLengths_174
  refine r_aload_n (pc' := 175) C 0 rfl rfl dX13_findLengths_174 rfl ?_
  refine r_getr (pc' := 178) (k := 73) (r := 102) C fl_X13_102 (by decide) kc_73 (by decide) fr_13_41 RV_73_41 dX13_findLengths_175 rfl ?_
  refine r_iload (pc' := 180) C 4 rfl dX13_findLengths_178 rfl ?_
  refine r_iload (pc' := 182) C 10 rfl dX13_findLengths_180 rfl ?_
  refine r_if_eq (pc' := 185) (tgt := 202) C hx11 dX13_findLengths_182 (by decide) rfl (fun c1 => ?_) (fun c1 => ?_)
  · replace h := h.1 c1
    refine r_iload (pc' := 204) C 9 rfl dX13_findLengths_202 rfl ?_
    have o2 := h.1
    replace h := h.2
    refine r_iast (pc' := 205) (k := 102) C (by decide) kc_102 (by have := kl_102; omega) hx10 dX13_findLengths_204 rfl ?_
    refine r_aload_n (pc' := 206) C 0 rfl rfl dX13_findLengths_205 rfl ?_
    refine r_getr (pc' := 209) (k := 73) (r := 104) C fl_X13_108 (by decide) kc_73 (by decide) fr_13_43 RV_73_43 dX13_findLengths_206 rfl ?_
    refine r_sipush (pc' := 212) C dX13_findLengths_209 (by decide) rfl ?_
    refine r_iload (pc' := 214) C 5 rfl dX13_findLengths_212 rfl ?_
    refine r_imul (pc' := 215) C dX13_findLengths_214 rfl ?_
    refine r_iload (pc' := 217) C 4 rfl dX13_findLengths_215 rfl ?_
    refine r_iadd (pc' := 218) C dX13_findLengths_217 rfl ?_
    refine r_iload (pc' := 220) C 10 rfl dX13_findLengths_218 rfl ?_
    refine r_if_eq (pc' := 223) (tgt := 228) C hx11 dX13_findLengths_220 (by decide) rfl (fun c3 => ?_) (fun c3 => ?_)
    · replace h := h.1 c3
      refine r_iconst (pc' := 229) C dX13_findLengths_228 rfl ?_
      refine r_iconst (pc' := 230) C dX13_findLengths_229 rfl ?_
      refine r_iload (pc' := 232) C 8 rfl dX13_findLengths_230 rfl ?_
      refine r_imul (pc' := 233) C dX13_findLengths_232 rfl ?_
      refine r_isub (pc' := 234) C dX13_findLengths_233 rfl ?_
      have o4 := h.1
      replace h := h.2
      have o5 := h.1
      replace h := h.2
      refine r_iast (pc' := 235) (k := 104) C (by decide) kc_104 (by have := kl_104; omega) o5 dX13_findLengths_234 rfl ?_
      refine r_iload (pc' := 237) C 10 rfl dX13_findLengths_235 rfl ?_
      refine r_if_eq (pc' := 240) (tgt := 247) C hx11 dX13_findLengths_237 (by decide) rfl (fun c6 => ?_) (fun c6 => ?_)
      · replace h := h.1 c6
        refine r_iload (pc' := 249) C 7 rfl dX13_findLengths_247 rfl ?_
        refine r_istore (pc' := 251) (ls' := [(0, .ref (gl_b Y + 73)), (1, .int (i32 x1)), (3, .int (i32 x3)), (4, .int (i32 x4)), (5, .int (i32 x5)), (6, .int (i32 x6)), (7, .int (i32 x7)), (8, .int (i32 x8)), (9, .int (i32 x9)), (10, .int (i32 x10)), (11, .int (i32 x11))]) C (by decide) rfl dX13_findLengths_249 rfl ?_
        exact Wa.sub [0, 1, 2, 3, 4, 5, 6, 7, 8, 10] rfl h
      · replace h := h.2 c6
        refine r_iload (pc' := 242) C 7 rfl dX13_findLengths_240 rfl ?_
        refine r_iconst (pc' := 243) C dX13_findLengths_242 rfl ?_
        refine r_iadd (pc' := 244) C dX13_findLengths_243 rfl ?_
        refine r_goto (tgt := 249) C dX13_findLengths_244 (by decide) ?_
        refine r_istore (pc' := 251) (ls' := [(0, .ref (gl_b Y + 73)), (1, .int (i32 x1)), (3, .int (i32 x3)), (4, .int (i32 x4)), (5, .int (i32 x5)), (6, .int (i32 x6)), (7, .int (i32 x7)), (8, .int (i32 (x8 + 1))), (9, .int (i32 x9)), (10, .int (i32 x10)), (11, .int (i32 x11))]) C (by decide) rfl dX13_findLengths_249 rfl ?_
        exact Wa.sub [0, 1, 2, 3, 4, 5, 6, 7, 8, 10] rfl h
    · replace h := h.2 c3
      refine r_iload (pc' := 225) C 7 rfl dX13_findLengths_223 rfl ?_
      refine r_goto (tgt := 234) C dX13_findLengths_225 (by decide) ?_
      have o7 := h.1
      replace h := h.2
      refine r_iast (pc' := 235) (k := 104) C (by decide) kc_104 (by have := kl_104; omega) hx8 dX13_findLengths_234 rfl ?_
      refine r_iload (pc' := 237) C 10 rfl dX13_findLengths_235 rfl ?_
      refine r_if_eq (pc' := 240) (tgt := 247) C hx11 dX13_findLengths_237 (by decide) rfl (fun c8 => ?_) (fun c8 => ?_)
      · replace h := h.1 c8
        refine r_iload (pc' := 249) C 7 rfl dX13_findLengths_247 rfl ?_
        refine r_istore (pc' := 251) (ls' := [(0, .ref (gl_b Y + 73)), (1, .int (i32 x1)), (3, .int (i32 x3)), (4, .int (i32 x4)), (5, .int (i32 x5)), (6, .int (i32 x6)), (7, .int (i32 x7)), (8, .int (i32 x8)), (9, .int (i32 x9)), (10, .int (i32 x10)), (11, .int (i32 x11))]) C (by decide) rfl dX13_findLengths_249 rfl ?_
        exact Wa.sub [0, 1, 2, 3, 4, 5, 6, 7, 8, 10] rfl h
      · replace h := h.2 c8
        refine r_iload (pc' := 242) C 7 rfl dX13_findLengths_240 rfl ?_
        refine r_iconst (pc' := 243) C dX13_findLengths_242 rfl ?_
        refine r_iadd (pc' := 244) C dX13_findLengths_243 rfl ?_
        refine r_goto (tgt := 249) C dX13_findLengths_244 (by decide) ?_
        refine r_istore (pc' := 251) (ls' := [(0, .ref (gl_b Y + 73)), (1, .int (i32 x1)), (3, .int (i32 x3)), (4, .int (i32 x4)), (5, .int (i32 x5)), (6, .int (i32 x6)), (7, .int (i32 x7)), (8, .int (i32 (x8 + 1))), (9, .int (i32 x9)), (10, .int (i32 x10)), (11, .int (i32 x11))]) C (by decide) rfl dX13_findLengths_249 rfl ?_
        exact Wa.sub [0, 1, 2, 3, 4, 5, 6, 7, 8, 10] rfl h
  · replace h := h.2 c1
    refine r_aload_n (pc' := 186) C 0 rfl rfl dX13_findLengths_185 rfl ?_
    refine r_getr (pc' := 189) (k := 73) (r := 98) C fl_X13_90 (by decide) kc_73 (by decide) fr_13_37 RV_73_37 dX13_findLengths_186 rfl ?_
    refine r_iload_n (pc' := 190) C 1 rfl rfl dX13_findLengths_189 rfl ?_
    refine r_aload_n (pc' := 191) C 0 rfl rfl dX13_findLengths_190 rfl ?_
    refine r_getr (pc' := 194) (k := 73) (r := 101) C fl_X13_99 (by decide) kc_73 (by decide) fr_13_40 RV_73_40 dX13_findLengths_191 rfl ?_
    refine r_iload (pc' := 196) C 7 rfl dX13_findLengths_194 rfl ?_
    have o9 := h.1
    replace h := h.2
    refine r_iald (pc' := 197) (k := 101) C (by decide) kc_101 (by have := kl_101; omega) dX13_findLengths_196 rfl (fun f10 => ?_)
    replace h := h f10
    refine r_iadd (pc' := 198) C dX13_findLengths_197 rfl ?_
    have o11 := h.1
    replace h := h.2
    refine r_iald (pc' := 199) (k := 98) C (by decide) kc_98 (by have := kl_98; omega) dX13_findLengths_198 rfl (fun f12 => ?_)
    replace h := h f12
    refine r_goto (tgt := 204) C dX13_findLengths_199 (by decide) ?_
    have o13 := h.1
    replace h := h.2
    refine r_iast (pc' := 205) (k := 102) C (by decide) kc_102 (by have := kl_102; omega) f12 dX13_findLengths_204 rfl ?_
    refine r_aload_n (pc' := 206) C 0 rfl rfl dX13_findLengths_205 rfl ?_
    refine r_getr (pc' := 209) (k := 73) (r := 104) C fl_X13_108 (by decide) kc_73 (by decide) fr_13_43 RV_73_43 dX13_findLengths_206 rfl ?_
    refine r_sipush (pc' := 212) C dX13_findLengths_209 (by decide) rfl ?_
    refine r_iload (pc' := 214) C 5 rfl dX13_findLengths_212 rfl ?_
    refine r_imul (pc' := 215) C dX13_findLengths_214 rfl ?_
    refine r_iload (pc' := 217) C 4 rfl dX13_findLengths_215 rfl ?_
    refine r_iadd (pc' := 218) C dX13_findLengths_217 rfl ?_
    refine r_iload (pc' := 220) C 10 rfl dX13_findLengths_218 rfl ?_
    refine r_if_eq (pc' := 223) (tgt := 228) C hx11 dX13_findLengths_220 (by decide) rfl (fun c14 => ?_) (fun c14 => ?_)
    · replace h := h.1 c14
      refine r_iconst (pc' := 229) C dX13_findLengths_228 rfl ?_
      refine r_iconst (pc' := 230) C dX13_findLengths_229 rfl ?_
      refine r_iload (pc' := 232) C 8 rfl dX13_findLengths_230 rfl ?_
      refine r_imul (pc' := 233) C dX13_findLengths_232 rfl ?_
      refine r_isub (pc' := 234) C dX13_findLengths_233 rfl ?_
      have o15 := h.1
      replace h := h.2
      have o16 := h.1
      replace h := h.2
      refine r_iast (pc' := 235) (k := 104) C (by decide) kc_104 (by have := kl_104; omega) o16 dX13_findLengths_234 rfl ?_
      refine r_iload (pc' := 237) C 10 rfl dX13_findLengths_235 rfl ?_
      refine r_if_eq (pc' := 240) (tgt := 247) C hx11 dX13_findLengths_237 (by decide) rfl (fun c17 => ?_) (fun c17 => ?_)
      · replace h := h.1 c17
        refine r_iload (pc' := 249) C 7 rfl dX13_findLengths_247 rfl ?_
        refine r_istore (pc' := 251) (ls' := [(0, .ref (gl_b Y + 73)), (1, .int (i32 x1)), (3, .int (i32 x3)), (4, .int (i32 x4)), (5, .int (i32 x5)), (6, .int (i32 x6)), (7, .int (i32 x7)), (8, .int (i32 x8)), (9, .int (i32 x9)), (10, .int (i32 x10)), (11, .int (i32 x11))]) C (by decide) rfl dX13_findLengths_249 rfl ?_
        exact Wa.sub [0, 1, 2, 3, 4, 5, 6, 7, 8, 10] rfl h
      · replace h := h.2 c17
        refine r_iload (pc' := 242) C 7 rfl dX13_findLengths_240 rfl ?_
        refine r_iconst (pc' := 243) C dX13_findLengths_242 rfl ?_
        refine r_iadd (pc' := 244) C dX13_findLengths_243 rfl ?_
        refine r_goto (tgt := 249) C dX13_findLengths_244 (by decide) ?_
        refine r_istore (pc' := 251) (ls' := [(0, .ref (gl_b Y + 73)), (1, .int (i32 x1)), (3, .int (i32 x3)), (4, .int (i32 x4)), (5, .int (i32 x5)), (6, .int (i32 x6)), (7, .int (i32 x7)), (8, .int (i32 (x8 + 1))), (9, .int (i32 x9)), (10, .int (i32 x10)), (11, .int (i32 x11))]) C (by decide) rfl dX13_findLengths_249 rfl ?_
        exact Wa.sub [0, 1, 2, 3, 4, 5, 6, 7, 8, 10] rfl h
    · replace h := h.2 c14
      refine r_iload (pc' := 225) C 7 rfl dX13_findLengths_223 rfl ?_
      refine r_goto (tgt := 234) C dX13_findLengths_225 (by decide) ?_
      have o18 := h.1
      replace h := h.2
      refine r_iast (pc' := 235) (k := 104) C (by decide) kc_104 (by have := kl_104; omega) hx8 dX13_findLengths_234 rfl ?_
      refine r_iload (pc' := 237) C 10 rfl dX13_findLengths_235 rfl ?_
      refine r_if_eq (pc' := 240) (tgt := 247) C hx11 dX13_findLengths_237 (by decide) rfl (fun c19 => ?_) (fun c19 => ?_)
      · replace h := h.1 c19
        refine r_iload (pc' := 249) C 7 rfl dX13_findLengths_247 rfl ?_
        refine r_istore (pc' := 251) (ls' := [(0, .ref (gl_b Y + 73)), (1, .int (i32 x1)), (3, .int (i32 x3)), (4, .int (i32 x4)), (5, .int (i32 x5)), (6, .int (i32 x6)), (7, .int (i32 x7)), (8, .int (i32 x8)), (9, .int (i32 x9)), (10, .int (i32 x10)), (11, .int (i32 x11))]) C (by decide) rfl dX13_findLengths_249 rfl ?_
        exact Wa.sub [0, 1, 2, 3, 4, 5, 6, 7, 8, 10] rfl h
      · replace h := h.2 c19
        refine r_iload (pc' := 242) C 7 rfl dX13_findLengths_240 rfl ?_
        refine r_iconst (pc' := 243) C dX13_findLengths_242 rfl ?_
        refine r_iadd (pc' := 244) C dX13_findLengths_243 rfl ?_
        refine r_goto (tgt := 249) C dX13_findLengths_244 (by decide) ?_
        refine r_istore (pc' := 251) (ls' := [(0, .ref (gl_b Y + 73)), (1, .int (i32 x1)), (3, .int (i32 x3)), (4, .int (i32 x4)), (5, .int (i32 x5)), (6, .int (i32 x6)), (7, .int (i32 x7)), (8, .int (i32 (x8 + 1))), (9, .int (i32 x9)), (10, .int (i32 x10)), (11, .int (i32 x11))]) C (by decide) rfl dX13_findLengths_249 rfl ?_
        exact Wa.sub [0, 1, 2, 3, 4, 5, 6, 7, 8, 10] rfl h
set_option maxHeartbeats 4000000 in
set_option maxRecDepth 100000 in
theorem w_X13_findLengths_171 {Y : Gl} {X : Cx} {e : Nat} {P : PN} {x1 : Int} {x3 : Int} {x4 : Int} {x5 : Int} {x6 : Int} {x7 : Int} {x8 : Int} {x9 : Int} {x10 : Int} {iv av : IVt} (C : CX Y X RX13 "findLengths" cX13_findLengths 12 none (e + 17) 0 0) (h :
    L_X13_findLengths_174 Y X P x1 x3 x4 x5 x6 x7 x8 x9 x10 0 iv av) : L_X13_findLengths_171 Y X P x1 x3 x4 x5 x6 x7 x8 x9 x10 iv av := by
  unfold L_X13_findLengths_171
  refine r_iconst (pc' := 172) C dX13_findLengths_171 rfl ?_
  refine r_istore (pc' := 174) (ls' := [(0, .ref (gl_b Y + 73)), (1, .int (i32 x1)), (3, .int (i32 x3)), (4, .int (i32 x4)), (5, .int (i32 x5)), (6, .int (i32 x6)), (7, .int (i32 x7)), (8, .int (i32 x8)), (9, .int (i32 x9)), (10, .int (i32 x10)), (11, .int (i32 0))]) C (by decide) rfl dX13_findLengths_172 rfl ?_
  exact Wa.sub [0, 1, 2, 3, 4, 5, 6, 7, 8, 9, 10] rfl h
set_option maxHeartbeats 4000000 in
set_option maxRecDepth 100000 in
theorem w_X13_findLengths_167 {Y : Gl} {X : Cx} {e : Nat} {P : PN} {x1 : Int} {x3 : Int} {x4 : Int} {x5 : Int} {x6 : Int} {x7 : Int} {x8 : Int} {x9 : Int} {x10 : Int} {iv av : IVt} (C : CX Y X RX13 "findLengths" cX13_findLengths 12 none (e + 17) 0 0) (h :
    L_X13_findLengths_174 Y X P x1 x3 x4 x5 x6 x7 x8 x9 x10 1 iv av) : L_X13_findLengths_167 Y X P x1 x3 x4 x5 x6 x7 x8 x9 x10 iv av := by
  unfold L_X13_findLengths_167
  refine r_iconst (pc' := 168) C dX13_findLengths_167 rfl ?_
  refine r_goto (tgt := 172) C dX13_findLengths_168 (by decide) ?_
  refine r_istore (pc' := 174) (ls' := [(0, .ref (gl_b Y + 73)), (1, .int (i32 x1)), (3, .int (i32 x3)), (4, .int (i32 x4)), (5, .int (i32 x5)), (6, .int (i32 x6)), (7, .int (i32 x7)), (8, .int (i32 x8)), (9, .int (i32 x9)), (10, .int (i32 x10)), (11, .int (i32 1))]) C (by decide) rfl dX13_findLengths_172 rfl ?_
  exact Wa.sub [0, 1, 2, 3, 4, 5, 6, 7, 8, 9, 10] rfl h
set_option maxHeartbeats 4000000 in
set_option maxRecDepth 100000 in
theorem w_X13_findLengths_134 {Y : Gl} {X : Cx} {e : Nat} {P : PN} {x1 : Int} {x3 : Int} {x4 : Int} {x5 : Int} {x6 : Int} {x7 : Int} {x8 : Int} {x9 : Int} {x10 : Int} {iv av : IVt} (C : CX Y X RX13 "findLengths" cX13_findLengths 12 none (e + 17) 0 0) (hx4 : InR x4) (hx7 : InR x7) (hx8 : InR x8) (hx9 : InR x9) (hx10 : InR x10) (h :
    ((x9 = x7) →
      L_X13_findLengths_167 Y X P x1 x3 x4 x5 x6 x7 x8 x9 x10 iv av
    ) ∧
    ((¬ x9 = x7) →
      ((x4 ≤ x8) →
        L_X13_findLengths_171 Y X P x1 x3 x4 x5 x6 x7 x8 x9 x10 iv av
      ) ∧
      ((¬ x4 ≤ x8) →
        (0 ≤ x8 ∧ x8 < 288) ∧
        ((InR (av 101 x8.toNat)) →
          (0 ≤ (x1 + (av 101 x8.toNat)) ∧ (x1 + (av 101 x8.toNat)) < 339) ∧
          ((InR (av 98 (x1 + (av 101 x8.toNat)).toNat)) →
            ((x10 < (av 98 (x1 + (av 101 x8.toNat)).toNat)) →
              L_X13_findLengths_171 Y X P x1 x3 x4 x5 x6 x7 x8 x9 x10 iv av
            ) ∧
            ((¬ x10 < (av 98 (x1 + (av 101 x8.toNat)).toNat)) →
              L_X13_findLengths_167 Y X P x1 x3 x4 x5 x6 x7 x8 x9 x10 iv av
            )
          )
        )
      )
    )) : L_X13_findLengths_134 Y X P x1 x3 x4 x5 x6 x7 x8 x9 x10 iv av := by
  unfold L_X13_findLengths_134
  refine r_iload (pc' := 136) C 8 rfl dX13_findLengths_134 rfl ?_
  refine r_iload (pc' := 138) C 6 rfl dX13_findLengths_136 rfl ?_
  refine r_icmp_eq (pc' := 141) (tgt := 167) C hx9 hx7 dX13_findLengths_138 (by decide) rfl (fun c1 => ?_) (fun c1 => ?_)
  · replace h := h.1 c1
    exact Wa.sub [0, 1, 2, 3, 4, 5, 6, 7, 8, 9] rfl h
  · replace h := h.2 c1
    refine r_iload (pc' := 143) C 7 rfl dX13_findLengths_141 rfl ?_
    refine r_iload (pc' := 145) C 3 rfl dX13_findLengths_143 rfl ?_
    refine r_icmp_ge (pc' := 148) (tgt := 171) C hx8 hx4 dX13_findLengths_145 (by decide) rfl (fun c2 => ?_) (fun c2 => ?_)
    · replace h := h.1 c2
      exact Wa.sub [0, 1, 2, 3, 4, 5, 6, 7, 8, 9] rfl h
    · replace h := h.2 c2
      refine r_aload_n (pc' := 149) C 0 rfl rfl dX13_findLengths_148 rfl ?_
      refine r_getr (pc' := 152) (k := 73) (r := 98) C fl_X13_90 (by decide) kc_73 (by decide) fr_13_37 RV_73_37 dX13_findLengths_149 rfl ?_
      refine r_iload_n (pc' := 153) C 1 rfl rfl dX13_findLengths_152 rfl ?_
      refine r_aload_n (pc' := 154) C 0 rfl rfl dX13_findLengths_153 rfl ?_
      refine r_getr (pc' := 157) (k := 73) (r := 101) C fl_X13_99 (by decide) kc_73 (by decide) fr_13_40 RV_73_40 dX13_findLengths_154 rfl ?_
      refine r_iload (pc' := 159) C 7 rfl dX13_findLengths_157 rfl ?_
      have o3 := h.1
      replace h := h.2
      refine r_iald (pc' := 160) (k := 101) C (by decide) kc_101 (by have := kl_101; omega) dX13_findLengths_159 rfl (fun f4 => ?_)
      replace h := h f4
      refine r_iadd (pc' := 161) C dX13_findLengths_160 rfl ?_
      have o5 := h.1
      replace h := h.2
      refine r_iald (pc' := 162) (k := 98) C (by decide) kc_98 (by have := kl_98; omega) dX13_findLengths_161 rfl (fun f6 => ?_)
      replace h := h f6
      refine r_iload (pc' := 164) C 9 rfl dX13_findLengths_162 rfl ?_
      refine r_icmp_gt (pc' := 167) (tgt := 171) C f6 hx10 dX13_findLengths_164 (by decide) rfl (fun c7 => ?_) (fun c7 => ?_)
      · replace h := h.1 c7
        exact Wa.sub [0, 1, 2, 3, 4, 5, 6, 7, 8, 9] rfl h
      · replace h := h.2 c7
        exact Wa.sub [0, 1, 2, 3, 4, 5, 6, 7, 8, 9] rfl h
set_option maxHeartbeats 4000000 in
set_option maxRecDepth 100000 in
theorem w_X13_findLengths_86 {Y : Gl} {X : Cx} {e : Nat} {P : PN} {x1 : Int} {x3 : Int} {x4 : Int} {x5 : Int} {x6 : Int} {x7 : Int} {x8 : Int} {x9 : Int} {iv av : IVt} (C : CX Y X RX13 "findLengths" cX13_findLengths 12 none (e + 17) 0 0) (hx4 : InR x4) (hx7 : InR x7) (hx8 : InR x8) (hx9 : InR x9) (h :
    ((x8 < x4) →
      ((x7 ≤ x9) →
        L_X13_findLengths_134 Y X P x1 x3 x4 x5 x6 x7 x8 x9 0 iv av
      ) ∧
      ((¬ x7 ≤ x9) →
        (0 ≤ (2 * x9) ∧ (2 * x9) < 600) ∧
        ((InR (av 103 (2 * x9).toNat)) →
          (0 ≤ ((2 * x9) + 1) ∧ ((2 * x9) + 1) < 600) ∧
          ((InR (av 103 ((2 * x9) + 1).toNat)) →
            L_X13_findLengths_134 Y X P x1 x3 x4 x5 x6 x7 x8 x9 ((av 103 (2 * x9).toNat) + (av 103 ((2 * x9) + 1).toNat)) iv av
          )
        )
      )
    ) ∧
    ((¬ x8 < x4) →
      ((x7 ≤ x9) →
        L_X13_findLengths_276 Y X P x1 x3 x4 x5 x6 0 iv av
      ) ∧
      ((¬ x7 ≤ x9) →
        ((x7 ≤ x9) →
          L_X13_findLengths_134 Y X P x1 x3 x4 x5 x6 x7 x8 x9 0 iv av
        ) ∧
        ((¬ x7 ≤ x9) →
          (0 ≤ (2 * x9) ∧ (2 * x9) < 600) ∧
          ((InR (av 103 (2 * x9).toNat)) →
            (0 ≤ ((2 * x9) + 1) ∧ ((2 * x9) + 1) < 600) ∧
            ((InR (av 103 ((2 * x9) + 1).toNat)) →
              L_X13_findLengths_134 Y X P x1 x3 x4 x5 x6 x7 x8 x9 ((av 103 (2 * x9).toNat) + (av 103 ((2 * x9) + 1).toNat)) iv av
            )
          )
        )
      )
    )) : L_X13_findLengths_86 Y X P x1 x3 x4 x5 x6 x7 x8 x9 iv av := by
  unfold L_X13_findLengths_86
  refine r_iload (pc' := 88) C 7 rfl dX13_findLengths_86 rfl ?_
  refine r_iload (pc' := 90) C 3 rfl dX13_findLengths_88 rfl ?_
  refine r_icmp_lt (pc' := 93) (tgt := 100) C hx8 hx4 dX13_findLengths_90 (by decide) rfl (fun c1 => ?_) (fun c1 => ?_)
  · replace h := h.1 c1
    refine r_iload (pc' := 102) C 8 rfl dX13_findLengths_100 rfl ?_
    refine r_iload (pc' := 104) C 6 rfl dX13_findLengths_102 rfl ?_
    refine r_icmp_ge (pc' := 107) (tgt := 131) C hx9 hx7 dX13_findLengths_104 (by decide) rfl (fun c2 => ?_) (fun c2 => ?_)
    · replace h := h.1 c2
      refine r_iconst (pc' := 132) C dX13_findLengths_131 rfl ?_
      refine r_istore (pc' := 134) (ls' := [(0, .ref (gl_b Y + 73)), (1, .int (i32 x1)), (3, .int (i32 x3)), (4, .int (i32 x4)), (5, .int (i32 x5)), (6, .int (i32 x6)), (7, .int (i32 x7)), (8, .int (i32 x8)), (9, .int (i32 x9)), (10, .int (i32 0))]) C (by decide) rfl dX13_findLengths_132 rfl ?_
      exact Wa.sub [0, 1, 2, 3, 4, 5, 6, 7, 8, 9] rfl h
    · replace h := h.2 c2
      refine r_aload_n (pc' := 108) C 0 rfl rfl dX13_findLengths_107 rfl ?_
      refine r_getr (pc' := 111) (k := 73) (r := 103) C fl_X13_105 (by decide) kc_73 (by decide) fr_13_42 RV_73_42 dX13_findLengths_108 rfl ?_
      refine r_iconst (pc' := 112) C dX13_findLengths_111 rfl ?_
      refine r_iload (pc' := 114) C 8 rfl dX13_findLengths_112 rfl ?_
      refine r_imul (pc' := 115) C dX13_findLengths_114 rfl ?_
      have o3 := h.1
      replace h := h.2
      refine r_iald (pc' := 116) (k := 103) C (by decide) kc_103 (by have := kl_103; omega) dX13_findLengths_115 rfl (fun f4 => ?_)
      replace h := h f4
      refine r_aload_n (pc' := 117) C 0 rfl rfl dX13_findLengths_116 rfl ?_
      refine r_getr (pc' := 120) (k := 73) (r := 103) C fl_X13_105 (by decide) kc_73 (by decide) fr_13_42 RV_73_42 dX13_findLengths_117 rfl ?_
      refine r_iconst (pc' := 121) C dX13_findLengths_120 rfl ?_
      refine r_iload (pc' := 123) C 8 rfl dX13_findLengths_121 rfl ?_
      refine r_imul (pc' := 124) C dX13_findLengths_123 rfl ?_
      refine r_iconst (pc' := 125) C dX13_findLengths_124 rfl ?_
      refine r_iadd (pc' := 126) C dX13_findLengths_125 rfl ?_
      have o5 := h.1
      replace h := h.2
      refine r_iald (pc' := 127) (k := 103) C (by decide) kc_103 (by have := kl_103; omega) dX13_findLengths_126 rfl (fun f6 => ?_)
      replace h := h f6
      refine r_iadd (pc' := 128) C dX13_findLengths_127 rfl ?_
      refine r_goto (tgt := 132) C dX13_findLengths_128 (by decide) ?_
      refine r_istore (pc' := 134) (ls' := [(0, .ref (gl_b Y + 73)), (1, .int (i32 x1)), (3, .int (i32 x3)), (4, .int (i32 x4)), (5, .int (i32 x5)), (6, .int (i32 x6)), (7, .int (i32 x7)), (8, .int (i32 x8)), (9, .int (i32 x9)), (10, .int (i32 ((av 103 (2 * x9).toNat) + (av 103 ((2 * x9) + 1).toNat))))]) C (by decide) rfl dX13_findLengths_132 rfl ?_
      exact Wa.sub [0, 1, 2, 3, 4, 5, 6, 7, 8, 9] rfl h
  · replace h := h.2 c1
    refine r_iload (pc' := 95) C 8 rfl dX13_findLengths_93 rfl ?_
    refine r_iload (pc' := 97) C 6 rfl dX13_findLengths_95 rfl ?_
    refine r_icmp_ge (pc' := 100) (tgt := 273) C hx9 hx7 dX13_findLengths_97 (by decide) rfl (fun c7 => ?_) (fun c7 => ?_)
    · replace h := h.1 c7
      refine r_iconst (pc' := 274) C dX13_findLengths_273 rfl ?_
      refine r_istore (pc' := 276) (ls' := [(0, .ref (gl_b Y + 73)), (1, .int (i32 x1)), (3, .int (i32 x3)), (4, .int (i32 x4)), (5, .int (i32 x5)), (6, .int (i32 x6)), (7, .int (i32 x7)), (8, .int (i32 x8)), (9, .int (i32 x9)), (10, .int (i32 0))]) C (by decide) rfl dX13_findLengths_274 rfl ?_
      exact Wa.sub [0, 1, 2, 3, 4, 5, 9] rfl h
    · replace h := h.2 c7
      refine r_iload (pc' := 102) C 8 rfl dX13_findLengths_100 rfl ?_
      refine r_iload (pc' := 104) C 6 rfl dX13_findLengths_102 rfl ?_
      refine r_icmp_ge (pc' := 107) (tgt := 131) C hx9 hx7 dX13_findLengths_104 (by decide) rfl (fun c8 => ?_) (fun c8 => ?_)
      · replace h := h.1 c8
        refine r_iconst (pc' := 132) C dX13_findLengths_131 rfl ?_
        refine r_istore (pc' := 134) (ls' := [(0, .ref (gl_b Y + 73)), (1, .int (i32 x1)), (3, .int (i32 x3)), (4, .int (i32 x4)), (5, .int (i32 x5)), (6, .int (i32 x6)), (7, .int (i32 x7)), (8, .int (i32 x8)), (9, .int (i32 x9)), (10, .int (i32 0))]) C (by decide) rfl dX13_findLengths_132 rfl ?_
        exact Wa.sub [0, 1, 2, 3, 4, 5, 6, 7, 8, 9] rfl h
      · replace h := h.2 c8
        refine r_aload_n (pc' := 108) C 0 rfl rfl dX13_findLengths_107 rfl ?_
        refine r_getr (pc' := 111) (k := 73) (r := 103) C fl_X13_105 (by decide) kc_73 (by decide) fr_13_42 RV_73_42 dX13_findLengths_108 rfl ?_
        refine r_iconst (pc' := 112) C dX13_findLengths_111 rfl ?_
        refine r_iload (pc' := 114) C 8 rfl dX13_findLengths_112 rfl ?_
        refine r_imul (pc' := 115) C dX13_findLengths_114 rfl ?_
        have o9 := h.1
        replace h := h.2
        refine r_iald (pc' := 116) (k := 103) C (by decide) kc_103 (by have := kl_103; omega) dX13_findLengths_115 rfl (fun f10 => ?_)
        replace h := h f10
        refine r_aload_n (pc' := 117) C 0 rfl rfl dX13_findLengths_116 rfl ?_
        refine r_getr (pc' := 120) (k := 73) (r := 103) C fl_X13_105 (by decide) kc_73 (by decide) fr_13_42 RV_73_42 dX13_findLengths_117 rfl ?_
        refine r_iconst (pc' := 121) C dX13_findLengths_120 rfl ?_
        refine r_iload (pc' := 123) C 8 rfl dX13_findLengths_121 rfl ?_
        refine r_imul (pc' := 124) C dX13_findLengths_123 rfl ?_
        refine r_iconst (pc' := 125) C dX13_findLengths_124 rfl ?_
        refine r_iadd (pc' := 126) C dX13_findLengths_125 rfl ?_
        have o11 := h.1
        replace h := h.2
        refine r_iald (pc' := 127) (k := 103) C (by decide) kc_103 (by have := kl_103; omega) dX13_findLengths_126 rfl (fun f12 => ?_)
        replace h := h f12
        refine r_iadd (pc' := 128) C dX13_findLengths_127 rfl ?_
        refine r_goto (tgt := 132) C dX13_findLengths_128 (by decide) ?_
        refine r_istore (pc' := 134) (ls' := [(0, .ref (gl_b Y + 73)), (1, .int (i32 x1)), (3, .int (i32 x3)), (4, .int (i32 x4)), (5, .int (i32 x5)), (6, .int (i32 x6)), (7, .int (i32 x7)), (8, .int (i32 x8)), (9, .int (i32 x9)), (10, .int (i32 ((av 103 (2 * x9).toNat) + (av 103 ((2 * x9) + 1).toNat))))]) C (by decide) rfl dX13_findLengths_132 rfl ?_
        exact Wa.sub [0, 1, 2, 3, 4, 5, 6, 7, 8, 9] rfl h
set_option maxHeartbeats 4000000 in
set_option maxRecDepth 100000 in
theorem w_X13_findLengths_59 {Y : Gl} {X : Cx} {e : Nat} {P : PN} {x1 : Int} {x3 : Int} {x4 : Int} {x5 : Int} {x6 : Int} {iv av : IVt} (C : CX Y X RX13 "findLengths" cX13_findLengths 12 none (e + 17) 0 0) (hx3 : InR x3) (hx4 : InR x4) (hx5 : InR x5) (hx6 : InR x6) (h :
    ((x3 ≤ x6) →
      L_X13_findLengths_312 Y X P x1 x3 x4 0 iv av
    ) ∧
    ((¬ x3 ≤ x6) →
      ((x4 ≤ 1) →
        L_X13_findLengths_312 Y X P x1 x3 x4 0 iv av
      ) ∧
      ((¬ x4 ≤ 1) →
        (0 ≤ x5) ∧
        L_X13_findLengths_86 Y X P x1 x3 x4 0 x6 (x5 / 2) 0 0 iv av
      )
    )) : L_X13_findLengths_59 Y X P x1 x3 x4 x5 x6 iv av := by
  unfold L_X13_findLengths_59
  refine r_iload (pc' := 61) C 5 rfl dX13_findLengths_59 rfl ?_
  refine r_iload_n (pc' := 62) C 2 rfl rfl dX13_findLengths_61 rfl ?_
  refine r_icmp_ge (pc' := 65) (tgt := 309) C hx6 hx3 dX13_findLengths_62 (by decide) rfl (fun c1 => ?_) (fun c1 => ?_)
  · replace h := h.1 c1
    refine r_iconst (pc' := 310) C dX13_findLengths_309 rfl ?_
    refine r_istore (pc' := 312) (ls' := [(0, .ref (gl_b Y + 73)), (1, .int (i32 x1)), (3, .int (i32 x3)), (4, .int (i32 x4)), (5, .int (i32 x5)), (6, .int (i32 0))]) C (by decide) rfl dX13_findLengths_310 rfl ?_
    exact Wa.sub [0, 1, 2, 3, 5] rfl h
  · replace h := h.2 c1
    refine r_iload (pc' := 67) C 3 rfl dX13_findLengths_65 rfl ?_
    refine r_iconst (pc' := 68) C dX13_findLengths_67 rfl ?_
    refine r_icmp_le (pc' := 71) (tgt := 309) C hx4 (by decide) dX13_findLengths_68 (by decide) rfl (fun c2 => ?_) (fun c2 => ?_)
    · replace h := h.1 c2
      refine r_iconst (pc' := 310) C dX13_findLengths_309 rfl ?_
      refine r_istore (pc' := 312) (ls' := [(0, .ref (gl_b Y + 73)), (1, .int (i32 x1)), (3, .int (i32 x3)), (4, .int (i32 x4)), (5, .int (i32 x5)), (6, .int (i32 0))]) C (by decide) rfl dX13_findLengths_310 rfl ?_
      exact Wa.sub [0, 1, 2, 3, 5] rfl h
    · replace h := h.2 c2
      refine r_iload (pc' := 73) C 4 rfl dX13_findLengths_71 rfl ?_
      refine r_iconst (pc' := 74) C dX13_findLengths_73 rfl ?_
      have o3 := h.1
      replace h := h.2
      refine r_idiv (pc' := 75) C ⟨o3, hx5⟩ ⟨(by decide), (by decide)⟩ dX13_findLengths_74 rfl ?_
      refine r_istore (pc' := 77) (ls' := [(0, .ref (gl_b Y + 73)), (1, .int (i32 x1)), (3, .int (i32 x3)), (4, .int (i32 x4)), (5, .int (i32 x5)), (6, .int (i32 x6)), (7, .int (i32 (x5 / 2)))]) C (by decide) rfl dX13_findLengths_75 rfl ?_
      refine r_iconst (pc' := 78) C dX13_findLengths_77 rfl ?_
      refine r_istore (pc' := 80) (ls' := [(0, .ref (gl_b Y + 73)), (1, .int (i32 x1)), (3, .int (i32 x3)), (4, .int (i32 x4)), (5, .int (i32 x5)), (6, .int (i32 x6)), (7, .int (i32 (x5 / 2))), (8, .int (i32 0))]) C (by decide) rfl dX13_findLengths_78 rfl ?_
      refine r_iconst (pc' := 81) C dX13_findLengths_80 rfl ?_
      refine r_istore (pc' := 83) (ls' := [(0, .ref (gl_b Y + 73)), (1, .int (i32 x1)), (3, .int (i32 x3)), (4, .int (i32 x4)), (5, .int (i32 x5)), (6, .int (i32 x6)), (7, .int (i32 (x5 / 2))), (8, .int (i32 0)), (9, .int (i32 0))]) C (by decide) rfl dX13_findLengths_81 rfl ?_
      refine r_iconst (pc' := 84) C dX13_findLengths_83 rfl ?_
      refine r_istore (pc' := 86) (ls' := [(0, .ref (gl_b Y + 73)), (1, .int (i32 x1)), (3, .int (i32 x3)), (4, .int (i32 x4)), (5, .int (i32 0)), (6, .int (i32 x6)), (7, .int (i32 (x5 / 2))), (8, .int (i32 0)), (9, .int (i32 0))]) C (by decide) rfl dX13_findLengths_84 rfl ?_
      exact Wa.sub [0, 1, 2, 3, 4, 5, 6, 7, 8] rfl h
set_option maxHeartbeats 4000000 in
set_option maxRecDepth 100000 in
theorem w_X13_findLengths_11 {Y : Gl} {X : Cx} {e : Nat} {P : PN} {x1 : Int} {x2 : Int} {x3 : Int} {x4 : Int} {x5 : Int} {iv av : IVt} (C : CX Y X RX13 "findLengths" cX13_findLengths 12 none (e + 17) 0 0) (hx2 : InR x2) (hx4 : InR x4) (hx5 : InR x5) (h :
    ((x2 ≤ x5) →
      ((¬ x4 = 1) →
        L_X13_findLengths_59 Y X P x1 x3 x4 0 0 iv av
      ) ∧
      ((x4 = 1) →
        ((InR (av 101 0)) →
          (0 ≤ (x1 + (av 101 0)) ∧ (x1 + (av 101 0)) < 339) ∧
          L_X13_findLengths_59 Y X P x1 x3 x4 0 0 iv (up2 av 99 ((x1 + (av 101 0)).toNat) 1)
        )
      )
    ) ∧
    ((¬ x2 ≤ x5) →
      (0 ≤ (x1 + x5) ∧ (x1 + x5) < 339) ∧
      L_X13_findLengths_11 Y X P x1 x2 x3 x4 (x5 + 1) iv (up2 av 99 ((x1 + x5).toNat) 0)
    )) : L_X13_findLengths_11 Y X P x1 x2 x3 x4 x5 iv av := by
  unfold L_X13_findLengths_11
  refine r_iload (pc' := 13) C 5 rfl dX13_findLengths_11 rfl ?_
  refine r_iload_n (pc' := 14) C 2 rfl rfl dX13_findLengths_13 rfl ?_
  refine r_icmp_ge (pc' := 17) (tgt := 33) C hx5 hx2 dX13_findLengths_14 (by decide) rfl (fun c1 => ?_) (fun c1 => ?_)
  · replace h := h.1 c1
    refine r_iload (pc' := 35) C 4 rfl dX13_findLengths_33 rfl ?_
    refine r_iconst (pc' := 36) C dX13_findLengths_35 rfl ?_
    refine r_icmp_ne (pc' := 39) (tgt := 53) C hx4 (by decide) dX13_findLengths_36 (by decide) rfl (fun c2 => ?_) (fun c2 => ?_)
    · replace h := h.1 c2
      refine r_iconst (pc' := 54) C dX13_findLengths_53 rfl ?_
      refine r_istore (pc' := 56) (ls' := [(0, .ref (gl_b Y + 73)), (1, .int (i32 x1)), (2, .int (i32 x2)), (3, .int (i32 x3)), (4, .int (i32 x4)), (5, .int (i32 0))]) C (by decide) rfl dX13_findLengths_54 rfl ?_
      refine r_iconst (pc' := 57) C dX13_findLengths_56 rfl ?_
      refine r_istore (pc' := 59) (ls' := [(0, .ref (gl_b Y + 73)), (1, .int (i32 x1)), (2, .int (i32 x2)), (3, .int (i32 x3)), (4, .int (i32 x4)), (5, .int (i32 0)), (6, .int (i32 0))]) C (by decide) rfl dX13_findLengths_57 rfl ?_
      exact Wa.sub [0, 1, 3, 4, 5, 6] rfl h
    · replace h := h.2 c2
      refine r_aload_n (pc' := 40) C 0 rfl rfl dX13_findLengths_39 rfl ?_
      refine r_getr (pc' := 43) (k := 73) (r := 99) C fl_X13_93 (by decide) kc_73 (by decide) fr_13_38 RV_73_38 dX13_findLengths_40 rfl ?_
      refine r_iload_n (pc' := 44) C 1 rfl rfl dX13_findLengths_43 rfl ?_
      refine r_aload_n (pc' := 45) C 0 rfl rfl dX13_findLengths_44 rfl ?_
      refine r_getr (pc' := 48) (k := 73) (r := 101) C fl_X13_99 (by decide) kc_73 (by decide) fr_13_40 RV_73_40 dX13_findLengths_45 rfl ?_
      refine r_iconst (pc' := 49) C dX13_findLengths_48 rfl ?_
      refine r_iald (pc' := 50) (k := 101) C (by decide) kc_101 (by rw [kl_101]; decide) dX13_findLengths_49 rfl (fun f3 => ?_)
      replace f3 : InR (av 101 0) := f3
      rw [show (0 : Int).toNat = 0 from rfl]
      replace h := h f3
      refine r_iadd (pc' := 51) C dX13_findLengths_50 rfl ?_
      refine r_iconst (pc' := 52) C dX13_findLengths_51 rfl ?_
      have o4 := h.1
      replace h := h.2
      refine r_iast (pc' := 53) (k := 99) C (by decide) kc_99 (by have := kl_99; omega) (by decide) dX13_findLengths_52 rfl ?_
      refine r_iconst (pc' := 54) C dX13_findLengths_53 rfl ?_
      refine r_istore (pc' := 56) (ls' := [(0, .ref (gl_b Y + 73)), (1, .int (i32 x1)), (2, .int (i32 x2)), (3, .int (i32 x3)), (4, .int (i32 x4)), (5, .int (i32 0))]) C (by decide) rfl dX13_findLengths_54 rfl ?_
      refine r_iconst (pc' := 57) C dX13_findLengths_56 rfl ?_
      refine r_istore (pc' := 59) (ls' := [(0, .ref (gl_b Y + 73)), (1, .int (i32 x1)), (2, .int (i32 x2)), (3, .int (i32 x3)), (4, .int (i32 x4)), (5, .int (i32 0)), (6, .int (i32 0))]) C (by decide) rfl dX13_findLengths_57 rfl ?_
      exact Wa.sub [0, 1, 3, 4, 5, 6] rfl h
  · replace h := h.2 c1
    refine r_aload_n (pc' := 18) C 0 rfl rfl dX13_findLengths_17 rfl ?_
    refine r_getr (pc' := 21) (k := 73) (r := 99) C fl_X13_93 (by decide) kc_73 (by decide) fr_13_38 RV_73_38 dX13_findLengths_18 rfl ?_
    refine r_iload_n (pc' := 22) C 1 rfl rfl dX13_findLengths_21 rfl ?_
    refine r_iload (pc' := 24) C 5 rfl dX13_findLengths_22 rfl ?_
    refine r_iadd (pc' := 25) C dX13_findLengths_24 rfl ?_
    refine r_iconst (pc' := 26) C dX13_findLengths_25 rfl ?_
    have o5 := h.1
    replace h := h.2
    refine r_iast (pc' := 27) (k := 99) C (by decide) kc_99 (by have := kl_99; omega) (by decide) dX13_findLengths_26 rfl ?_
    refine r_iinc (pc' := 30) (ls' := [(0, .ref (gl_b Y + 73)), (1, .int (i32 x1)), (2, .int (i32 x2)), (3, .int (i32 x3)), (4, .int (i32 x4)), (5, .int (i32 (x5 + 1)))]) C 5 rfl (by decide) rfl dX13_findLengths_27 rfl ?_
    refine r_goto (tgt := 11) C dX13_findLengths_30 (by decide) ?_
    exact Wa.sub [0, 1, 2, 3, 4, 5] rfl h
set_option maxHeartbeats 4000000 in
set_option maxRecDepth 100000 in
theorem o_X13_findLengths {Y : Gl} {e : Nat} {P : PN} {x1 : Int} {x2 : Int} {x3 : Int} {iv av : IVt} (hx1 : InR x1) (hx2 : InR x2) (h : ∀ X : Cx, CX Y X RX13 "findLengths" cX13_findLengths 12 none (e + 17) 0 0 →
    OkN Y (e + 16) mX13_rank [.ref (gl_b Y + 73), .int (i32 x1), .int (i32 x2)] RV iv av 116 (fun r1 iv2 av3 =>
      (InR r1) →
      L_X13_findLengths_11 Y X P x1 x2 x3 r1 0 iv2 av3
    )) : OkN Y (e + 17) mX13_findLengths [.ref (gl_b Y + 73), .int (i32 x1), .int (i32 x2), .int (i32 x3)] RV iv av 116 P := by
  refine OkW.of rfl (by show _ ≤ 12; exact Nat.le_of_ble_eq_true rfl) fun X C0 hR => ?_
  have C : CX Y X RX13 "findLengths" cX13_findLengths 12 none (e + 17) 0 0 := C0
  replace h := h X C
  show Wa Y X 12 (g_MQ Y X 0 (g_N RV 116 P) 0 0) 0 0 0 [(0, .ref (gl_b Y + 73)), (1, .int (i32 x1)), (2, .int (i32 x2)), (3, .int (i32 x3))] [] RV iv av 116
  refine r_aload_n (pc' := 1) C 0 rfl rfl dX13_findLengths_0 rfl ?_
  refine r_iload_n (pc' := 2) C 1 rfl rfl dX13_findLengths_1 rfl ?_
  refine r_iload_n (pc' := 3) C 2 rfl rfl dX13_findLengths_2 rfl ?_
  refine c_Vi (pc' := 6) (mt := mX13_rank) (as := [.int (i32 x1), .int (i32 x2)]) (st := []) (k := 73) C h rfl cl_X13_rank ml_X13_188 im_X13_rank sl_X13_rank (by omega) (Nat.le_refl _) (Nat.le_refl _) rfl (by decide) kc_73 (by decide) rfl rfl rfl (Nat.le_of_ble_eq_true rfl) dX13_findLengths_3 rfl (fun r1 iv2 av3 f4 h => ?_)
  replace h := h f4
  refine r_istore (pc' := 8) (ls' := [(0, .ref (gl_b Y + 73)), (1, .int (i32 x1)), (2, .int (i32 x2)), (3, .int (i32 x3)), (4, .int (i32 r1))]) C (by decide) rfl dX13_findLengths_6 rfl ?_
  refine r_iconst (pc' := 9) C dX13_findLengths_8 rfl ?_
  refine r_istore (pc' := 11) (ls' := [(0, .ref (gl_b Y + 73)), (1, .int (i32 x1)), (2, .int (i32 x2)), (3, .int (i32 x3)), (4, .int (i32 r1)), (5, .int (i32 0))]) C (by decide) rfl dX13_findLengths_9 rfl ?_
  exact Wa.sub [0, 1, 2, 3, 4, 5] rfl h
set_option maxHeartbeats 4000000 in
set_option maxRecDepth 100000 in
theorem o_X13_takeItem {Y : Gl} {e : Nat} {P : PN} {x1 : Int} {x2 : Int} {x3 : Int} {iv av : IVt} (hx1 : InR x1) (h : 
    (0 ≤ ((600 * x2) + x3) ∧ ((600 * x2) + x3) < 9000) ∧
    ((InR (av 104 ((600 * x2) + x3).toNat)) →
      (((av 104 ((600 * x2) + x3).toNat) < 0) →
        (InR (x2 - 1)) ∧
        (InR ((-1) - (av 104 ((600 * x2) + x3).toNat))) ∧
        OkN Y e mX13_takeItem [.ref (gl_b Y + 73), .int (i32 x1), .int (i32 (x2 - 1)), .int (i32 ((-1) - (av 104 ((600 * x2) + x3).toNat)))] RV iv av 116 (fun r6 iv7 av8 =>
          (InR (-(av 104 ((600 * x2) + x3).toNat))) ∧
          OkN Y e mX13_takeItem [.ref (gl_b Y + 73), .int (i32 x1), .int (i32 (x2 - 1)), .int (i32 (-(av 104 ((600 * x2) + x3).toNat)))] RV iv7 av8 116 (fun r11 iv12 av13 =>
            P 0 iv12 av13
          )
        )
      ) ∧
      ((¬ (av 104 ((600 * x2) + x3).toNat) < 0) →
        (0 ≤ (av 104 ((600 * x2) + x3).toNat) ∧ (av 104 ((600 * x2) + x3).toNat) < 288) ∧
        ((InR (av 101 (av 104 ((600 * x2) + x3).toNat).toNat)) →
          (0 ≤ (x1 + (av 101 (av 104 ((600 * x2) + x3).toNat).toNat)) ∧ (x1 + (av 101 (av 104 ((600 * x2) + x3).toNat).toNat)) < 339) ∧
          ((InR (av 99 (x1 + (av 101 (av 104 ((600 * x2) + x3).toNat).toNat)).toNat)) →
            (InR ((av 99 (x1 + (av 101 (av 104 ((600 * x2) + x3).toNat).toNat)).toNat) + 1)) ∧
            P 0 iv (up2 av 99 ((x1 + (av 101 (av 104 ((600 * x2) + x3).toNat).toNat)).toNat) ((av 99 (x1 + (av 101 (av 104 ((600 * x2) + x3).toNat).toNat)).toNat) + 1))
          )
        )
      )
    )) : OkN Y (e + 1) mX13_takeItem [.ref (gl_b Y + 73), .int (i32 x1), .int (i32 x2), .int (i32 x3)] RV iv av 116 P := by
  refine OkW.of rfl (by show _ ≤ 5; exact Nat.le_of_ble_eq_true rfl) fun X C0 hR => ?_
  have C : CX Y X RX13 "takeItem" cX13_takeItem 5 none (e + 1) 0 0 := C0
  show Wa Y X 5 (g_MQ Y X 0 (g_N RV 116 P) 0 0) 0 0 0 [(0, .ref (gl_b Y + 73)), (1, .int (i32 x1)), (2, .int (i32 x2)), (3, .int (i32 x3))] [] RV iv av 116
  refine r_aload_n (pc' := 1) C 0 rfl rfl dX13_takeItem_0 rfl ?_
  refine r_getr (pc' := 4) (k := 73) (r := 104) C fl_X13_108 (by decide) kc_73 (by decide) fr_13_43 RV_73_43 dX13_takeItem_1 rfl ?_
  refine r_sipush (pc' := 7) C dX13_takeItem_4 (by decide) rfl ?_
  refine r_iload_n (pc' := 8) C 2 rfl rfl dX13_takeItem_7 rfl ?_
  refine r_imul (pc' := 9) C dX13_takeItem_8 rfl ?_
  refine r_iload_n (pc' := 10) C 3 rfl rfl dX13_takeItem_9 rfl ?_
  refine r_iadd (pc' := 11) C dX13_takeItem_10 rfl ?_
  have o1 := h.1
  replace h := h.2
  refine r_iald (pc' := 12) (k := 104) C (by decide) kc_104 (by have := kl_104; omega) dX13_takeItem_11 rfl (fun f2 => ?_)
  replace h := h f2
  refine r_istore (pc' := 14) (ls' := [(0, .ref (gl_b Y + 73)), (1, .int (i32 x1)), (2, .int (i32 x2)), (3, .int (i32 x3)), (4, .int (i32 (av 104 ((600 * x2) + x3).toNat)))]) C (by decide) rfl dX13_takeItem_12 rfl ?_
  refine r_iload (pc' := 16) C 4 rfl dX13_takeItem_14 rfl ?_
  refine r_if_lt (pc' := 19) (tgt := 40) C f2 dX13_takeItem_16 (by decide) rfl (fun c3 => ?_) (fun c3 => ?_)
  · replace h := h.1 c3
    refine r_aload_n (pc' := 41) C 0 rfl rfl dX13_takeItem_40 rfl ?_
    refine r_iload_n (pc' := 42) C 1 rfl rfl dX13_takeItem_41 rfl ?_
    refine r_iload_n (pc' := 43) C 2 rfl rfl dX13_takeItem_42 rfl ?_
    refine r_iconst (pc' := 44) C dX13_takeItem_43 rfl ?_
    refine r_isub (pc' := 45) C dX13_takeItem_44 rfl ?_
    refine r_iconst (pc' := 46) C dX13_takeItem_45 rfl ?_
    refine r_iload (pc' := 48) C 4 rfl dX13_takeItem_46 rfl ?_
    refine r_isub (pc' := 49) C dX13_takeItem_48 rfl ?_
    have o4 := h.1
    replace h := h.2
    have o5 := h.1
    replace h := h.2
    refine c_Vv (pc' := 52) (mt := mX13_takeItem) (as := [.int (i32 x1), .int (i32 (x2 - 1)), .int (i32 ((-1) - (av 104 ((600 * x2) + x3).toNat)))]) (st := []) (k := 73) C h rfl cl_X13_takeItem ml_X13_191 im_X13_takeItem sl_X13_takeItem (by omega) (Nat.le_refl _) (Nat.le_refl _) rfl (by decide) kc_73 (by decide) rfl rfl rfl (Nat.le_of_ble_eq_true rfl) dX13_takeItem_49 rfl (fun r6 iv7 av8 h => ?_)
    refine r_aload_n (pc' := 53) C 0 rfl rfl dX13_takeItem_52 rfl ?_
    refine r_iload_n (pc' := 54) C 1 rfl rfl dX13_takeItem_53 rfl ?_
    refine r_iload_n (pc' := 55) C 2 rfl rfl dX13_takeItem_54 rfl ?_
    refine r_iconst (pc' := 56) C dX13_takeItem_55 rfl ?_
    refine r_isub (pc' := 57) C dX13_takeItem_56 rfl ?_
    refine r_iload (pc' := 59) C 4 rfl dX13_takeItem_57 rfl ?_
    refine r_ineg (pc' := 60) C dX13_takeItem_59 rfl ?_
    have o10 := h.1
    replace h := h.2
    refine c_Vv (pc' := 63) (mt := mX13_takeItem) (as := [.int (i32 x1), .int (i32 (x2 - 1)), .int (i32 (-(av 104 ((600 * x2) + x3).toNat)))]) (st := []) (k := 73) C h rfl cl_X13_takeItem ml_X13_191 im_X13_takeItem sl_X13_takeItem (by omega) (Nat.le_refl _) (Nat.le_refl _) rfl (by decide) kc_73 (by decide) rfl rfl rfl (Nat.le_of_ble_eq_true rfl) dX13_takeItem_60 rfl (fun r11 iv12 av13 h => ?_)
    exact r_vret C ⟨rfl, rfl, h⟩ dX13_takeItem_63
  · replace h := h.2 c3
    refine r_aload_n (pc' := 20) C 0 rfl rfl dX13_takeItem_19 rfl ?_
    refine r_getr (pc' := 23) (k := 73) (r := 99) C fl_X13_93 (by decide) kc_73 (by decide) fr_13_38 RV_73_38 dX13_takeItem_20 rfl ?_
    refine r_iload_n (pc' := 24) C 1 rfl rfl dX13_takeItem_23 rfl ?_
    refine r_aload_n (pc' := 25) C 0 rfl rfl dX13_takeItem_24 rfl ?_
    refine r_getr (pc' := 28) (k := 73) (r := 101) C fl_X13_99 (by decide) kc_73 (by decide) fr_13_40 RV_73_40 dX13_takeItem_25 rfl ?_
    refine r_iload (pc' := 30) C 4 rfl dX13_takeItem_28 rfl ?_
    have o15 := h.1
    replace h := h.2
    refine r_iald (pc' := 31) (k := 101) C (by decide) kc_101 (by have := kl_101; omega) dX13_takeItem_30 rfl (fun f16 => ?_)
    replace h := h f16
    refine r_iadd (pc' := 32) C dX13_takeItem_31 rfl ?_
    refine r_dup2 (pc' := 33) C rfl rfl dX13_takeItem_32 rfl ?_
    have o17 := h.1
    replace h := h.2
    refine r_iald (pc' := 34) (k := 99) C (by decide) kc_99 (by have := kl_99; omega) dX13_takeItem_33 rfl (fun f18 => ?_)
    replace h := h f18
    refine r_iconst (pc' := 35) C dX13_takeItem_34 rfl ?_
    refine r_iadd (pc' := 36) C dX13_takeItem_35 rfl ?_
    have o19 := h.1
    replace h := h.2
    refine r_iast (pc' := 37) (k := 99) C (by decide) kc_99 (by have := kl_99; omega) o19 dX13_takeItem_36 rfl ?_
    refine r_goto (tgt := 63) C dX13_takeItem_37 (by decide) ?_
    exact r_vret C ⟨rfl, rfl, h⟩ dX13_takeItem_63
set_option maxHeartbeats 4000000 in
set_option maxRecDepth 100000 in
theorem o_X13_tell {Y : Gl} {e : Nat} {P : PN} {x1 : Int} {x2 : Int} {iv av : IVt} (hx1 : InR x1) (hx2 : InR x2) (h : 
    ((InR (iv 73 45)) →
      (0 ≤ (iv 73 45) ∧ (iv 73 45) < 320) ∧
      (InR ((iv 73 45) + 1)) ∧
      (0 ≤ (320 + x1) ∧ (320 + x1) < 339) ∧
      ((InR (av 98 (320 + x1).toNat)) →
        (InR ((av 98 (320 + x1).toNat) + 1)) ∧
        P 0 (up2 iv 73 45 ((iv 73 45) + 1)) (up2 (up2 (up2 av 106 ((iv 73 45).toNat) x1) 107 ((iv 73 45).toNat) x2) 98 ((320 + x1).toNat) ((av 98 (320 + x1).toNat) + 1))
      )
    )) : OkN Y e mX13_tell [.ref (gl_b Y + 73), .int (i32 x1), .int (i32 x2)] RV iv av 116 P := by
  refine OkW.of rfl (by show _ ≤ 3; exact Nat.le_of_ble_eq_true rfl) fun X C0 hR => ?_
  have C : CX Y X RX13 "tell" cX13_tell 3 none e 0 0 := C0
  show Wa Y X 3 (g_MQ Y X 0 (g_N RV 116 P) 0 0) 0 0 0 [(0, .ref (gl_b Y + 73)), (1, .int (i32 x1)), (2, .int (i32 x2))] [] RV iv av 116
  refine r_aload_n (pc' := 1) C 0 rfl rfl dX13_tell_0 rfl ?_
  refine r_getr (pc' := 4) (k := 73) (r := 106) C fl_X13_114 (by decide) kc_73 (by decide) fr_13_46 RV_73_46 dX13_tell_1 rfl ?_
  refine r_aload_n (pc' := 5) C 0 rfl rfl dX13_tell_4 rfl ?_
  refine r_geti (pc' := 8) (k := 73) C fl_X13_195 (by decide) kc_73 (by decide) fr_13_45 dX13_tell_5 rfl (fun f1 => ?_)
  replace h := h f1
  refine r_iload_n (pc' := 9) C 1 rfl rfl dX13_tell_8 rfl ?_
  have o2 := h.1
  replace h := h.2
  refine r_iast (pc' := 10) (k := 106) C (by decide) kc_106 (by have := kl_106; omega) hx1 dX13_tell_9 rfl ?_
  refine r_aload_n (pc' := 11) C 0 rfl rfl dX13_tell_10 rfl ?_
  refine r_getr (pc' := 14) (k := 73) (r := 107) C fl_X13_117 (by decide) kc_73 (by decide) fr_13_47 RV_73_47 dX13_tell_11 rfl ?_
  refine r_aload_n (pc' := 15) C 0 rfl rfl dX13_tell_14 rfl ?_
  refine r_geti (pc' := 18) (k := 73) C fl_X13_195 (by decide) kc_73 (by decide) fr_13_45 dX13_tell_15 rfl (fun f3 => ?_)
  refine r_iload_n (pc' := 19) C 2 rfl rfl dX13_tell_18 rfl ?_
  refine r_iast (pc' := 20) (k := 107) C (by decide) kc_107 (by have := kl_107; omega) hx2 dX13_tell_19 rfl ?_
  refine r_aload_n (pc' := 21) C 0 rfl rfl dX13_tell_20 rfl ?_
  refine r_dup (pc' := 22) C rfl dX13_tell_21 rfl ?_
  refine r_geti (pc' := 25) (k := 73) C fl_X13_195 (by decide) kc_73 (by decide) fr_13_45 dX13_tell_22 rfl (fun f4 => ?_)
  refine r_iconst (pc' := 26) C dX13_tell_25 rfl ?_
  refine r_iadd (pc' := 27) C dX13_tell_26 rfl ?_
  have o5 := h.1
  replace h := h.2
  refine r_puti (pc' := 30) (k := 73) C fl_X13_195 (by decide) kc_73 (by decide) fr_13_45 o5 dX13_tell_27 rfl ?_
  refine r_aload_n (pc' := 31) C 0 rfl rfl dX13_tell_30 rfl ?_
  refine r_getr (pc' := 34) (k := 73) (r := 98) C fl_X13_90 (by decide) kc_73 (by decide) fr_13_37 RV_73_37 dX13_tell_31 rfl ?_
  refine r_sipush (pc' := 37) C dX13_tell_34 (by decide) rfl ?_
  refine r_iload_n (pc' := 38) C 1 rfl rfl dX13_tell_37 rfl ?_
  refine r_iadd (pc' := 39) C dX13_tell_38 rfl ?_
  refine r_dup2 (pc' := 40) C rfl rfl dX13_tell_39 rfl ?_
  have o6 := h.1
  replace h := h.2
  refine r_iald (pc' := 41) (k := 98) C (by decide) kc_98 (by have := kl_98; omega) dX13_tell_40 rfl (fun f7 => ?_)
  have ef7 : (up2 (up2 av 106 ((iv 73 45).toNat) x1) 107 ((iv 73 45).toNat) x2) 98 (320 + x1).toNat = (av 98 (320 + x1).toNat) := by simp [up2]
  rw [ef7] at f7 ⊢
  replace h := h f7
  refine r_iconst (pc' := 42) C dX13_tell_41 rfl ?_
  refine r_iadd (pc' := 43) C dX13_tell_42 rfl ?_
  have o8 := h.1
  replace h := h.2
  refine r_iast (pc' := 44) (k := 98) C (by decide) kc_98 (by have := kl_98; omega) o8 dX13_tell_43 rfl ?_
  exact r_vret C ⟨rfl, rfl, h⟩ dX13_tell_44
def L_X13_tellRow_7 (Y : Gl) (X : Cx) (P : PN) (x1 : Int) (x2 : Int) (iv av : IVt) : Prop := Wa Y X 7 (g_MQ Y X 0 (g_N RV 116 P) 0 0) 0 0 7 [(0, .ref (gl_b Y + 73)), (1, .int (i32 x1)), (2, .int (i32 x2))] [] RV iv av 116
def L_X13_tellRow_22 (Y : Gl) (X : Cx) (P : PN) (x1 : Int) (x2 : Int) (x3 : Int) (x4 : Int) (iv av : IVt) : Prop := Wa Y X 7 (g_MQ Y X 0 (g_N RV 116 P) 0 0) 0 0 22 [(0, .ref (gl_b Y + 73)), (1, .int (i32 x1)), (2, .int (i32 x2)), (3, .int (i32 x3)), (4, .int (i32 x4))] [] RV iv av 116
def L_X13_tellRow_67 (Y : Gl) (X : Cx) (P : PN) (x1 : Int) (x2 : Int) (x3 : Int) (x4 : Int) (iv av : IVt) : Prop := Wa Y X 7 (g_MQ Y X 0 (g_N RV 116 P) 0 0) 0 0 67 [(0, .ref (gl_b Y + 73)), (1, .int (i32 x1)), (2, .int (i32 x2)), (3, .int (i32 x3)), (4, .int (i32 x4))] [] RV iv av 116
def L_X13_tellRow_96 (Y : Gl) (X : Cx) (P : PN) (x1 : Int) (x2 : Int) (x3 : Int) (x4 : Int) (x5 : Int) (iv av : IVt) : Prop := Wa Y X 7 (g_MQ Y X 0 (g_N RV 116 P) 0 0) 0 0 96 [(0, .ref (gl_b Y + 73)), (1, .int (i32 x1)), (2, .int (i32 x2)), (3, .int (i32 x3)), (4, .int (i32 x4)), (5, .int (i32 x5))] [] RV iv av 116
def L_X13_tellRow_112 (Y : Gl) (X : Cx) (P : PN) (x1 : Int) (x2 : Int) (x3 : Int) (x4 : Int) (x6 : Int) (iv av : IVt) : Prop := Wa Y X 7 (g_MQ Y X 0 (g_N RV 116 P) 0 0) 0 0 112 [(0, .ref (gl_b Y + 73)), (1, .int (i32 x1)), (2, .int (i32 x2)), (3, .int (i32 x3)), (4, .int (i32 x4)), (6, .int (i32 x6))] [] RV iv av 116
def L_X13_tellRow_140 (Y : Gl) (X : Cx) (P : PN) (x1 : Int) (x2 : Int) (x3 : Int) (x4 : Int) (x6 : Int) (iv av : IVt) : Prop := Wa Y X 7 (g_MQ Y X 0 (g_N RV 116 P) 0 0) 0 0 140 [(0, .ref (gl_b Y + 73)), (1, .int (i32 x1)), (2, .int (i32 x2)), (3, .int (i32 x3)), (4, .int (i32 x4)), (6, .int (i32 x6))] [] RV iv av 116
def L_X13_tellRow_173 (Y : Gl) (X : Cx) (P : PN) (x1 : Int) (x2 : Int) (x3 : Int) (x4 : Int) (iv av : IVt) : Prop := Wa Y X 7 (g_MQ Y X 0 (g_N RV 116 P) 0 0) 0 0 173 [(0, .ref (gl_b Y + 73)), (1, .int (i32 x1)), (2, .int (i32 x2)), (3, .int (i32 x3)), (4, .int (i32 x4))] [] RV iv av 116
set_option maxHeartbeats 4000000 in
set_option maxRecDepth 100000 in
theorem w_X13_tellRow_173 {Y : Gl} {X : Cx} {e : Nat} {P : PN} {x1 : Int} {x2 : Int} {x3 : Int} {x4 : Int} {iv av : IVt} (C : CX Y X RX13 "tellRow" cX13_tellRow 7 none (e + 1) 0 0) (hx3 : InR x3) (hx4 : InR x4) (h :
    ((x4 ≤ 0) →
      L_X13_tellRow_7 Y X P x1 x2 iv av
    ) ∧
    ((¬ x4 ≤ 0) →
      OkN Y e mX13_tell [.ref (gl_b Y + 73), .int (i32 x3), .int (i32 0)] RV iv av 116 (fun r2 iv3 av4 =>
        L_X13_tellRow_173 Y X P x1 x2 x3 (x4 + (-1)) iv3 av4
      )
    )) : L_X13_tellRow_173 Y X P x1 x2 x3 x4 iv av := by
  unfold L_X13_tellRow_173
  refine r_iload (pc' := 175) C 4 rfl dX13_tellRow_173 rfl ?_
  refine r_if_le (pc' := 178) (tgt := 190) C hx4 dX13_tellRow_175 (by decide) rfl (fun c1 => ?_) (fun c1 => ?_)
  · replace h := h.1 c1
    refine r_goto (tgt := 7) C dX13_tellRow_190 (by decide) ?_
    exact Wa.sub [0, 1, 2] rfl h
  · replace h := h.2 c1
    refine r_aload_n (pc' := 179) C 0 rfl rfl dX13_tellRow_178 rfl ?_
    refine r_iload_n (pc' := 180) C 3 rfl rfl dX13_tellRow_179 rfl ?_
    refine r_iconst (pc' := 181) C dX13_tellRow_180 rfl ?_
    refine c_Vv (pc' := 184) (mt := mX13_tell) (as := [.int (i32 x3), .int (i32 0)]) (st := []) (k := 73) C h rfl cl_X13_tell ml_X13_198 im_X13_tell sl_X13_tell (by omega) (Nat.le_refl _) (Nat.le_refl _) rfl (by decide) kc_73 (by decide) rfl rfl rfl (Nat.le_of_ble_eq_true rfl) dX13_tellRow_181 rfl (fun r2 iv3 av4 h => ?_)
    refine r_iinc (pc' := 187) (ls' := [(0, .ref (gl_b Y + 73)), (1, .int (i32 x1)), (2, .int (i32 x2)), (3, .int (i32 x3)), (4, .int (i32 (x4 + (-1))))]) C 4 rfl (by decide) rfl dX13_tellRow_184 rfl ?_
    refine r_goto (tgt := 173) C dX13_tellRow_187 (by decide) ?_
    exact Wa.sub [0, 1, 2, 3, 4] rfl h
set_option maxHeartbeats 4000000 in
set_option maxRecDepth 100000 in
theorem w_X13_tellRow_140 {Y : Gl} {X : Cx} {e : Nat} {P : PN} {x1 : Int} {x2 : Int} {x3 : Int} {x4 : Int} {x6 : Int} {iv av : IVt} (C : CX Y X RX13 "tellRow" cX13_tellRow 7 none (e + 1) 0 0) (h :
    L_X13_tellRow_67 Y X P x1 x2 x3 (x4 - x6) iv av) : L_X13_tellRow_140 Y X P x1 x2 x3 x4 x6 iv av := by
  unfold L_X13_tellRow_140
  refine r_iload (pc' := 142) C 4 rfl dX13_tellRow_140 rfl ?_
  refine r_iload (pc' := 144) C 5 rfl dX13_tellRow_142 rfl ?_
  refine r_isub (pc' := 145) C dX13_tellRow_144 rfl ?_
  refine r_istore (pc' := 147) (ls' := [(0, .ref (gl_b Y + 73)), (1, .int (i32 x1)), (2, .int (i32 x2)), (3, .int (i32 x3)), (4, .int (i32 (x4 - x6))), (6, .int (i32 x6))]) C (by decide) rfl dX13_tellRow_145 rfl ?_
  refine r_goto (tgt := 67) C dX13_tellRow_147 (by decide) ?_
  exact Wa.sub [0, 1, 2, 3, 4] rfl h
set_option maxHeartbeats 4000000 in
set_option maxRecDepth 100000 in
theorem w_X13_tellRow_112 {Y : Gl} {X : Cx} {e : Nat} {P : PN} {x1 : Int} {x2 : Int} {x3 : Int} {x4 : Int} {x6 : Int} {iv av : IVt} (C : CX Y X RX13 "tellRow" cX13_tellRow 7 none (e + 1) 0 0) (hx3 : InR x3) (h :
    ((x3 ≤ 0) →
      ((x3 ≤ 0) →
        (InR (x6 - 11)) ∧
        OkN Y e mX13_tell [.ref (gl_b Y + 73), .int (i32 18), .int (i32 (x6 - 11))] RV iv av 116 (fun r4 iv5 av6 =>
          L_X13_tellRow_140 Y X P x1 x2 x3 x4 x6 iv5 av6
        )
      ) ∧
      ((¬ x3 ≤ 0) →
        (InR (x6 - 3)) ∧
        OkN Y e mX13_tell [.ref (gl_b Y + 73), .int (i32 18), .int (i32 (x6 - 3))] RV iv av 116 (fun r9 iv10 av11 =>
          L_X13_tellRow_140 Y X P x1 x2 x3 x4 x6 iv10 av11
        )
      )
    ) ∧
    ((¬ x3 ≤ 0) →
      ((x3 ≤ 0) →
        (InR (x6 - 11)) ∧
        OkN Y e mX13_tell [.ref (gl_b Y + 73), .int (i32 16), .int (i32 (x6 - 11))] RV iv av 116 (fun r15 iv16 av17 =>
          L_X13_tellRow_140 Y X P x1 x2 x3 x4 x6 iv16 av17
        )
      ) ∧
      ((¬ x3 ≤ 0) →
        (InR (x6 - 3)) ∧
        OkN Y e mX13_tell [.ref (gl_b Y + 73), .int (i32 16), .int (i32 (x6 - 3))] RV iv av 116 (fun r20 iv21 av22 =>
          L_X13_tellRow_140 Y X P x1 x2 x3 x4 x6 iv21 av22
        )
      )
    )) : L_X13_tellRow_112 Y X P x1 x2 x3 x4 x6 iv av := by
  unfold L_X13_tellRow_112
  refine r_aload_n (pc' := 113) C 0 rfl rfl dX13_tellRow_112 rfl ?_
  refine r_iload_n (pc' := 114) C 3 rfl rfl dX13_tellRow_113 rfl ?_
  refine r_if_le (pc' := 117) (tgt := 122) C hx3 dX13_tellRow_114 (by decide) rfl (fun c1 => ?_) (fun c1 => ?_)
  · replace h := h.1 c1
    refine r_bipush (pc' := 124) C dX13_tellRow_122 (by decide) rfl ?_
    refine r_iload (pc' := 126) C 5 rfl dX13_tellRow_124 rfl ?_
    refine r_iload_n (pc' := 127) C 3 rfl rfl dX13_tellRow_126 rfl ?_
    refine r_if_le (pc' := 130) (tgt := 134) C hx3 dX13_tellRow_127 (by decide) rfl (fun c2 => ?_) (fun c2 => ?_)
    · replace h := h.1 c2
      refine r_bipush (pc' := 136) C dX13_tellRow_134 (by decide) rfl ?_
      refine r_isub (pc' := 137) C dX13_tellRow_136 rfl ?_
      have o3 := h.1
      replace h := h.2
      refine c_Vv (pc' := 140) (mt := mX13_tell) (as := [.int (i32 18), .int (i32 (x6 - 11))]) (st := []) (k := 73) C h rfl cl_X13_tell ml_X13_198 im_X13_tell sl_X13_tell (by omega) (Nat.le_refl _) (Nat.le_refl _) rfl (by decide) kc_73 (by decide) rfl rfl rfl (Nat.le_of_ble_eq_true rfl) dX13_tellRow_137 rfl (fun r4 iv5 av6 h => ?_)
      exact Wa.sub [0, 1, 2, 3, 4, 5] rfl h
    · replace h := h.2 c2
      refine r_iconst (pc' := 131) C dX13_tellRow_130 rfl ?_
      refine r_goto (tgt := 136) C dX13_tellRow_131 (by decide) ?_
      refine r_isub (pc' := 137) C dX13_tellRow_136 rfl ?_
      have o8 := h.1
      replace h := h.2
      refine c_Vv (pc' := 140) (mt := mX13_tell) (as := [.int (i32 18), .int (i32 (x6 - 3))]) (st := []) (k := 73) C h rfl cl_X13_tell ml_X13_198 im_X13_tell sl_X13_tell (by omega) (Nat.le_refl _) (Nat.le_refl _) rfl (by decide) kc_73 (by decide) rfl rfl rfl (Nat.le_of_ble_eq_true rfl) dX13_tellRow_137 rfl (fun r9 iv10 av11 h => ?_)
      exact Wa.sub [0, 1, 2, 3, 4, 5] rfl h
  · replace h := h.2 c1
    refine r_bipush (pc' := 119) C dX13_tellRow_117 (by decide) rfl ?_
    refine r_goto (tgt := 124) C dX13_tellRow_119 (by decide) ?_
    refine r_iload (pc' := 126) C 5 rfl dX13_tellRow_124 rfl ?_
    refine r_iload_n (pc' := 127) C 3 rfl rfl dX13_tellRow_126 rfl ?_
    refine r_if_le (pc' := 130) (tgt := 134) C hx3 dX13_tellRow_127 (by decide) rfl (fun c13 => ?_) (fun c13 => ?_)
    · replace h := h.1 c13
      refine r_bipush (pc' := 136) C dX13_tellRow_134 (by decide) rfl ?_
      refine r_isub (pc' := 137) C dX13_tellRow_136 rfl ?_
      have o14 := h.1
      replace h := h.2
      refine c_Vv (pc' := 140) (mt := mX13_tell) (as := [.int (i32 16), .int (i32 (x6 - 11))]) (st := []) (k := 73) C h rfl cl_X13_tell ml_X13_198 im_X13_tell sl_X13_tell (by omega) (Nat.le_refl _) (Nat.le_refl _) rfl (by decide) kc_73 (by decide) rfl rfl rfl (Nat.le_of_ble_eq_true rfl) dX13_tellRow_137 rfl (fun r15 iv16 av17 h => ?_)
      exact Wa.sub [0, 1, 2, 3, 4, 5] rfl h
    · replace h := h.2 c13
      refine r_iconst (pc' := 131) C dX13_tellRow_130 rfl ?_
      refine r_goto (tgt := 136) C dX13_tellRow_131 (by decide) ?_
      refine r_isub (pc' := 137) C dX13_tellRow_136 rfl ?_
      have o19 := h.1
      replace h := h.2
      refine c_Vv (pc' := 140) (mt := mX13_tell) (as := [.int (i32 16), .int (i32 (x6 - 3))]) (st := []) (k := 73) C h rfl cl_X13_tell ml_X13_198 im_X13_tell sl_X13_tell (by omega) (Nat.le_refl _) (Nat.le_refl _) rfl (by decide) kc_73 (by decide) rfl rfl rfl (Nat.le_of_ble_eq_true rfl) dX13_tellRow_137 rfl (fun r20 iv21 av22 h => ?_)
      exact Wa.sub [0, 1, 2, 3, 4, 5] rfl h
set_option maxHeartbeats 4000000 in
set_option maxRecDepth 100000 in
theorem w_X13_tellRow_96 {Y : Gl} {X : Cx} {e : Nat} {P : PN} {x1 : Int} {x2 : Int} {x3 : Int} {x4 : Int} {x5 : Int} {iv av : IVt} (C : CX Y X RX13 "tellRow" cX13_tellRow 7 none (e + 1) 0 0) (hx4 : InR x4) (hx5 : InR x5) (h :
    ((x5 ≤ x4) →
      L_X13_tellRow_112 Y X P x1 x2 x3 x4 x5 iv av
    ) ∧
    ((¬ x5 ≤ x4) →
      L_X13_tellRow_112 Y X P x1 x2 x3 x4 x4 iv av
    )) : L_X13_tellRow_96 Y X P x1 x2 x3 x4 x5 iv av := by
  unfold L_X13_tellRow_96
  refine r_iload (pc' := 98) C 4 rfl dX13_tellRow_96 rfl ?_
  refine r_iload (pc' := 100) C 5 rfl dX13_tellRow_98 rfl ?_
  refine r_icmp_ge (pc' := 103) (tgt := 108) C hx4 hx5 dX13_tellRow_100 (by decide) rfl (fun c1 => ?_) (fun c1 => ?_)
  · replace h := h.1 c1
    refine r_iload (pc' := 110) C 5 rfl dX13_tellRow_108 rfl ?_
    refine r_istore (pc' := 112) (ls' := [(0, .ref (gl_b Y + 73)), (1, .int (i32 x1)), (2, .int (i32 x2)), (3, .int (i32 x3)), (4, .int (i32 x4)), (5, .int (i32 x5)), (6, .int (i32 x5))]) C (by decide) rfl dX13_tellRow_110 rfl ?_
    exact Wa.sub [0, 1, 2, 3, 4, 6] rfl h
  · replace h := h.2 c1
    refine r_iload (pc' := 105) C 4 rfl dX13_tellRow_103 rfl ?_
    refine r_goto (tgt := 110) C dX13_tellRow_105 (by decide) ?_
    refine r_istore (pc' := 112) (ls' := [(0, .ref (gl_b Y + 73)), (1, .int (i32 x1)), (2, .int (i32 x2)), (3, .int (i32 x3)), (4, .int (i32 x4)), (5, .int (i32 x5)), (6, .int (i32 x4))]) C (by decide) rfl dX13_tellRow_110 rfl ?_
    exact Wa.sub [0, 1, 2, 3, 4, 6] rfl h
set_option maxHeartbeats 4000000 in
set_option maxRecDepth 100000 in
theorem w_X13_tellRow_67 {Y : Gl} {X : Cx} {e : Nat} {P : PN} {x1 : Int} {x2 : Int} {x3 : Int} {x4 : Int} {iv av : IVt} (C : CX Y X RX13 "tellRow" cX13_tellRow 7 none (e + 1) 0 0) (hx3 : InR x3) (hx4 : InR x4) (h :
    ((x3 ≤ 0) →
      ((x4 < 11) →
        ((¬ x3 = 0) →
          L_X13_tellRow_173 Y X P x1 x2 x3 x4 iv av
        ) ∧
        ((x3 = 0) →
          ((x4 < 3) →
            L_X13_tellRow_173 Y X P x1 x2 x3 x4 iv av
          ) ∧
          ((¬ x4 < 3) →
            (InR (x4 - 3)) ∧
            OkN Y e mX13_tell [.ref (gl_b Y + 73), .int (i32 17), .int (i32 (x4 - 3))] RV iv av 116 (fun r6 iv7 av8 =>
              L_X13_tellRow_173 Y X P x1 x2 x3 0 iv7 av8
            )
          )
        )
      ) ∧
      ((¬ x4 < 11) →
        ((x3 ≤ 0) →
          L_X13_tellRow_96 Y X P x1 x2 x3 x4 138 iv av
        ) ∧
        ((¬ x3 ≤ 0) →
          L_X13_tellRow_96 Y X P x1 x2 x3 x4 6 iv av
        )
      )
    ) ∧
    ((¬ x3 ≤ 0) →
      ((x4 < 3) →
        ((¬ x3 = 0) →
          L_X13_tellRow_173 Y X P x1 x2 x3 x4 iv av
        ) ∧
        ((x3 = 0) →
          ((x4 < 3) →
            L_X13_tellRow_173 Y X P x1 x2 x3 x4 iv av
          ) ∧
          ((¬ x4 < 3) →
            (InR (x4 - 3)) ∧
            OkN Y e mX13_tell [.ref (gl_b Y + 73), .int (i32 17), .int (i32 (x4 - 3))] RV iv av 116 (fun r15 iv16 av17 =>
              L_X13_tellRow_173 Y X P x1 x2 x3 0 iv16 av17
            )
          )
        )
      ) ∧
      ((¬ x4 < 3) →
        ((x3 ≤ 0) →
          L_X13_tellRow_96 Y X P x1 x2 x3 x4 138 iv av
        ) ∧
        ((¬ x3 ≤ 0) →
          L_X13_tellRow_96 Y X P x1 x2 x3 x4 6 iv av
        )
      )
    )) : L_X13_tellRow_67 Y X P x1 x2 x3 x4 iv av := by
  unfold L_X13_tellRow_67
  refine r_iload (pc' := 69) C 4 rfl dX13_tellRow_67 rfl ?_
  refine r_iload_n (pc' := 70) C 3 rfl rfl dX13_tellRow_69 rfl ?_
  refine r_if_le (pc' := 73) (tgt := 77) C hx3 dX13_tellRow_70 (by decide) rfl (fun c1 => ?_) (fun c1 => ?_)
  · replace h := h.1 c1
    refine r_bipush (pc' := 79) C dX13_tellRow_77 (by decide) rfl ?_
    refine r_icmp_lt (pc' := 82) (tgt := 150) C hx4 (by decide) dX13_tellRow_79 (by decide) rfl (fun c2 => ?_) (fun c2 => ?_)
    · replace h := h.1 c2
      refine r_iload_n (pc' := 151) C 3 rfl rfl dX13_tellRow_150 rfl ?_
      refine r_if_ne (pc' := 154) (tgt := 173) C hx3 dX13_tellRow_151 (by decide) rfl (fun c3 => ?_) (fun c3 => ?_)
      · replace h := h.1 c3
        exact Wa.sub [0, 1, 2, 3, 4] rfl h
      · replace h := h.2 c3
        refine r_iload (pc' := 156) C 4 rfl dX13_tellRow_154 rfl ?_
        refine r_iconst (pc' := 157) C dX13_tellRow_156 rfl ?_
        refine r_icmp_lt (pc' := 160) (tgt := 173) C hx4 (by decide) dX13_tellRow_157 (by decide) rfl (fun c4 => ?_) (fun c4 => ?_)
        · replace h := h.1 c4
          exact Wa.sub [0, 1, 2, 3, 4] rfl h
        · replace h := h.2 c4
          refine r_aload_n (pc' := 161) C 0 rfl rfl dX13_tellRow_160 rfl ?_
          refine r_bipush (pc' := 163) C dX13_tellRow_161 (by decide) rfl ?_
          refine r_iload (pc' := 165) C 4 rfl dX13_tellRow_163 rfl ?_
          refine r_iconst (pc' := 166) C dX13_tellRow_165 rfl ?_
          refine r_isub (pc' := 167) C dX13_tellRow_166 rfl ?_
          have o5 := h.1
          replace h := h.2
          refine c_Vv (pc' := 170) (mt := mX13_tell) (as := [.int (i32 17), .int (i32 (x4 - 3))]) (st := []) (k := 73) C h rfl cl_X13_tell ml_X13_198 im_X13_tell sl_X13_tell (by omega) (Nat.le_refl _) (Nat.le_refl _) rfl (by decide) kc_73 (by decide) rfl rfl rfl (Nat.le_of_ble_eq_true rfl) dX13_tellRow_167 rfl (fun r6 iv7 av8 h => ?_)
          refine r_iconst (pc' := 171) C dX13_tellRow_170 rfl ?_
          refine r_istore (pc' := 173) (ls' := [(0, .ref (gl_b Y + 73)), (1, .int (i32 x1)), (2, .int (i32 x2)), (3, .int (i32 x3)), (4, .int (i32 0))]) C (by decide) rfl dX13_tellRow_171 rfl ?_
          exact Wa.sub [0, 1, 2, 3, 4] rfl h
    · replace h := h.2 c2
      refine r_iload_n (pc' := 83) C 3 rfl rfl dX13_tellRow_82 rfl ?_
      refine r_if_le (pc' := 86) (tgt := 91) C hx3 dX13_tellRow_83 (by decide) rfl (fun c10 => ?_) (fun c10 => ?_)
      · replace h := h.1 c10
        refine r_sipush (pc' := 94) C dX13_tellRow_91 (by decide) rfl ?_
        refine r_istore (pc' := 96) (ls' := [(0, .ref (gl_b Y + 73)), (1, .int (i32 x1)), (2, .int (i32 x2)), (3, .int (i32 x3)), (4, .int (i32 x4)), (5, .int (i32 138))]) C (by decide) rfl dX13_tellRow_94 rfl ?_
        exact Wa.sub [0, 1, 2, 3, 4, 5] rfl h
      · replace h := h.2 c10
        refine r_bipush (pc' := 88) C dX13_tellRow_86 (by decide) rfl ?_
        refine r_goto (tgt := 94) C dX13_tellRow_88 (by decide) ?_
        refine r_istore (pc' := 96) (ls' := [(0, .ref (gl_b Y + 73)), (1, .int (i32 x1)), (2, .int (i32 x2)), (3, .int (i32 x3)), (4, .int (i32 x4)), (5, .int (i32 6))]) C (by decide) rfl dX13_tellRow_94 rfl ?_
        exact Wa.sub [0, 1, 2, 3, 4, 5] rfl h
  · replace h := h.2 c1
    refine r_iconst (pc' := 74) C dX13_tellRow_73 rfl ?_
    refine r_goto (tgt := 79) C dX13_tellRow_74 (by decide) ?_
    refine r_icmp_lt (pc' := 82) (tgt := 150) C hx4 (by decide) dX13_tellRow_79 (by decide) rfl (fun c11 => ?_) (fun c11 => ?_)
    · replace h := h.1 c11
      refine r_iload_n (pc' := 151) C 3 rfl rfl dX13_tellRow_150 rfl ?_
      refine r_if_ne (pc' := 154) (tgt := 173) C hx3 dX13_tellRow_151 (by decide) rfl (fun c12 => ?_) (fun c12 => ?_)
      · replace h := h.1 c12
        exact Wa.sub [0, 1, 2, 3, 4] rfl h
      · replace h := h.2 c12
        refine r_iload (pc' := 156) C 4 rfl dX13_tellRow_154 rfl ?_
        refine r_iconst (pc' := 157) C dX13_tellRow_156 rfl ?_
        refine r_icmp_lt (pc' := 160) (tgt := 173) C hx4 (by decide) dX13_tellRow_157 (by decide) rfl (fun c13 => ?_) (fun c13 => ?_)
        · replace h := h.1 c13
          exact Wa.sub [0, 1, 2, 3, 4] rfl h
        · replace h := h.2 c13
          refine r_aload_n (pc' := 161) C 0 rfl rfl dX13_tellRow_160 rfl ?_
          refine r_bipush (pc' := 163) C dX13_tellRow_161 (by decide) rfl ?_
          refine r_iload (pc' := 165) C 4 rfl dX13_tellRow_163 rfl ?_
          refine r_iconst (pc' := 166) C dX13_tellRow_165 rfl ?_
          refine r_isub (pc' := 167) C dX13_tellRow_166 rfl ?_
          have o14 := h.1
          replace h := h.2
          refine c_Vv (pc' := 170) (mt := mX13_tell) (as := [.int (i32 17), .int (i32 (x4 - 3))]) (st := []) (k := 73) C h rfl cl_X13_tell ml_X13_198 im_X13_tell sl_X13_tell (by omega) (Nat.le_refl _) (Nat.le_refl _) rfl (by decide) kc_73 (by decide) rfl rfl rfl (Nat.le_of_ble_eq_true rfl) dX13_tellRow_167 rfl (fun r15 iv16 av17 h => ?_)
          refine r_iconst (pc' := 171) C dX13_tellRow_170 rfl ?_
          refine r_istore (pc' := 173) (ls' := [(0, .ref (gl_b Y + 73)), (1, .int (i32 x1)), (2, .int (i32 x2)), (3, .int (i32 x3)), (4, .int (i32 0))]) C (by decide) rfl dX13_tellRow_171 rfl ?_
          exact Wa.sub [0, 1, 2, 3, 4] rfl h
    · replace h := h.2 c11
      refine r_iload_n (pc' := 83) C 3 rfl rfl dX13_tellRow_82 rfl ?_
      refine r_if_le (pc' := 86) (tgt := 91) C hx3 dX13_tellRow_83 (by decide) rfl (fun c19 => ?_) (fun c19 => ?_)
      · replace h := h.1 c19
        refine r_sipush (pc' := 94) C dX13_tellRow_91 (by decide) rfl ?_
        refine r_istore (pc' := 96) (ls' := [(0, .ref (gl_b Y + 73)), (1, .int (i32 x1)), (2, .int (i32 x2)), (3, .int (i32 x3)), (4, .int (i32 x4)), (5, .int (i32 138))]) C (by decide) rfl dX13_tellRow_94 rfl ?_
        exact Wa.sub [0, 1, 2, 3, 4, 5] rfl h
      · replace h := h.2 c19
        refine r_bipush (pc' := 88) C dX13_tellRow_86 (by decide) rfl ?_
        refine r_goto (tgt := 94) C dX13_tellRow_88 (by decide) ?_
        refine r_istore (pc' := 96) (ls' := [(0, .ref (gl_b Y + 73)), (1, .int (i32 x1)), (2, .int (i32 x2)), (3, .int (i32 x3)), (4, .int (i32 x4)), (5, .int (i32 6))]) C (by decide) rfl dX13_tellRow_94 rfl ?_
        exact Wa.sub [0, 1, 2, 3, 4, 5] rfl h
set_option maxHeartbeats 4000000 in
set_option maxRecDepth 100000 in
theorem w_X13_tellRow_22 {Y : Gl} {X : Cx} {e : Nat} {P : PN} {x1 : Int} {x2 : Int} {x3 : Int} {x4 : Int} {iv av : IVt} (C : CX Y X RX13 "tellRow" cX13_tellRow 7 none (e + 1) 0 0) (hx1 : InR x1) (hx3 : InR x3) (h :
    (InR (x2 + x4)) ∧
    ((x1 ≤ (x2 + x4)) →
      ((x3 ≤ 0) →
        L_X13_tellRow_67 Y X P x1 (x2 + x4) x3 x4 iv av
      ) ∧
      ((¬ x3 ≤ 0) →
        OkN Y e mX13_tell [.ref (gl_b Y + 73), .int (i32 x3), .int (i32 0)] RV iv av 116 (fun r4 iv5 av6 =>
          L_X13_tellRow_67 Y X P x1 (x2 + x4) x3 (x4 + (-1)) iv5 av6
        )
      )
    ) ∧
    ((¬ x1 ≤ (x2 + x4)) →
      (0 ≤ (x2 + x4) ∧ (x2 + x4) < 320) ∧
      ((InR (av 105 (x2 + x4).toNat)) →
        ((¬ (av 105 (x2 + x4).toNat) = x3) →
          ((x3 ≤ 0) →
            L_X13_tellRow_67 Y X P x1 (x2 + x4) x3 x4 iv av
          ) ∧
          ((¬ x3 ≤ 0) →
            OkN Y e mX13_tell [.ref (gl_b Y + 73), .int (i32 x3), .int (i32 0)] RV iv av 116 (fun r12 iv13 av14 =>
              L_X13_tellRow_67 Y X P x1 (x2 + x4) x3 (x4 + (-1)) iv13 av14
            )
          )
        ) ∧
        (((av 105 (x2 + x4).toNat) = x3) →
          L_X13_tellRow_22 Y X P x1 x2 x3 (x4 + 1) iv av
        )
      )
    )) : L_X13_tellRow_22 Y X P x1 x2 x3 x4 iv av := by
  unfold L_X13_tellRow_22
  refine r_iload_n (pc' := 23) C 2 rfl rfl dX13_tellRow_22 rfl ?_
  refine r_iload (pc' := 25) C 4 rfl dX13_tellRow_23 rfl ?_
  refine r_iadd (pc' := 26) C dX13_tellRow_25 rfl ?_
  refine r_iload_n (pc' := 27) C 1 rfl rfl dX13_tellRow_26 rfl ?_
  have o1 := h.1
  replace h := h.2
  refine r_icmp_ge (pc' := 30) (tgt := 49) C o1 hx1 dX13_tellRow_27 (by decide) rfl (fun c2 => ?_) (fun c2 => ?_)
  · replace h := h.1 c2
    refine r_iload_n (pc' := 50) C 2 rfl rfl dX13_tellRow_49 rfl ?_
    refine r_iload (pc' := 52) C 4 rfl dX13_tellRow_50 rfl ?_
    refine r_iadd (pc' := 53) C dX13_tellRow_52 rfl ?_
    refine r_istore_n (pc' := 54) (ls' := [(0, .ref (gl_b Y + 73)), (1, .int (i32 x1)), (2, .int (i32 (x2 + x4))), (3, .int (i32 x3)), (4, .int (i32 x4))]) C (by decide) rfl rfl dX13_tellRow_53 rfl ?_
    refine r_iload_n (pc' := 55) C 3 rfl rfl dX13_tellRow_54 rfl ?_
    refine r_if_le (pc' := 58) (tgt := 67) C hx3 dX13_tellRow_55 (by decide) rfl (fun c3 => ?_) (fun c3 => ?_)
    · replace h := h.1 c3
      exact Wa.sub [0, 1, 2, 3, 4] rfl h
    · replace h := h.2 c3
      refine r_aload_n (pc' := 59) C 0 rfl rfl dX13_tellRow_58 rfl ?_
      refine r_iload_n (pc' := 60) C 3 rfl rfl dX13_tellRow_59 rfl ?_
      refine r_iconst (pc' := 61) C dX13_tellRow_60 rfl ?_
      refine c_Vv (pc' := 64) (mt := mX13_tell) (as := [.int (i32 x3), .int (i32 0)]) (st := []) (k := 73) C h rfl cl_X13_tell ml_X13_198 im_X13_tell sl_X13_tell (by omega) (Nat.le_refl _) (Nat.le_refl _) rfl (by decide) kc_73 (by decide) rfl rfl rfl (Nat.le_of_ble_eq_true rfl) dX13_tellRow_61 rfl (fun r4 iv5 av6 h => ?_)
      refine r_iinc (pc' := 67) (ls' := [(0, .ref (gl_b Y + 73)), (1, .int (i32 x1)), (2, .int (i32 (x2 + x4))), (3, .int (i32 x3)), (4, .int (i32 (x4 + (-1))))]) C 4 rfl (by decide) rfl dX13_tellRow_64 rfl ?_
      exact Wa.sub [0, 1, 2, 3, 4] rfl h
  · replace h := h.2 c2
    refine r_aload_n (pc' := 31) C 0 rfl rfl dX13_tellRow_30 rfl ?_
    refine r_getr (pc' := 34) (k := 73) (r := 105) C fl_X13_111 (by decide) kc_73 (by decide) fr_13_44 RV_73_44 dX13_tellRow_31 rfl ?_
    refine r_iload_n (pc' := 35) C 2 rfl rfl dX13_tellRow_34 rfl ?_
    refine r_iload (pc' := 37) C 4 rfl dX13_tellRow_35 rfl ?_
    refine r_iadd (pc' := 38) C dX13_tellRow_37 rfl ?_
    have o8 := h.1
    replace h := h.2
    refine r_iald (pc' := 39) (k := 105) C (by decide) kc_105 (by have := kl_105; omega) dX13_tellRow_38 rfl (fun f9 => ?_)
    replace h := h f9
    refine r_iload_n (pc' := 40) C 3 rfl rfl dX13_tellRow_39 rfl ?_
    refine r_icmp_ne (pc' := 43) (tgt := 49) C f9 hx3 dX13_tellRow_40 (by decide) rfl (fun c10 => ?_) (fun c10 => ?_)
    · replace h := h.1 c10
      refine r_iload_n (pc' := 50) C 2 rfl rfl dX13_tellRow_49 rfl ?_
      refine r_iload (pc' := 52) C 4 rfl dX13_tellRow_50 rfl ?_
      refine r_iadd (pc' := 53) C dX13_tellRow_52 rfl ?_
      refine r_istore_n (pc' := 54) (ls' := [(0, .ref (gl_b Y + 73)), (1, .int (i32 x1)), (2, .int (i32 (x2 + x4))), (3, .int (i32 x3)), (4, .int (i32 x4))]) C (by decide) rfl rfl dX13_tellRow_53 rfl ?_
      refine r_iload_n (pc' := 55) C 3 rfl rfl dX13_tellRow_54 rfl ?_
      refine r_if_le (pc' := 58) (tgt := 67) C hx3 dX13_tellRow_55 (by decide) rfl (fun c11 => ?_) (fun c11 => ?_)
      · replace h := h.1 c11
        exact Wa.sub [0, 1, 2, 3, 4] rfl h
      · replace h := h.2 c11
        refine r_aload_n (pc' := 59) C 0 rfl rfl dX13_tellRow_58 rfl ?_
        refine r_iload_n (pc' := 60) C 3 rfl rfl dX13_tellRow_59 rfl ?_
        refine r_iconst (pc' := 61) C dX13_tellRow_60 rfl ?_
        refine c_Vv (pc' := 64) (mt := mX13_tell) (as := [.int (i32 x3), .int (i32 0)]) (st := []) (k := 73) C h rfl cl_X13_tell ml_X13_198 im_X13_tell sl_X13_tell (by omega) (Nat.le_refl _) (Nat.le_refl _) rfl (by decide) kc_73 (by decide) rfl rfl rfl (Nat.le_of_ble_eq_true rfl) dX13_tellRow_61 rfl (fun r12 iv13 av14 h => ?_)
        refine r_iinc (pc' := 67) (ls' := [(0, .ref (gl_b Y + 73)), (1, .int (i32 x1)), (2, .int (i32 (x2 + x4))), (3, .int (i32 x3)), (4, .int (i32 (x4 + (-1))))]) C 4 rfl (by decide) rfl dX13_tellRow_64 rfl ?_
        exact Wa.sub [0, 1, 2, 3, 4] rfl h
    · replace h := h.2 c10
      refine r_iinc (pc' := 46) (ls' := [(0, .ref (gl_b Y + 73)), (1, .int (i32 x1)), (2, .int (i32 x2)), (3, .int (i32 x3)), (4, .int (i32 (x4 + 1)))]) C 4 rfl (by decide) rfl dX13_tellRow_43 rfl ?_
      refine r_goto (tgt := 22) C dX13_tellRow_46 (by decide) ?_
      exact Wa.sub [0, 1, 2, 3, 4] rfl h
set_option maxHeartbeats 4000000 in
set_option maxRecDepth 100000 in
theorem w_X13_tellRow_7 {Y : Gl} {X : Cx} {e : Nat} {P : PN} {x1 : Int} {x2 : Int} {iv av : IVt} (C : CX Y X RX13 "tellRow" cX13_tellRow 7 none (e + 1) 0 0) (hx1 : InR x1) (hx2 : InR x2) (h :
    ((x1 ≤ x2) →
      P 0 iv av
    ) ∧
    ((¬ x1 ≤ x2) →
      (0 ≤ x2 ∧ x2 < 320) ∧
      ((InR (av 105 x2.toNat)) →
        L_X13_tellRow_22 Y X P x1 x2 (av 105 x2.toNat) 0 iv av
      )
    )) : L_X13_tellRow_7 Y X P x1 x2 iv av := by
  unfold L_X13_tellRow_7
  refine r_iload_n (pc' := 8) C 2 rfl rfl dX13_tellRow_7 rfl ?_
  refine r_iload_n (pc' := 9) C 1 rfl rfl dX13_tellRow_8 rfl ?_
  refine r_icmp_ge (pc' := 12) (tgt := 193) C hx2 hx1 dX13_tellRow_9 (by decide) rfl (fun c1 => ?_) (fun c1 => ?_)
  · replace h := h.1 c1
    exact r_vret C ⟨rfl, rfl, h⟩ dX13_tellRow_193
  · replace h := h.2 c1
    refine r_aload_n (pc' := 13) C 0 rfl rfl dX13_tellRow_12 rfl ?_
    refine r_getr (pc' := 16) (k := 73) (r := 105) C fl_X13_111 (by decide) kc_73 (by decide) fr_13_44 RV_73_44 dX13_tellRow_13 rfl ?_
    refine r_iload_n (pc' := 17) C 2 rfl rfl dX13_tellRow_16 rfl ?_
    have o2 := h.1
    replace h := h.2
    refine r_iald (pc' := 18) (k := 105) C (by decide) kc_105 (by have := kl_105; omega) dX13_tellRow_17 rfl (fun f3 => ?_)
    replace h := h f3
    refine r_istore_n (pc' := 19) (ls' := [(0, .ref (gl_b Y + 73)), (1, .int (i32 x1)), (2, .int (i32 x2)), (3, .int (i32 (av 105 x2.toNat)))]) C (by decide) rfl rfl dX13_tellRow_18 rfl ?_
    refine r_iconst (pc' := 20) C dX13_tellRow_19 rfl ?_
    refine r_istore (pc' := 22) (ls' := [(0, .ref (gl_b Y + 73)), (1, .int (i32 x1)), (2, .int (i32 x2)), (3, .int (i32 (av 105 x2.toNat))), (4, .int (i32 0))]) C (by decide) rfl dX13_tellRow_20 rfl ?_
    exact Wa.sub [0, 1, 2, 3, 4] rfl h
set_option maxHeartbeats 4000000 in
set_option maxRecDepth 100000 in
theorem o_X13_tellRow {Y : Gl} {e : Nat} {P : PN} {x1 : Int} {iv av : IVt} (h : ∀ X : Cx, CX Y X RX13 "tellRow" cX13_tellRow 7 none (e + 1) 0 0 →
    L_X13_tellRow_7 Y X P x1 0 (up2 iv 73 45 0) av) : OkN Y (e + 1) mX13_tellRow [.ref (gl_b Y + 73), .int (i32 x1)] RV iv av 116 P := by
  refine OkW.of rfl (by show _ ≤ 7; exact Nat.le_of_ble_eq_true rfl) fun X C0 hR => ?_
  have C : CX Y X RX13 "tellRow" cX13_tellRow 7 none (e + 1) 0 0 := C0
  replace h := h X C
  show Wa Y X 7 (g_MQ Y X 0 (g_N RV 116 P) 0 0) 0 0 0 [(0, .ref (gl_b Y + 73)), (1, .int (i32 x1))] [] RV iv av 116
  refine r_aload_n (pc' := 1) C 0 rfl rfl dX13_tellRow_0 rfl ?_
  refine r_iconst (pc' := 2) C dX13_tellRow_1 rfl ?_
  refine r_puti (pc' := 5) (k := 73) C fl_X13_195 (by decide) kc_73 (by decide) fr_13_45 (by decide) dX13_tellRow_2 rfl ?_
  refine r_iconst (pc' := 6) C dX13_tellRow_5 rfl ?_
  refine r_istore_n (pc' := 7) (ls' := [(0, .ref (gl_b Y + 73)), (1, .int (i32 x1)), (2, .int (i32 0))]) C (by decide) rfl rfl dX13_tellRow_6 rfl ?_
  exact Wa.sub [0, 1, 2] rfl h
set_option maxHeartbeats 4000000 in
set_option maxRecDepth 100000 in
theorem o_X13_stepBits {Y : Gl} {e : Nat} {P : PN} {x0 : Int} {iv av : IVt} (hx0 : InR x0) (h : 
    ((¬ x0 = 16) →
      ((¬ x0 = 17) →
        ((¬ x0 = 18) →
          P 0 iv av
        ) ∧
        ((x0 = 18) →
          P 7 iv av
        )
      ) ∧
      ((x0 = 17) →
        P 3 iv av
      )
    ) ∧
    ((x0 = 16) →
      P 2 iv av
    )) : OkN Y e mX13_stepBits [.int (i32 x0)] RV iv av 116 P := by
  refine OkW.of rfl (by show _ ≤ 1; exact Nat.le_of_ble_eq_true rfl) fun X C0 hR => ?_
  have C : CX Y X RX13 "stepBits" cX13_stepBits 1 (some .int) e 0 0 := C0
  show Wa Y X 1 (g_MQ Y X 1 (g_N RV 116 P) 0 0) 0 0 0 [(0, .int (i32 x0))] [] RV iv av 116
  refine r_iload_n (pc' := 1) C 0 rfl rfl dX13_stepBits_0 rfl ?_
  refine r_bipush (pc' := 3) C dX13_stepBits_1 (by decide) rfl ?_
  refine r_icmp_ne (pc' := 6) (tgt := 10) C hx0 (by decide) dX13_stepBits_3 (by decide) rfl (fun c1 => ?_) (fun c1 => ?_)
  · replace h := h.1 c1
    refine r_iload_n (pc' := 11) C 0 rfl rfl dX13_stepBits_10 rfl ?_
    refine r_bipush (pc' := 13) C dX13_stepBits_11 (by decide) rfl ?_
    refine r_icmp_ne (pc' := 16) (tgt := 20) C hx0 (by decide) dX13_stepBits_13 (by decide) rfl (fun c2 => ?_) (fun c2 => ?_)
    · replace h := h.1 c2
      refine r_iload_n (pc' := 21) C 0 rfl rfl dX13_stepBits_20 rfl ?_
      refine r_bipush (pc' := 23) C dX13_stepBits_21 (by decide) rfl ?_
      refine r_icmp_ne (pc' := 26) (tgt := 31) C hx0 (by decide) dX13_stepBits_23 (by decide) rfl (fun c3 => ?_) (fun c3 => ?_)
      · replace h := h.1 c3
        refine r_iconst (pc' := 32) C dX13_stepBits_31 rfl ?_
        exact r_iret C (by decide) ⟨rfl, rfl, h⟩ dX13_stepBits_32
      · replace h := h.2 c3
        refine r_bipush (pc' := 28) C dX13_stepBits_26 (by decide) rfl ?_
        refine r_goto (tgt := 32) C dX13_stepBits_28 (by decide) ?_
        exact r_iret C (by decide) ⟨rfl, rfl, h⟩ dX13_stepBits_32
    · replace h := h.2 c2
      refine r_iconst (pc' := 17) C dX13_stepBits_16 rfl ?_
      refine r_goto (tgt := 32) C dX13_stepBits_17 (by decide) ?_
      exact r_iret C (by decide) ⟨rfl, rfl, h⟩ dX13_stepBits_32
  · replace h := h.2 c1
    refine r_iconst (pc' := 7) C dX13_stepBits_6 rfl ?_
    refine r_goto (tgt := 32) C dX13_stepBits_7 (by decide) ?_
    exact r_iret C (by decide) ⟨rfl, rfl, h⟩ dX13_stepBits_32
def L_X13_needed_3 (Y : Gl) (X : Cx) (P : PN) (x1 : Int) (x3 : Int) (x4 : Int) (iv av : IVt) : Prop := Wa Y X 5 (g_MQ Y X 1 (g_N RV 116 P) 0 0) 0 0 3 [(0, .ref (gl_b Y + 73)), (1, .int (i32 x1)), (3, .int (i32 x3)), (4, .int (i32 x4))] [] RV iv av 116
set_option maxHeartbeats 4000000 in
set_option maxRecDepth 100000 in
theorem w_X13_needed_3 {Y : Gl} {X : Cx} {e : Nat} {P : PN} {x1 : Int} {x3 : Int} {x4 : Int} {iv av : IVt} (C : CX Y X RX13 "needed" cX13_needed 5 (some .int) e 0 0) (hx3 : InR x3) (hx4 : InR x4) (h :
    ((x4 ≤ x3) →
      P x4 iv av
    ) ∧
    ((¬ x4 ≤ x3) →
      (0 ≤ ((x1 + x4) - 1) ∧ ((x1 + x4) - 1) < 339) ∧
      ((InR (av 99 ((x1 + x4) - 1).toNat)) →
        ((¬ (av 99 ((x1 + x4) - 1).toNat) = 0) →
          P x4 iv av
        ) ∧
        (((av 99 ((x1 + x4) - 1).toNat) = 0) →
          L_X13_needed_3 Y X P x1 x3 (x4 + (-1)) iv av
        )
      )
    )) : L_X13_needed_3 Y X P x1 x3 x4 iv av := by
  unfold L_X13_needed_3
  refine r_iload (pc' := 5) C 3 rfl dX13_needed_3 rfl ?_
  refine r_iload_n (pc' := 6) C 2 rfl rfl dX13_needed_5 rfl ?_
  refine r_icmp_le (pc' := 9) (tgt := 29) C hx4 hx3 dX13_needed_6 (by decide) rfl (fun c1 => ?_) (fun c1 => ?_)
  · replace h := h.1 c1
    refine r_iload (pc' := 31) C 3 rfl dX13_needed_29 rfl ?_
    exact r_iret C hx4 ⟨rfl, rfl, h⟩ dX13_needed_31
  · replace h := h.2 c1
    refine r_aload_n (pc' := 10) C 0 rfl rfl dX13_needed_9 rfl ?_
    refine r_getr (pc' := 13) (k := 73) (r := 99) C fl_X13_93 (by decide) kc_73 (by decide) fr_13_38 RV_73_38 dX13_needed_10 rfl ?_
    refine r_iload_n (pc' := 14) C 1 rfl rfl dX13_needed_13 rfl ?_
    refine r_iload (pc' := 16) C 3 rfl dX13_needed_14 rfl ?_
    refine r_iadd (pc' := 17) C dX13_needed_16 rfl ?_
    refine r_iconst (pc' := 18) C dX13_needed_17 rfl ?_
    refine r_isub (pc' := 19) C dX13_needed_18 rfl ?_
    have o2 := h.1
    replace h := h.2
    refine r_iald (pc' := 20) (k := 99) C (by decide) kc_99 (by have := kl_99; omega) dX13_needed_19 rfl (fun f3 => ?_)
    replace h := h f3
    refine r_if_ne (pc' := 23) (tgt := 29) C f3 dX13_needed_20 (by decide) rfl (fun c4 => ?_) (fun c4 => ?_)
    · replace h := h.1 c4
      refine r_iload (pc' := 31) C 3 rfl dX13_needed_29 rfl ?_
      exact r_iret C hx4 ⟨rfl, rfl, h⟩ dX13_needed_31
    · replace h := h.2 c4
      refine r_iinc (pc' := 26) (ls' := [(0, .ref (gl_b Y + 73)), (1, .int (i32 x1)), (3, .int (i32 x3)), (4, .int (i32 (x4 + (-1))))]) C 3 rfl (by decide) rfl dX13_needed_23 rfl ?_
      refine r_goto (tgt := 3) C dX13_needed_26 (by decide) ?_
      exact Wa.sub [0, 1, 2, 3] rfl h
set_option maxHeartbeats 4000000 in
set_option maxRecDepth 100000 in
theorem o_X13_needed {Y : Gl} {e : Nat} {P : PN} {x1 : Int} {x2 : Int} {x3 : Int} {iv av : IVt} (h : ∀ X : Cx, CX Y X RX13 "needed" cX13_needed 5 (some .int) e 0 0 →
    L_X13_needed_3 Y X P x1 x3 x2 iv av) : OkN Y e mX13_needed [.ref (gl_b Y + 73), .int (i32 x1), .int (i32 x2), .int (i32 x3)] RV iv av 116 P := by
  refine OkW.of rfl (by show _ ≤ 5; exact Nat.le_of_ble_eq_true rfl) fun X C0 hR => ?_
  have C : CX Y X RX13 "needed" cX13_needed 5 (some .int) e 0 0 := C0
  replace h := h X C
  show Wa Y X 5 (g_MQ Y X 1 (g_N RV 116 P) 0 0) 0 0 0 [(0, .ref (gl_b Y + 73)), (1, .int (i32 x1)), (2, .int (i32 x2)), (3, .int (i32 x3))] [] RV iv av 116
  refine r_iload_n (pc' := 1) C 2 rfl rfl dX13_needed_0 rfl ?_
  refine r_istore (pc' := 3) (ls' := [(0, .ref (gl_b Y + 73)), (1, .int (i32 x1)), (2, .int (i32 x2)), (3, .int (i32 x3)), (4, .int (i32 x2))]) C (by decide) rfl dX13_needed_1 rfl ?_
  exact Wa.sub [0, 1, 3, 4] rfl h
def L_X13_bitsBy_8 (Y : Gl) (X : Cx) (P : PN) (a1 : Nat) (x2 : Int) (x3 : Int) (iv av : IVt) : Prop := Wa Y X 6 (g_MQ Y X 1 (g_N RV 116 P) 0 0) 0 0 8 [(0, .ref (gl_b Y + 73)), (1, .ref (gl_b Y + a1)), (2, .int (i32 x2)), (3, .int (i32 x3))] [] RV iv av 116
set_option maxHeartbeats 4000000 in
set_option maxRecDepth 100000 in
theorem w_X13_bitsBy_8 {Y : Gl} {X : Cx} {e : Nat} {P : PN} {a1 : Nat} {x2 : Int} {x3 : Int} {iv av : IVt} (C : CX Y X RX13 "bitsBy" cX13_bitsBy 6 (some .int) (e + 3) 0 0) (Ka1 : ArrK 100 a1) (hx2 : InR x2) (hx3 : InR x3) (h :
    ((InR (iv 73 34)) →
      (((iv 73 34) ≤ x3) →
        P x2 iv av
      ) ∧
      ((¬ (iv 73 34) ≤ x3) →
        (0 ≤ x3 ∧ x3 < 4096) ∧
        ((InR (av 96 x3.toNat)) →
          OkN Y (e + 2) mX13_lengthSymbol [.int (i32 (av 96 x3.toNat))] RV iv av 116 (fun r5 iv6 av7 =>
            (InR r5) →
            ((InR (av7 97 x3.toNat)) →
              OkN Y (e + 2) mX13_distanceSymbol [.int (i32 (av7 97 x3.toNat))] RV iv6 av7 116 (fun r10 iv11 av12 =>
                (InR r10) →
                ((InR (av12 96 x3.toNat)) →
                  ((¬ (av12 96 x3.toNat) = 0) →
                    (0 ≤ r5 ∧ r5 < (kl a1 : Int)) ∧
                    ((InR (av12 a1 r5.toNat)) →
                      OkN Y (e + 2) mX13_lengthBits [.int (i32 r5)] RV iv11 av12 116 (fun r18 iv19 av20 =>
                        (InR r18) →
                        (0 ≤ (288 + r10) ∧ (288 + r10) < (kl a1 : Int)) ∧
                        ((InR (av20 a1 (288 + r10).toNat)) →
                          OkN Y (e + 2) mX13_distanceBits [.int (i32 r10)] RV iv19 av20 116 (fun r24 iv25 av26 =>
                            (InR r24) →
                            L_X13_bitsBy_8 Y X P a1 (x2 + ((((av12 a1 r5.toNat) + r18) + (av20 a1 (288 + r10).toNat)) + r24)) (x3 + 1) iv25 av26
                          )
                        )
                      )
                    )
                  ) ∧
                  (((av12 96 x3.toNat) = 0) →
                    ((InR (av12 97 x3.toNat)) →
                      (0 ≤ (av12 97 x3.toNat) ∧ (av12 97 x3.toNat) < (kl a1 : Int)) ∧
                      ((InR (av12 a1 (av12 97 x3.toNat).toNat)) →
                        L_X13_bitsBy_8 Y X P a1 (x2 + (av12 a1 (av12 97 x3.toNat).toNat)) (x3 + 1) iv11 av12
                      )
                    )
                  )
                )
              )
            )
          )
        )
      )
    )) : L_X13_bitsBy_8 Y X P a1 x2 x3 iv av := by
  obtain ⟨ha1c, ha1l⟩ := Ka1
  unfold L_X13_bitsBy_8
  refine r_iload_n (pc' := 9) C 3 rfl rfl dX13_bitsBy_8 rfl ?_
  refine r_aload_n (pc' := 10) C 0 rfl rfl dX13_bitsBy_9 rfl ?_
  refine r_geti (pc' := 13) (k := 73) C fl_X13_178 (by decide) kc_73 (by decide) fr_13_34 dX13_bitsBy_10 rfl (fun f1 => ?_)
  replace h := h f1
  refine r_icmp_ge (pc' := 16) (tgt := 92) C hx3 f1 dX13_bitsBy_13 (by decide) rfl (fun c2 => ?_) (fun c2 => ?_)
  · replace h := h.1 c2
    refine r_iload_n (pc' := 93) C 2 rfl rfl dX13_bitsBy_92 rfl ?_
    exact r_iret C hx2 ⟨rfl, rfl, h⟩ dX13_bitsBy_93
  · replace h := h.2 c2
    refine r_aload_n (pc' := 17) C 0 rfl rfl dX13_bitsBy_16 rfl ?_
    refine r_getr (pc' := 20) (k := 73) (r := 96) C fl_X13_84 (by decide) kc_73 (by decide) fr_13_35 RV_73_35 dX13_bitsBy_17 rfl ?_
    refine r_iload_n (pc' := 21) C 3 rfl rfl dX13_bitsBy_20 rfl ?_
    have o3 := h.1
    replace h := h.2
    refine r_iald (pc' := 22) (k := 96) C (by decide) kc_96 (by have := kl_96; omega) dX13_bitsBy_21 rfl (fun f4 => ?_)
    replace h := h f4
    refine c_Si (pc' := 25) (mt := mX13_lengthSymbol) (as := [.int (i32 (av 96 x3.toNat))]) (st := []) C h rfl cl_X13_lengthSymbol ml_X13_182 sm_X13_lengthSymbol (by omega) (Nat.le_refl _) (Nat.le_refl _) rfl rfl (Nat.le_of_ble_eq_true rfl) dX13_bitsBy_22 rfl (fun r5 iv6 av7 f8 h => ?_)
    replace h := h f8
    refine r_istore (pc' := 27) (ls' := [(0, .ref (gl_b Y + 73)), (1, .ref (gl_b Y + a1)), (2, .int (i32 x2)), (3, .int (i32 x3)), (4, .int (i32 r5))]) C (by decide) rfl dX13_bitsBy_25 rfl ?_
    refine r_aload_n (pc' := 28) C 0 rfl rfl dX13_bitsBy_27 rfl ?_
    refine r_getr (pc' := 31) (k := 73) (r := 97) C fl_X13_87 (by decide) kc_73 (by decide) fr_13_36 RV_73_36 dX13_bitsBy_28 rfl ?_
    refine r_iload_n (pc' := 32) C 3 rfl rfl dX13_bitsBy_31 rfl ?_
    refine r_iald (pc' := 33) (k := 97) C (by decide) kc_97 (by have := kl_97; omega) dX13_bitsBy_32 rfl (fun f9 => ?_)
    replace h := h f9
    refine c_Si (pc' := 36) (mt := mX13_distanceSymbol) (as := [.int (i32 (av7 97 x3.toNat))]) (st := []) C h rfl cl_X13_distanceSymbol ml_X13_185 sm_X13_distanceSymbol (by omega) (Nat.le_refl _) (Nat.le_refl _) rfl rfl (Nat.le_of_ble_eq_true rfl) dX13_bitsBy_33 rfl (fun r10 iv11 av12 f13 h => ?_)
    replace h := h f13
    refine r_istore (pc' := 38) (ls' := [(0, .ref (gl_b Y + 73)), (1, .ref (gl_b Y + a1)), (2, .int (i32 x2)), (3, .int (i32 x3)), (4, .int (i32 r5)), (5, .int (i32 r10))]) C (by decide) rfl dX13_bitsBy_36 rfl ?_
    refine r_iload_n (pc' := 39) C 2 rfl rfl dX13_bitsBy_38 rfl ?_
    refine r_aload_n (pc' := 40) C 0 rfl rfl dX13_bitsBy_39 rfl ?_
    refine r_getr (pc' := 43) (k := 73) (r := 96) C fl_X13_84 (by decide) kc_73 (by decide) fr_13_35 RV_73_35 dX13_bitsBy_40 rfl ?_
    refine r_iload_n (pc' := 44) C 3 rfl rfl dX13_bitsBy_43 rfl ?_
    refine r_iald (pc' := 45) (k := 96) C (by decide) kc_96 (by have := kl_96; omega) dX13_bitsBy_44 rfl (fun f14 => ?_)
    replace h := h f14
    refine r_if_ne (pc' := 48) (tgt := 59) C f14 dX13_bitsBy_45 (by decide) rfl (fun c15 => ?_) (fun c15 => ?_)
    · replace h := h.1 c15
      refine r_aload_n (pc' := 60) C 1 rfl rfl dX13_bitsBy_59 rfl ?_
      refine r_iload (pc' := 62) C 4 rfl dX13_bitsBy_60 rfl ?_
      have o16 := h.1
      replace h := h.2
      refine r_iald (pc' := 63) (k := a1) C (by omega) ha1c o16 dX13_bitsBy_62 rfl (fun f17 => ?_)
      replace h := h f17
      refine r_iload (pc' := 65) C 4 rfl dX13_bitsBy_63 rfl ?_
      refine c_Si (pc' := 68) (mt := mX13_lengthBits) (as := [.int (i32 r5)]) (st := [.int (i32 (av12 a1 r5.toNat)), .int (i32 x2)]) C h rfl cl_X13_lengthBits ml_X13_154 sm_X13_lengthBits (by omega) (Nat.le_refl _) (Nat.le_refl _) rfl rfl (Nat.le_of_ble_eq_true rfl) dX13_bitsBy_65 rfl (fun r18 iv19 av20 f21 h => ?_)
      replace h := h f21
      refine r_iadd (pc' := 69) C dX13_bitsBy_68 rfl ?_
      refine r_aload_n (pc' := 70) C 1 rfl rfl dX13_bitsBy_69 rfl ?_
      refine r_sipush (pc' := 73) C dX13_bitsBy_70 (by decide) rfl ?_
      refine r_iload (pc' := 75) C 5 rfl dX13_bitsBy_73 rfl ?_
      refine r_iadd (pc' := 76) C dX13_bitsBy_75 rfl ?_
      have o22 := h.1
      replace h := h.2
      refine r_iald (pc' := 77) (k := a1) C (by omega) ha1c o22 dX13_bitsBy_76 rfl (fun f23 => ?_)
      replace h := h f23
      refine r_iadd (pc' := 78) C dX13_bitsBy_77 rfl ?_
      refine r_iload (pc' := 80) C 5 rfl dX13_bitsBy_78 rfl ?_
      refine c_Si (pc' := 83) (mt := mX13_distanceBits) (as := [.int (i32 r10)]) (st := [.int (i32 (((av12 a1 r5.toNat) + r18) + (av20 a1 (288 + r10).toNat))), .int (i32 x2)]) C h rfl cl_X13_distanceBits ml_X13_158 sm_X13_distanceBits (by omega) (Nat.le_refl _) (Nat.le_refl _) rfl rfl (Nat.le_of_ble_eq_true rfl) dX13_bitsBy_80 rfl (fun r24 iv25 av26 f27 h => ?_)
      replace h := h f27
      refine r_iadd (pc' := 84) C dX13_bitsBy_83 rfl ?_
      refine r_iadd (pc' := 85) C dX13_bitsBy_84 rfl ?_
      refine r_istore_n (pc' := 86) (ls' := [(0, .ref (gl_b Y + 73)), (1, .ref (gl_b Y + a1)), (2, .int (i32 (x2 + ((((av12 a1 r5.toNat) + r18) + (av20 a1 (288 + r10).toNat)) + r24)))), (3, .int (i32 x3)), (4, .int (i32 r5)), (5, .int (i32 r10))]) C (by decide) rfl rfl dX13_bitsBy_85 rfl ?_
      refine r_iinc (pc' := 89) (ls' := [(0, .ref (gl_b Y + 73)), (1, .ref (gl_b Y + a1)), (2, .int (i32 (x2 + ((((av12 a1 r5.toNat) + r18) + (av20 a1 (288 + r10).toNat)) + r24)))), (3, .int (i32 (x3 + 1))), (4, .int (i32 r5)), (5, .int (i32 r10))]) C 3 rfl (by decide) rfl dX13_bitsBy_86 rfl ?_
      refine r_goto (tgt := 8) C dX13_bitsBy_89 (by decide) ?_
      exact Wa.sub [0, 1, 2, 3] rfl h
    · replace h := h.2 c15
      refine r_aload_n (pc' := 49) C 1 rfl rfl dX13_bitsBy_48 rfl ?_
      refine r_aload_n (pc' := 50) C 0 rfl rfl dX13_bitsBy_49 rfl ?_
      refine r_getr (pc' := 53) (k := 73) (r := 97) C fl_X13_87 (by decide) kc_73 (by decide) fr_13_36 RV_73_36 dX13_bitsBy_50 rfl ?_
      refine r_iload_n (pc' := 54) C 3 rfl rfl dX13_bitsBy_53 rfl ?_
      refine r_iald (pc' := 55) (k := 97) C (by decide) kc_97 (by have := kl_97; omega) dX13_bitsBy_54 rfl (fun f28 => ?_)
      replace h := h f28
      have o29 := h.1
      replace h := h.2
      refine r_iald (pc' := 56) (k := a1) C (by omega) ha1c o29 dX13_bitsBy_55 rfl (fun f30 => ?_)
      replace h := h f30
      refine r_goto (tgt := 84) C dX13_bitsBy_56 (by decide) ?_
      refine r_iadd (pc' := 85) C dX13_bitsBy_84 rfl ?_
      refine r_istore_n (pc' := 86) (ls' := [(0, .ref (gl_b Y + 73)), (1, .ref (gl_b Y + a1)), (2, .int (i32 (x2 + (av12 a1 (av12 97 x3.toNat).toNat)))), (3, .int (i32 x3)), (4, .int (i32 r5)), (5, .int (i32 r10))]) C (by decide) rfl rfl dX13_bitsBy_85 rfl ?_
      refine r_iinc (pc' := 89) (ls' := [(0, .ref (gl_b Y + 73)), (1, .ref (gl_b Y + a1)), (2, .int (i32 (x2 + (av12 a1 (av12 97 x3.toNat).toNat)))), (3, .int (i32 (x3 + 1))), (4, .int (i32 r5)), (5, .int (i32 r10))]) C 3 rfl (by decide) rfl dX13_bitsBy_86 rfl ?_
      refine r_goto (tgt := 8) C dX13_bitsBy_89 (by decide) ?_
      exact Wa.sub [0, 1, 2, 3] rfl h
set_option maxHeartbeats 4000000 in
set_option maxRecDepth 100000 in
theorem o_X13_bitsBy {Y : Gl} {e : Nat} {P : PN} {a1 : Nat} {iv av : IVt} (Ka1 : ArrK 100 a1) (h : ∀ X : Cx, CX Y X RX13 "bitsBy" cX13_bitsBy 6 (some .int) (e + 3) 0 0 →
    ((0 : Int) ≤ 256 ∧ (256 : Int) < (kl a1 : Int)) ∧
    ((InR (av a1 256)) →
      L_X13_bitsBy_8 Y X P a1 (av a1 256) 0 iv av
    )) : OkN Y (e + 3) mX13_bitsBy [.ref (gl_b Y + 73), .ref (gl_b Y + a1)] RV iv av 116 P := by
  obtain ⟨ha1c, ha1l⟩ := Ka1
  refine OkW.of rfl (by show _ ≤ 6; exact Nat.le_of_ble_eq_true rfl) fun X C0 hR => ?_
  have C : CX Y X RX13 "bitsBy" cX13_bitsBy 6 (some .int) (e + 3) 0 0 := C0
  replace h := h X C
  show Wa Y X 6 (g_MQ Y X 1 (g_N RV 116 P) 0 0) 0 0 0 [(0, .ref (gl_b Y + 73)), (1, .ref (gl_b Y + a1))] [] RV iv av 116
  refine r_aload_n (pc' := 1) C 1 rfl rfl dX13_bitsBy_0 rfl ?_
  refine r_sipush (pc' := 4) C dX13_bitsBy_1 (by decide) rfl ?_
  have o1 := h.1
  replace h := h.2
  refine r_iald (pc' := 5) (k := a1) C (by omega) ha1c o1 dX13_bitsBy_4 rfl (fun f2 => ?_)
  replace f2 : InR (av a1 256) := f2
  rw [show (256 : Int).toNat = 256 from rfl]
  replace h := h f2
  refine r_istore_n (pc' := 6) (ls' := [(0, .ref (gl_b Y + 73)), (1, .ref (gl_b Y + a1)), (2, .int (i32 (av a1 256)))]) C (by decide) rfl rfl dX13_bitsBy_5 rfl ?_
  refine r_iconst (pc' := 7) C dX13_bitsBy_6 rfl ?_
  refine r_istore_n (pc' := 8) (ls' := [(0, .ref (gl_b Y + 73)), (1, .ref (gl_b Y + a1)), (2, .int (i32 (av a1 256))), (3, .int (i32 0))]) C (by decide) rfl rfl dX13_bitsBy_7 rfl ?_
  exact Wa.sub [0, 1, 2, 3] rfl h
def L_X13_writeTokens_21 (Y : Gl) (X : Cx) (P : PN) (a1 : Nat) (x2 : Int) (iv av : IVt) : Prop := Wa Y X 5 (g_MQ Y X 0 (g_N RV 116 P) 0 0) 0 0 21 [(0, .ref (gl_b Y + 73)), (1, .ref (gl_b Y + a1)), (2, .int (i32 x2))] [] RV iv av 116
set_option maxHeartbeats 4000000 in
set_option maxRecDepth 100000 in
theorem w_X13_writeTokens_21 {Y : Gl} {X : Cx} {e : Nat} {P : PN} {a1 : Nat} {x2 : Int} {iv av : IVt} (C : CX Y X RX13 "writeTokens" cX13_writeTokens 5 none (e + 3) 0 0) (Ka1 : ArrK 100 a1) (hx2 : InR x2) (h :
    ((InR (iv 73 34)) →
      (((iv 73 34) ≤ x2) →
        OkN Y (e + 2) mX13_writeCode [.ref (gl_b Y + 73), .ref (gl_b Y + a1), .int (i32 256)] RV iv av 116 (fun r3 iv4 av5 =>
          P 0 iv4 av5
        )
      ) ∧
      ((¬ (iv 73 34) ≤ x2) →
        (0 ≤ x2 ∧ x2 < 4096) ∧
        ((InR (av 96 x2.toNat)) →
          ((¬ (av 96 x2.toNat) = 0) →
            OkN Y (e + 2) mX13_lengthSymbol [.int (i32 (av 96 x2.toNat))] RV iv av 116 (fun r11 iv12 av13 =>
              (InR r11) →
              OkN Y (e + 2) mX13_writeCode [.ref (gl_b Y + 73), .ref (gl_b Y + a1), .int (i32 r11)] RV iv12 av13 116 (fun r15 iv16 av17 =>
                ((InR (av17 96 x2.toNat)) →
                  (((av17 96 x2.toNat) ≤ 0) →
                    L_X13_writeTokens_21 Y X P a1 (x2 + 1) iv16 av17
                  ) ∧
                  ((¬ (av17 96 x2.toNat) ≤ 0) →
                    ((InR (av17 97 x2.toNat)) →
                      OkN Y (e + 2) mX13_distanceSymbol [.int (i32 (av17 97 x2.toNat))] RV iv16 av17 116 (fun r22 iv23 av24 =>
                        (InR r22) →
                        ((InR (av24 96 x2.toNat)) →
                          OkN Y (e + 2) mX13_lengthBase [.int (i32 r11)] RV iv23 av24 116 (fun r27 iv28 av29 =>
                            (InR r27) →
                            OkN Y (e + 2) mX13_lengthBits [.int (i32 r11)] RV iv28 av29 116 (fun r31 iv32 av33 =>
                              (InR r31) →
                              (InR ((av24 96 x2.toNat) - r27)) ∧
                              OkN Y (e + 2) mX13_writeNumber [.ref (gl_b Y + 73), .int (i32 ((av24 96 x2.toNat) - r27)), .int (i32 r31)] RV iv32 av33 116 (fun r36 iv37 av38 =>
                                (InR (288 + r22)) ∧
                                OkN Y (e + 2) mX13_writeCode [.ref (gl_b Y + 73), .ref (gl_b Y + a1), .int (i32 (288 + r22))] RV iv37 av38 116 (fun r41 iv42 av43 =>
                                  ((InR (av43 97 x2.toNat)) →
                                    OkN Y (e + 2) mX13_distanceBase [.int (i32 r22)] RV iv42 av43 116 (fun r46 iv47 av48 =>
                                      (InR r46) →
                                      OkN Y (e + 2) mX13_distanceBits [.int (i32 r22)] RV iv47 av48 116 (fun r50 iv51 av52 =>
                                        (InR r50) →
                                        (InR ((av43 97 x2.toNat) - r46)) ∧
                                        OkN Y (e + 2) mX13_writeNumber [.ref (gl_b Y + 73), .int (i32 ((av43 97 x2.toNat) - r46)), .int (i32 r50)] RV iv51 av52 116 (fun r55 iv56 av57 =>
                                          L_X13_writeTokens_21 Y X P a1 (x2 + 1) iv56 av57
                                        )
                                      )
                                    )
                                  )
                                )
                              )
                            )
                          )
                        )
                      )
                    )
                  )
                )
              )
            )
          ) ∧
          (((av 96 x2.toNat) = 0) →
            ((InR (av 97 x2.toNat)) →
              OkN Y (e + 2) mX13_writeCode [.ref (gl_b Y + 73), .ref (gl_b Y + a1), .int (i32 (av 97 x2.toNat))] RV iv av 116 (fun r60 iv61 av62 =>
                ((InR (av62 96 x2.toNat)) →
                  (((av62 96 x2.toNat) ≤ 0) →
                    L_X13_writeTokens_21 Y X P a1 (x2 + 1) iv61 av62
                  ) ∧
                  ((¬ (av62 96 x2.toNat) ≤ 0) →
                    ((InR (av62 97 x2.toNat)) →
                      OkN Y (e + 2) mX13_distanceSymbol [.int (i32 (av62 97 x2.toNat))] RV iv61 av62 116 (fun r67 iv68 av69 =>
                        (InR r67) →
                        ((InR (av69 96 x2.toNat)) →
                          OkN Y (e + 2) mX13_lengthBase [.int (i32 (av 97 x2.toNat))] RV iv68 av69 116 (fun r72 iv73 av74 =>
                            (InR r72) →
                            OkN Y (e + 2) mX13_lengthBits [.int (i32 (av 97 x2.toNat))] RV iv73 av74 116 (fun r76 iv77 av78 =>
                              (InR r76) →
                              (InR ((av69 96 x2.toNat) - r72)) ∧
                              OkN Y (e + 2) mX13_writeNumber [.ref (gl_b Y + 73), .int (i32 ((av69 96 x2.toNat) - r72)), .int (i32 r76)] RV iv77 av78 116 (fun r81 iv82 av83 =>
                                (InR (288 + r67)) ∧
                                OkN Y (e + 2) mX13_writeCode [.ref (gl_b Y + 73), .ref (gl_b Y + a1), .int (i32 (288 + r67))] RV iv82 av83 116 (fun r86 iv87 av88 =>
                                  ((InR (av88 97 x2.toNat)) →
                                    OkN Y (e + 2) mX13_distanceBase [.int (i32 r67)] RV iv87 av88 116 (fun r91 iv92 av93 =>
                                      (InR r91) →
                                      OkN Y (e + 2) mX13_distanceBits [.int (i32 r67)] RV iv92 av93 116 (fun r95 iv96 av97 =>
                                        (InR r95) →
                                        (InR ((av88 97 x2.toNat) - r91)) ∧
                                        OkN Y (e + 2) mX13_writeNumber [.ref (gl_b Y + 73), .int (i32 ((av88 97 x2.toNat) - r91)), .int (i32 r95)] RV iv96 av97 116 (fun r100 iv101 av102 =>
                                          L_X13_writeTokens_21 Y X P a1 (x2 + 1) iv101 av102
                                        )
                                      )
                                    )
                                  )
                                )
                              )
                            )
                          )
                        )
                      )
                    )
                  )
                )
              )
            )
          )
        )
      )
    )) : L_X13_writeTokens_21 Y X P a1 x2 iv av := by
  obtain ⟨ha1c, ha1l⟩ := Ka1
  unfold L_X13_writeTokens_21
  refine r_iload_n (pc' := 22) C 2 rfl rfl dX13_writeTokens_21 rfl ?_
  refine r_aload_n (pc' := 23) C 0 rfl rfl dX13_writeTokens_22 rfl ?_
  refine r_geti (pc' := 26) (k := 73) C fl_X13_178 (by decide) kc_73 (by decide) fr_13_34 dX13_writeTokens_23 rfl (fun f1 => ?_)
  replace h := h f1
  refine r_icmp_ge (pc' := 29) (tgt := 140) C hx2 f1 dX13_writeTokens_26 (by decide) rfl (fun c2 => ?_) (fun c2 => ?_)
  · replace h := h.1 c2
    refine r_aload_n (pc' := 141) C 0 rfl rfl dX13_writeTokens_140 rfl ?_
    refine r_aload_n (pc' := 142) C 1 rfl rfl dX13_writeTokens_141 rfl ?_
    refine r_sipush (pc' := 145) C dX13_writeTokens_142 (by decide) rfl ?_
    refine c_Vv (pc' := 148) (mt := mX13_writeCode) (as := [.ref (gl_b Y + a1), .int (i32 256)]) (st := []) (k := 73) C h rfl cl_X13_writeCode ml_X13_206 im_X13_writeCode sl_X13_writeCode (by omega) (Nat.le_refl _) (Nat.le_refl _) rfl (by decide) kc_73 (by decide) rfl rfl rfl (Nat.le_of_ble_eq_true rfl) dX13_writeTokens_145 rfl (fun r3 iv4 av5 h => ?_)
    exact r_vret C ⟨rfl, rfl, h⟩ dX13_writeTokens_148
  · replace h := h.2 c2
    refine r_aload_n (pc' := 30) C 0 rfl rfl dX13_writeTokens_29 rfl ?_
    refine r_getr (pc' := 33) (k := 73) (r := 96) C fl_X13_84 (by decide) kc_73 (by decide) fr_13_35 RV_73_35 dX13_writeTokens_30 rfl ?_
    refine r_iload_n (pc' := 34) C 2 rfl rfl dX13_writeTokens_33 rfl ?_
    have o7 := h.1
    replace h := h.2
    refine r_iald (pc' := 35) (k := 96) C (by decide) kc_96 (by have := kl_96; omega) dX13_writeTokens_34 rfl (fun f8 => ?_)
    replace h := h f8
    refine r_if_ne (pc' := 38) (tgt := 47) C f8 dX13_writeTokens_35 (by decide) rfl (fun c9 => ?_) (fun c9 => ?_)
    · replace h := h.1 c9
      refine r_aload_n (pc' := 48) C 0 rfl rfl dX13_writeTokens_47 rfl ?_
      refine r_getr (pc' := 51) (k := 73) (r := 96) C fl_X13_84 (by decide) kc_73 (by decide) fr_13_35 RV_73_35 dX13_writeTokens_48 rfl ?_
      refine r_iload_n (pc' := 52) C 2 rfl rfl dX13_writeTokens_51 rfl ?_
      refine r_iald (pc' := 53) (k := 96) C (by decide) kc_96 (by have := kl_96; omega) dX13_writeTokens_52 rfl (fun f10 => ?_)
      refine c_Si (pc' := 56) (mt := mX13_lengthSymbol) (as := [.int (i32 (av 96 x2.toNat))]) (st := []) C h rfl cl_X13_lengthSymbol ml_X13_182 sm_X13_lengthSymbol (by omega) (Nat.le_refl _) (Nat.le_refl _) rfl rfl (Nat.le_of_ble_eq_true rfl) dX13_writeTokens_53 rfl (fun r11 iv12 av13 f14 h => ?_)
      replace h := h f14
      refine r_istore_n (pc' := 57) (ls' := [(0, .ref (gl_b Y + 73)), (1, .ref (gl_b Y + a1)), (2, .int (i32 x2)), (3, .int (i32 r11))]) C (by decide) rfl rfl dX13_writeTokens_56 rfl ?_
      refine r_aload_n (pc' := 58) C 0 rfl rfl dX13_writeTokens_57 rfl ?_
      refine r_aload_n (pc' := 59) C 1 rfl rfl dX13_writeTokens_58 rfl ?_
      refine r_iload_n (pc' := 60) C 3 rfl rfl dX13_writeTokens_59 rfl ?_
      refine c_Vv (pc' := 63) (mt := mX13_writeCode) (as := [.ref (gl_b Y + a1), .int (i32 r11)]) (st := []) (k := 73) C h rfl cl_X13_writeCode ml_X13_206 im_X13_writeCode sl_X13_writeCode (by omega) (Nat.le_refl _) (Nat.le_refl _) rfl (by decide) kc_73 (by decide) rfl rfl rfl (Nat.le_of_ble_eq_true rfl) dX13_writeTokens_60 rfl (fun r15 iv16 av17 h => ?_)
      refine r_aload_n (pc' := 64) C 0 rfl rfl dX13_writeTokens_63 rfl ?_
      refine r_getr (pc' := 67) (k := 73) (r := 96) C fl_X13_84 (by decide) kc_73 (by decide) fr_13_35 RV_73_35 dX13_writeTokens_64 rfl ?_
      refine r_iload_n (pc' := 68) C 2 rfl rfl dX13_writeTokens_67 rfl ?_
      refine r_iald (pc' := 69) (k := 96) C (by decide) kc_96 (by have := kl_96; omega) dX13_writeTokens_68 rfl (fun f19 => ?_)
      replace h := h f19
      refine r_if_le (pc' := 72) (tgt := 134) C f19 dX13_writeTokens_69 (by decide) rfl (fun c20 => ?_) (fun c20 => ?_)
      · replace h := h.1 c20
        refine r_iinc (pc' := 137) (ls' := [(0, .ref (gl_b Y + 73)), (1, .ref (gl_b Y + a1)), (2, .int (i32 (x2 + 1))), (3, .int (i32 r11))]) C 2 rfl (by decide) rfl dX13_writeTokens_134 rfl ?_
        refine r_goto (tgt := 21) C dX13_writeTokens_137 (by decide) ?_
        exact Wa.sub [0, 1, 2] rfl h
      · replace h := h.2 c20
        refine r_aload_n (pc' := 73) C 0 rfl rfl dX13_writeTokens_72 rfl ?_
        refine r_getr (pc' := 76) (k := 73) (r := 97) C fl_X13_87 (by decide) kc_73 (by decide) fr_13_36 RV_73_36 dX13_writeTokens_73 rfl ?_
        refine r_iload_n (pc' := 77) C 2 rfl rfl dX13_writeTokens_76 rfl ?_
        refine r_iald (pc' := 78) (k := 97) C (by decide) kc_97 (by have := kl_97; omega) dX13_writeTokens_77 rfl (fun f21 => ?_)
        replace h := h f21
        refine c_Si (pc' := 81) (mt := mX13_distanceSymbol) (as := [.int (i32 (av17 97 x2.toNat))]) (st := []) C h rfl cl_X13_distanceSymbol ml_X13_185 sm_X13_distanceSymbol (by omega) (Nat.le_refl _) (Nat.le_refl _) rfl rfl (Nat.le_of_ble_eq_true rfl) dX13_writeTokens_78 rfl (fun r22 iv23 av24 f25 h => ?_)
        replace h := h f25
        refine r_istore (pc' := 83) (ls' := [(0, .ref (gl_b Y + 73)), (1, .ref (gl_b Y + a1)), (2, .int (i32 x2)), (3, .int (i32 r11)), (4, .int (i32 r22))]) C (by decide) rfl dX13_writeTokens_81 rfl ?_
        refine r_aload_n (pc' := 84) C 0 rfl rfl dX13_writeTokens_83 rfl ?_
        refine r_aload_n (pc' := 85) C 0 rfl rfl dX13_writeTokens_84 rfl ?_
        refine r_getr (pc' := 88) (k := 73) (r := 96) C fl_X13_84 (by decide) kc_73 (by decide) fr_13_35 RV_73_35 dX13_writeTokens_85 rfl ?_
        refine r_iload_n (pc' := 89) C 2 rfl rfl dX13_writeTokens_88 rfl ?_
        refine r_iald (pc' := 90) (k := 96) C (by decide) kc_96 (by have := kl_96; omega) dX13_writeTokens_89 rfl (fun f26 => ?_)
        replace h := h f26
        refine r_iload_n (pc' := 91) C 3 rfl rfl dX13_writeTokens_90 rfl ?_
        refine c_Si (pc' := 94) (mt := mX13_lengthBase) (as := [.int (i32 r11)]) (st := [.int (i32 (av24 96 x2.toNat)), .ref (gl_b Y + 73)]) C h rfl cl_X13_lengthBase ml_X13_161 sm_X13_lengthBase (by omega) (Nat.le_refl _) (Nat.le_refl _) rfl rfl (Nat.le_of_ble_eq_true rfl) dX13_writeTokens_91 rfl (fun r27 iv28 av29 f30 h => ?_)
        replace h := h f30
        refine r_isub (pc' := 95) C dX13_writeTokens_94 rfl ?_
        refine r_iload_n (pc' := 96) C 3 rfl rfl dX13_writeTokens_95 rfl ?_
        refine c_Si (pc' := 99) (mt := mX13_lengthBits) (as := [.int (i32 r11)]) (st := [.int (i32 ((av24 96 x2.toNat) - r27)), .ref (gl_b Y + 73)]) C h rfl cl_X13_lengthBits ml_X13_154 sm_X13_lengthBits (by omega) (Nat.le_refl _) (Nat.le_refl _) rfl rfl (Nat.le_of_ble_eq_true rfl) dX13_writeTokens_96 rfl (fun r31 iv32 av33 f34 h => ?_)
        replace h := h f34
        have o35 := h.1
        replace h := h.2
        refine c_Vv (pc' := 102) (mt := mX13_writeNumber) (as := [.int (i32 ((av24 96 x2.toNat) - r27)), .int (i32 r31)]) (st := []) (k := 73) C h rfl cl_X13_writeNumber ml_X13_210 im_X13_writeNumber sl_X13_writeNumber (by omega) (Nat.le_refl _) (Nat.le_refl _) rfl (by decide) kc_73 (by decide) rfl rfl rfl (Nat.le_of_ble_eq_true rfl) dX13_writeTokens_99 rfl (fun r36 iv37 av38 h => ?_)
        refine r_aload_n (pc' := 103) C 0 rfl rfl dX13_writeTokens_102 rfl ?_
        refine r_aload_n (pc' := 104) C 1 rfl rfl dX13_writeTokens_103 rfl ?_
        refine r_sipush (pc' := 107) C dX13_writeTokens_104 (by decide) rfl ?_
        refine r_iload (pc' := 109) C 4 rfl dX13_writeTokens_107 rfl ?_
        refine r_iadd (pc' := 110) C dX13_writeTokens_109 rfl ?_
        have o40 := h.1
        replace h := h.2
        refine c_Vv (pc' := 113) (mt := mX13_writeCode) (as := [.ref (gl_b Y + a1), .int (i32 (288 + r22))]) (st := []) (k := 73) C h rfl cl_X13_writeCode ml_X13_206 im_X13_writeCode sl_X13_writeCode (by omega) (Nat.le_refl _) (Nat.le_refl _) rfl (by decide) kc_73 (by decide) rfl rfl rfl (Nat.le_of_ble_eq_true rfl) dX13_writeTokens_110 rfl (fun r41 iv42 av43 h => ?_)
        refine r_aload_n (pc' := 114) C 0 rfl rfl dX13_writeTokens_113 rfl ?_
        refine r_aload_n (pc' := 115) C 0 rfl rfl dX13_writeTokens_114 rfl ?_
        refine r_getr (pc' := 118) (k := 73) (r := 97) C fl_X13_87 (by decide) kc_73 (by decide) fr_13_36 RV_73_36 dX13_writeTokens_115 rfl ?_
        refine r_iload_n (pc' := 119) C 2 rfl rfl dX13_writeTokens_118 rfl ?_
        refine r_iald (pc' := 120) (k := 97) C (by decide) kc_97 (by have := kl_97; omega) dX13_writeTokens_119 rfl (fun f45 => ?_)
        replace h := h f45
        refine r_iload (pc' := 122) C 4 rfl dX13_writeTokens_120 rfl ?_
        refine c_Si (pc' := 125) (mt := mX13_distanceBase) (as := [.int (i32 r22)]) (st := [.int (i32 (av43 97 x2.toNat)), .ref (gl_b Y + 73)]) C h rfl cl_X13_distanceBase ml_X13_164 sm_X13_distanceBase (by omega) (Nat.le_refl _) (Nat.le_refl _) rfl rfl (Nat.le_of_ble_eq_true rfl) dX13_writeTokens_122 rfl (fun r46 iv47 av48 f49 h => ?_)
        replace h := h f49
        refine r_isub (pc' := 126) C dX13_writeTokens_125 rfl ?_
        refine r_iload (pc' := 128) C 4 rfl dX13_writeTokens_126 rfl ?_
        refine c_Si (pc' := 131) (mt := mX13_distanceBits) (as := [.int (i32 r22)]) (st := [.int (i32 ((av43 97 x2.toNat) - r46)), .ref (gl_b Y + 73)]) C h rfl cl_X13_distanceBits ml_X13_158 sm_X13_distanceBits (by omega) (Nat.le_refl _) (Nat.le_refl _) rfl rfl (Nat.le_of_ble_eq_true rfl) dX13_writeTokens_128 rfl (fun r50 iv51 av52 f53 h => ?_)
        replace h := h f53
        have o54 := h.1
        replace h := h.2
        refine c_Vv (pc' := 134) (mt := mX13_writeNumber) (as := [.int (i32 ((av43 97 x2.toNat) - r46)), .int (i32 r50)]) (st := []) (k := 73) C h rfl cl_X13_writeNumber ml_X13_210 im_X13_writeNumber sl_X13_writeNumber (by omega) (Nat.le_refl _) (Nat.le_refl _) rfl (by decide) kc_73 (by decide) rfl rfl rfl (Nat.le_of_ble_eq_true rfl) dX13_writeTokens_131 rfl (fun r55 iv56 av57 h => ?_)
        refine r_iinc (pc' := 137) (ls' := [(0, .ref (gl_b Y + 73)), (1, .ref (gl_b Y + a1)), (2, .int (i32 (x2 + 1))), (3, .int (i32 r11)), (4, .int (i32 r22))]) C 2 rfl (by decide) rfl dX13_writeTokens_134 rfl ?_
        refine r_goto (tgt := 21) C dX13_writeTokens_137 (by decide) ?_
        exact Wa.sub [0, 1, 2] rfl h
    · replace h := h.2 c9
      refine r_aload_n (pc' := 39) C 0 rfl rfl dX13_writeTokens_38 rfl ?_
      refine r_getr (pc' := 42) (k := 73) (r := 97) C fl_X13_87 (by decide) kc_73 (by decide) fr_13_36 RV_73_36 dX13_writeTokens_39 rfl ?_
      refine r_iload_n (pc' := 43) C 2 rfl rfl dX13_writeTokens_42 rfl ?_
      refine r_iald (pc' := 44) (k := 97) C (by decide) kc_97 (by have := kl_97; omega) dX13_writeTokens_43 rfl (fun f59 => ?_)
      replace h := h f59
      refine r_goto (tgt := 56) C dX13_writeTokens_44 (by decide) ?_
      refine r_istore_n (pc' := 57) (ls' := [(0, .ref (gl_b Y + 73)), (1, .ref (gl_b Y + a1)), (2, .int (i32 x2)), (3, .int (i32 (av 97 x2.toNat)))]) C (by decide) rfl rfl dX13_writeTokens_56 rfl ?_
      refine r_aload_n (pc' := 58) C 0 rfl rfl dX13_writeTokens_57 rfl ?_
      refine r_aload_n (pc' := 59) C 1 rfl rfl dX13_writeTokens_58 rfl ?_
      refine r_iload_n (pc' := 60) C 3 rfl rfl dX13_writeTokens_59 rfl ?_
      refine c_Vv (pc' := 63) (mt := mX13_writeCode) (as := [.ref (gl_b Y + a1), .int (i32 (av 97 x2.toNat))]) (st := []) (k := 73) C h rfl cl_X13_writeCode ml_X13_206 im_X13_writeCode sl_X13_writeCode (by omega) (Nat.le_refl _) (Nat.le_refl _) rfl (by decide) kc_73 (by decide) rfl rfl rfl (Nat.le_of_ble_eq_true rfl) dX13_writeTokens_60 rfl (fun r60 iv61 av62 h => ?_)
      refine r_aload_n (pc' := 64) C 0 rfl rfl dX13_writeTokens_63 rfl ?_
      refine r_getr (pc' := 67) (k := 73) (r := 96) C fl_X13_84 (by decide) kc_73 (by decide) fr_13_35 RV_73_35 dX13_writeTokens_64 rfl ?_
      refine r_iload_n (pc' := 68) C 2 rfl rfl dX13_writeTokens_67 rfl ?_
      refine r_iald (pc' := 69) (k := 96) C (by decide) kc_96 (by have := kl_96; omega) dX13_writeTokens_68 rfl (fun f64 => ?_)
      replace h := h f64
      refine r_if_le (pc' := 72) (tgt := 134) C f64 dX13_writeTokens_69 (by decide) rfl (fun c65 => ?_) (fun c65 => ?_)
      · replace h := h.1 c65
        refine r_iinc (pc' := 137) (ls' := [(0, .ref (gl_b Y + 73)), (1, .ref (gl_b Y + a1)), (2, .int (i32 (x2 + 1))), (3, .int (i32 (av 97 x2.toNat)))]) C 2 rfl (by decide) rfl dX13_writeTokens_134 rfl ?_
        refine r_goto (tgt := 21) C dX13_writeTokens_137 (by decide) ?_
        exact Wa.sub [0, 1, 2] rfl h
      · replace h := h.2 c65
        refine r_aload_n (pc' := 73) C 0 rfl rfl dX13_writeTokens_72 rfl ?_
        refine r_getr (pc' := 76) (k := 73) (r := 97) C fl_X13_87 (by decide) kc_73 (by decide) fr_13_36 RV_73_36 dX13_writeTokens_73 rfl ?_
        refine r_iload_n (pc' := 77) C 2 rfl rfl dX13_writeTokens_76 rfl ?_
        refine r_iald (pc' := 78) (k := 97) C (by decide) kc_97 (by have := kl_97; omega) dX13_writeTokens_77 rfl (fun f66 => ?_)
        replace h := h f66
        refine c_Si (pc' := 81) (mt := mX13_distanceSymbol) (as := [.int (i32 (av62 97 x2.toNat))]) (st := []) C h rfl cl_X13_distanceSymbol ml_X13_185 sm_X13_distanceSymbol (by omega) (Nat.le_refl _) (Nat.le_refl _) rfl rfl (Nat.le_of_ble_eq_true rfl) dX13_writeTokens_78 rfl (fun r67 iv68 av69 f70 h => ?_)
        replace h := h f70
        refine r_istore (pc' := 83) (ls' := [(0, .ref (gl_b Y + 73)), (1, .ref (gl_b Y + a1)), (2, .int (i32 x2)), (3, .int (i32 (av 97 x2.toNat))), (4, .int (i32 r67))]) C (by decide) rfl dX13_writeTokens_81 rfl ?_
        refine r_aload_n (pc' := 84) C 0 rfl rfl dX13_writeTokens_83 rfl ?_
        refine r_aload_n (pc' := 85) C 0 rfl rfl dX13_writeTokens_84 rfl ?_
        refine r_getr (pc' := 88) (k := 73) (r := 96) C fl_X13_84 (by decide) kc_73 (by decide) fr_13_35 RV_73_35 dX13_writeTokens_85 rfl ?_
        refine r_iload_n (pc' := 89) C 2 rfl rfl dX13_writeTokens_88 rfl ?_
        refine r_iald (pc' := 90) (k := 96) C (by decide) kc_96 (by have := kl_96; omega) dX13_writeTokens_89 rfl (fun f71 => ?_)
        replace h := h f71
        refine r_iload_n (pc' := 91) C 3 rfl rfl dX13_writeTokens_90 rfl ?_
        refine c_Si (pc' := 94) (mt := mX13_lengthBase) (as := [.int (i32 (av 97 x2.toNat))]) (st := [.int (i32 (av69 96 x2.toNat)), .ref (gl_b Y + 73)]) C h rfl cl_X13_lengthBase ml_X13_161 sm_X13_lengthBase (by omega) (Nat.le_refl _) (Nat.le_refl _) rfl rfl (Nat.le_of_ble_eq_true rfl) dX13_writeTokens_91 rfl (fun r72 iv73 av74 f75 h => ?_)
        replace h := h f75
        refine r_isub (pc' := 95) C dX13_writeTokens_94 rfl ?_
        refine r_iload_n (pc' := 96) C 3 rfl rfl dX13_writeTokens_95 rfl ?_
        refine c_Si (pc' := 99) (mt := mX13_lengthBits) (as := [.int (i32 (av 97 x2.toNat))]) (st := [.int (i32 ((av69 96 x2.toNat) - r72)), .ref (gl_b Y + 73)]) C h rfl cl_X13_lengthBits ml_X13_154 sm_X13_lengthBits (by omega) (Nat.le_refl _) (Nat.le_refl _) rfl rfl (Nat.le_of_ble_eq_true rfl) dX13_writeTokens_96 rfl (fun r76 iv77 av78 f79 h => ?_)
        replace h := h f79
        have o80 := h.1
        replace h := h.2
        refine c_Vv (pc' := 102) (mt := mX13_writeNumber) (as := [.int (i32 ((av69 96 x2.toNat) - r72)), .int (i32 r76)]) (st := []) (k := 73) C h rfl cl_X13_writeNumber ml_X13_210 im_X13_writeNumber sl_X13_writeNumber (by omega) (Nat.le_refl _) (Nat.le_refl _) rfl (by decide) kc_73 (by decide) rfl rfl rfl (Nat.le_of_ble_eq_true rfl) dX13_writeTokens_99 rfl (fun r81 iv82 av83 h => ?_)
        refine r_aload_n (pc' := 103) C 0 rfl rfl dX13_writeTokens_102 rfl ?_
        refine r_aload_n (pc' := 104) C 1 rfl rfl dX13_writeTokens_103 rfl ?_
        refine r_sipush (pc' := 107) C dX13_writeTokens_104 (by decide) rfl ?_
        refine r_iload (pc' := 109) C 4 rfl dX13_writeTokens_107 rfl ?_
        refine r_iadd (pc' := 110) C dX13_writeTokens_109 rfl ?_
        have o85 := h.1
        replace h := h.2
        refine c_Vv (pc' := 113) (mt := mX13_writeCode) (as := [.ref (gl_b Y + a1), .int (i32 (288 + r67))]) (st := []) (k := 73) C h rfl cl_X13_writeCode ml_X13_206 im_X13_writeCode sl_X13_writeCode (by omega) (Nat.le_refl _) (Nat.le_refl _) rfl (by decide) kc_73 (by decide) rfl rfl rfl (Nat.le_of_ble_eq_true rfl) dX13_writeTokens_110 rfl (fun r86 iv87 av88 h => ?_)
        refine r_aload_n (pc' := 114) C 0 rfl rfl dX13_writeTokens_113 rfl ?_
        refine r_aload_n (pc' := 115) C 0 rfl rfl dX13_writeTokens_114 rfl ?_
        refine r_getr (pc' := 118) (k := 73) (r := 97) C fl_X13_87 (by decide) kc_73 (by decide) fr_13_36 RV_73_36 dX13_writeTokens_115 rfl ?_
        refine r_iload_n (pc' := 119) C 2 rfl rfl dX13_writeTokens_118 rfl ?_
        refine r_iald (pc' := 120) (k := 97) C (by decide) kc_97 (by have := kl_97; omega) dX13_writeTokens_119 rfl (fun f90 => ?_)
        replace h := h f90
        refine r_iload (pc' := 122) C 4 rfl dX13_writeTokens_120 rfl ?_
        refine c_Si (pc' := 125) (mt := mX13_distanceBase) (as := [.int (i32 r67)]) (st := [.int (i32 (av88 97 x2.toNat)), .ref (gl_b Y + 73)]) C h rfl cl_X13_distanceBase ml_X13_164 sm_X13_distanceBase (by omega) (Nat.le_refl _) (Nat.le_refl _) rfl rfl (Nat.le_of_ble_eq_true rfl) dX13_writeTokens_122 rfl (fun r91 iv92 av93 f94 h => ?_)
        replace h := h f94
        refine r_isub (pc' := 126) C dX13_writeTokens_125 rfl ?_
        refine r_iload (pc' := 128) C 4 rfl dX13_writeTokens_126 rfl ?_
        refine c_Si (pc' := 131) (mt := mX13_distanceBits) (as := [.int (i32 r67)]) (st := [.int (i32 ((av88 97 x2.toNat) - r91)), .ref (gl_b Y + 73)]) C h rfl cl_X13_distanceBits ml_X13_158 sm_X13_distanceBits (by omega) (Nat.le_refl _) (Nat.le_refl _) rfl rfl (Nat.le_of_ble_eq_true rfl) dX13_writeTokens_128 rfl (fun r95 iv96 av97 f98 h => ?_)
        replace h := h f98
        have o99 := h.1
        replace h := h.2
        refine c_Vv (pc' := 134) (mt := mX13_writeNumber) (as := [.int (i32 ((av88 97 x2.toNat) - r91)), .int (i32 r95)]) (st := []) (k := 73) C h rfl cl_X13_writeNumber ml_X13_210 im_X13_writeNumber sl_X13_writeNumber (by omega) (Nat.le_refl _) (Nat.le_refl _) rfl (by decide) kc_73 (by decide) rfl rfl rfl (Nat.le_of_ble_eq_true rfl) dX13_writeTokens_131 rfl (fun r100 iv101 av102 h => ?_)
        refine r_iinc (pc' := 137) (ls' := [(0, .ref (gl_b Y + 73)), (1, .ref (gl_b Y + a1)), (2, .int (i32 (x2 + 1))), (3, .int (i32 (av 97 x2.toNat))), (4, .int (i32 r67))]) C 2 rfl (by decide) rfl dX13_writeTokens_134 rfl ?_
        refine r_goto (tgt := 21) C dX13_writeTokens_137 (by decide) ?_
        exact Wa.sub [0, 1, 2] rfl h
set_option maxHeartbeats 4000000 in
set_option maxRecDepth 100000 in
theorem o_X13_writeTokens {Y : Gl} {e : Nat} {P : PN} {a1 : Nat} {iv av : IVt} (Ka1 : ArrK 100 a1) (h : ∀ X : Cx, CX Y X RX13 "writeTokens" cX13_writeTokens 5 none (e + 3) 0 0 →
    OkN Y (e + 2) mX13_makeCodes [.ref (gl_b Y + 73), .ref (gl_b Y + a1), .int (i32 0), .int (i32 288)] RV iv av 116 (fun r1 iv2 av3 =>
      OkN Y (e + 2) mX13_makeCodes [.ref (gl_b Y + 73), .ref (gl_b Y + a1), .int (i32 288), .int (i32 32)] RV iv2 av3 116 (fun r5 iv6 av7 =>
        L_X13_writeTokens_21 Y X P a1 0 iv6 av7
      )
    )) : OkN Y (e + 3) mX13_writeTokens [.ref (gl_b Y + 73), .ref (gl_b Y + a1)] RV iv av 116 P := by
  obtain ⟨ha1c, ha1l⟩ := Ka1
  refine OkW.of rfl (by show _ ≤ 5; exact Nat.le_of_ble_eq_true rfl) fun X C0 hR => ?_
  have C : CX Y X RX13 "writeTokens" cX13_writeTokens 5 none (e + 3) 0 0 := C0
  replace h := h X C
  show Wa Y X 5 (g_MQ Y X 0 (g_N RV 116 P) 0 0) 0 0 0 [(0, .ref (gl_b Y + 73)), (1, .ref (gl_b Y + a1))] [] RV iv av 116
  refine r_aload_n (pc' := 1) C 0 rfl rfl dX13_writeTokens_0 rfl ?_
  refine r_aload_n (pc' := 2) C 1 rfl rfl dX13_writeTokens_1 rfl ?_
  refine r_iconst (pc' := 3) C dX13_writeTokens_2 rfl ?_
  refine r_sipush (pc' := 6) C dX13_writeTokens_3 (by decide) rfl ?_
  refine c_Vv (pc' := 9) (mt := mX13_makeCodes) (as := [.ref (gl_b Y + a1), .int (i32 0), .int (i32 288)]) (st := []) (k := 73) C h rfl cl_X13_makeCodes ml_X13_202 im_X13_makeCodes sl_X13_makeCodes (by omega) (Nat.le_refl _) (Nat.le_refl _) rfl (by decide) kc_73 (by decide) rfl rfl rfl (Nat.le_of_ble_eq_true rfl) dX13_writeTokens_6 rfl (fun r1 iv2 av3 h => ?_)
  refine r_aload_n (pc' := 10) C 0 rfl rfl dX13_writeTokens_9 rfl ?_
  refine r_aload_n (pc' := 11) C 1 rfl rfl dX13_writeTokens_10 rfl ?_
  refine r_sipush (pc' := 14) C dX13_writeTokens_11 (by decide) rfl ?_
  refine r_bipush (pc' := 16) C dX13_writeTokens_14 (by decide) rfl ?_
  refine c_Vv (pc' := 19) (mt := mX13_makeCodes) (as := [.ref (gl_b Y + a1), .int (i32 288), .int (i32 32)]) (st := []) (k := 73) C h rfl cl_X13_makeCodes ml_X13_202 im_X13_makeCodes sl_X13_makeCodes (by omega) (Nat.le_refl _) (Nat.le_refl _) rfl (by decide) kc_73 (by decide) rfl rfl rfl (Nat.le_of_ble_eq_true rfl) dX13_writeTokens_16 rfl (fun r5 iv6 av7 h => ?_)
  refine r_iconst (pc' := 20) C dX13_writeTokens_19 rfl ?_
  refine r_istore_n (pc' := 21) (ls' := [(0, .ref (gl_b Y + 73)), (1, .ref (gl_b Y + a1)), (2, .int (i32 0))]) C (by decide) rfl rfl dX13_writeTokens_20 rfl ?_
  exact Wa.sub [0, 1, 2] rfl h
def L_X12_make_28 (Y : Gl) (X : Cx) (P : PN) (k : Nat) (a1 : Nat) (x2 : Int) (x3 : Int) (x4 : Int) (x5 : Int) (x6 : Int) (x7 : Int) (iv av : IVt) : Prop := Wa Y X 10 (g_MQ Y X 1 (g_N RV 116 P) 0 0) 0 0 28 [(0, .ref (gl_b Y + k)), (1, .ref (gl_b Y + a1)), (2, .int (i32 x2)), (3, .int (i32 x3)), (4, .int (i32 x4)), (5, .int (i32 x5)), (6, .int (i32 x6)), (7, .int (i32 x7))] [] RV iv av 116
def L_X12_make_64 (Y : Gl) (X : Cx) (P : PN) (k : Nat) (a1 : Nat) (x2 : Int) (x3 : Int) (x4 : Int) (x5 : Int) (x6 : Int) (x7 : Int) (x8 : Int) (iv av : IVt) : Prop := Wa Y X 10 (g_MQ Y X 1 (g_N RV 116 P) 0 0) 0 0 64 [(0, .ref (gl_b Y + k)), (1, .ref (gl_b Y + a1)), (2, .int (i32 x2)), (3, .int (i32 x3)), (4, .int (i32 x4)), (5, .int (i32 x5)), (6, .int (i32 x6)), (7, .int (i32 x7)), (8, .int (i32 x8))] [] RV iv av 116
def L_X12_make_80 (Y : Gl) (X : Cx) (P : PN) (k : Nat) (a1 : Nat) (x2 : Int) (x3 : Int) (x4 : Int) (x5 : Int) (x6 : Int) (x7 : Int) (iv av : IVt) : Prop := Wa Y X 10 (g_MQ Y X 1 (g_N RV 116 P) 0 0) 0 0 80 [(0, .ref (gl_b Y + k)), (1, .ref (gl_b Y + a1)), (2, .int (i32 x2)), (3, .int (i32 x3)), (4, .int (i32 x4)), (5, .int (i32 x5)), (6, .int (i32 x6)), (7, .int (i32 x7))] [] RV iv av 116
def L_X12_make_117 (Y : Gl) (X : Cx) (P : PN) (k : Nat) (a1 : Nat) (iv av : IVt) : Prop := Wa Y X 10 (g_MQ Y X 1 (g_N RV 116 P) 0 0) 0 0 117 [] [] RV iv av 116
def L_X12_make_119 (Y : Gl) (X : Cx) (P : PN) (k : Nat) (a1 : Nat) (x2 : Int) (x3 : Int) (iv av : IVt) : Prop := Wa Y X 10 (g_MQ Y X 1 (g_N RV 116 P) 0 0) 0 0 119 [(0, .ref (gl_b Y + k)), (1, .ref (gl_b Y + a1)), (2, .int (i32 x2)), (3, .int (i32 x3))] [] RV iv av 116
def L_X12_make_125 (Y : Gl) (X : Cx) (P : PN) (k : Nat) (a1 : Nat) (x2 : Int) (x3 : Int) (x7 : Int) (x8 : Int) (iv av : IVt) : Prop := Wa Y X 10 (g_MQ Y X 1 (g_N RV 116 P) 0 0) 0 0 125 [(0, .ref (gl_b Y + k)), (1, .ref (gl_b Y + a1)), (2, .int (i32 x2)), (3, .int (i32 x3)), (7, .int (i32 x7)), (8, .int (i32 x8))] [] RV iv av 116
def L_X12_make_141 (Y : Gl) (X : Cx) (P : PN) (k : Nat) (a1 : Nat) (x2 : Int) (x3 : Int) (x7 : Int) (x8 : Int) (x9 : Int) (iv av : IVt) : Prop := Wa Y X 10 (g_MQ Y X 1 (g_N RV 116 P) 0 0) 0 0 141 [(0, .ref (gl_b Y + k)), (1, .ref (gl_b Y + a1)), (2, .int (i32 x2)), (3, .int (i32 x3)), (7, .int (i32 x7)), (8, .int (i32 x8)), (9, .int (i32 x9))] [] RV iv av 116
set_option maxHeartbeats 4000000 in
set_option maxRecDepth 100000 in
theorem w_X12_make_141 {Y : Gl} {X : Cx} {e : Nat} {P : PN} {k : Nat} {a1 : Nat} {x2 : Int} {x3 : Int} {x7 : Int} {x8 : Int} {x9 : Int} {iv av : IVt} (C : CX Y X RX12 "make" cX12_make 10 (some .boolean) (e + 1) 0 0) (Kk : TreeK k) (Ka1 : ArrK 100 a1) (hx3 : InR x3) (hx7 : InR x7) (hx8 : InR x8) (hx9 : InR x9) (h :
    ((x3 ≤ x9) →
      L_X12_make_125 Y X P k a1 x2 x3 x7 (x8 + 1) iv av
    ) ∧
    ((¬ x3 ≤ x9) →
      (0 ≤ (x2 + x9) ∧ (x2 + x9) < (kl a1 : Int)) ∧
      ((InR (av a1 (x2 + x9).toNat)) →
        ((¬ (av a1 (x2 + x9).toNat) = x8) →
          L_X12_make_141 Y X P k a1 x2 x3 x7 x8 (x9 + 1) iv av
        ) ∧
        (((av a1 (x2 + x9).toNat) = x8) →
          OkN Y e mX12_grow [.ref (gl_b Y + k), .int (i32 x7), .int (i32 x8), .int (i32 x9)] RV iv av 116 (fun r5 iv6 av7 =>
            L_X12_make_141 Y X P k a1 x2 x3 (x7 + 1) x8 (x9 + 1) iv6 av7
          )
        )
      )
    )) : L_X12_make_141 Y X P k a1 x2 x3 x7 x8 x9 iv av := by
  obtain ⟨hkc, hka, hkl, hkr0, hkk1⟩ := Kk
  obtain ⟨ha1c, ha1l⟩ := Ka1
  unfold L_X12_make_141
  refine r_iload (pc' := 143) C 6 rfl dX12_make_141 rfl ?_
  refine r_iload_n (pc' := 144) C 3 rfl rfl dX12_make_143 rfl ?_
  refine r_icmp_ge (pc' := 147) (tgt := 177) C hx9 hx3 dX12_make_144 (by decide) rfl (fun c1 => ?_) (fun c1 => ?_)
  · replace h := h.1 c1
    refine r_iinc (pc' := 180) (ls' := [(0, .ref (gl_b Y + k)), (1, .ref (gl_b Y + a1)), (2, .int (i32 x2)), (3, .int (i32 x3)), (7, .int (i32 x7)), (8, .int (i32 (x8 + 1))), (9, .int (i32 x9))]) C 5 rfl (by decide) rfl dX12_make_177 rfl ?_
    refine r_goto (tgt := 125) C dX12_make_180 (by decide) ?_
    exact Wa.sub [0, 1, 2, 3, 4, 5] rfl h
  · replace h := h.2 c1
    refine r_aload_n (pc' := 148) C 1 rfl rfl dX12_make_147 rfl ?_
    refine r_iload_n (pc' := 149) C 2 rfl rfl dX12_make_148 rfl ?_
    refine r_iload (pc' := 151) C 6 rfl dX12_make_149 rfl ?_
    refine r_iadd (pc' := 152) C dX12_make_151 rfl ?_
    have o2 := h.1
    replace h := h.2
    refine r_iald (pc' := 153) (k := a1) C (by omega) ha1c o2 dX12_make_152 rfl (fun f3 => ?_)
    replace h := h f3
    refine r_iload (pc' := 155) C 5 rfl dX12_make_153 rfl ?_
    refine r_icmp_ne (pc' := 158) (tgt := 171) C f3 hx8 dX12_make_155 (by decide) rfl (fun c4 => ?_) (fun c4 => ?_)
    · replace h := h.1 c4
      refine r_iinc (pc' := 174) (ls' := [(0, .ref (gl_b Y + k)), (1, .ref (gl_b Y + a1)), (2, .int (i32 x2)), (3, .int (i32 x3)), (7, .int (i32 x7)), (8, .int (i32 x8)), (9, .int (i32 (x9 + 1)))]) C 6 rfl (by decide) rfl dX12_make_171 rfl ?_
      refine r_goto (tgt := 141) C dX12_make_174 (by decide) ?_
      exact Wa.sub [0, 1, 2, 3, 4, 5, 6] rfl h
    · replace h := h.2 c4
      refine r_aload_n (pc' := 159) C 0 rfl rfl dX12_make_158 rfl ?_
      refine r_iload (pc' := 161) C 4 rfl dX12_make_159 rfl ?_
      refine r_iload (pc' := 163) C 5 rfl dX12_make_161 rfl ?_
      refine r_iload (pc' := 165) C 6 rfl dX12_make_163 rfl ?_
      refine c_Vv (pc' := 168) (mt := mX12_grow) (as := [.int (i32 x7), .int (i32 x8), .int (i32 x9)]) (st := []) (k := k) C h rfl cl_X12_grow ml_X12_18 im_X12_grow sl_X12_grow (by omega) (Nat.le_refl _) (Nat.le_refl _) rfl (by omega) hkc (by decide) rfl rfl rfl (Nat.le_of_ble_eq_true rfl) dX12_make_165 rfl (fun r5 iv6 av7 h => ?_)
      refine r_iinc (pc' := 171) (ls' := [(0, .ref (gl_b Y + k)), (1, .ref (gl_b Y + a1)), (2, .int (i32 x2)), (3, .int (i32 x3)), (7, .int (i32 (x7 + 1))), (8, .int (i32 x8)), (9, .int (i32 x9))]) C 4 rfl (by decide) rfl dX12_make_168 rfl ?_
      refine r_iinc (pc' := 174) (ls' := [(0, .ref (gl_b Y + k)), (1, .ref (gl_b Y + a1)), (2, .int (i32 x2)), (3, .int (i32 x3)), (7, .int (i32 (x7 + 1))), (8, .int (i32 x8)), (9, .int (i32 (x9 + 1)))]) C 6 rfl (by decide) rfl dX12_make_171 rfl ?_
      refine r_goto (tgt := 141) C dX12_make_174 (by decide) ?_
      exact Wa.sub [0, 1, 2, 3, 4, 5, 6] rfl h
set_option maxHeartbeats 4000000 in
set_option maxRecDepth 100000 in
theorem w_X12_make_125 {Y : Gl} {X : Cx} {e : Nat} {P : PN} {k : Nat} {a1 : Nat} {x2 : Int} {x3 : Int} {x7 : Int} {x8 : Int} {iv av : IVt} (C : CX Y X RX12 "make" cX12_make 10 (some .boolean) (e + 1) 0 0) (Kk : TreeK k) (Ka1 : ArrK 100 a1) (hx8 : InR x8) (h :
    ((16 ≤ x8) →
      P 1 iv av
    ) ∧
    ((¬ 16 ≤ x8) →
      L_X12_make_141 Y X P k a1 x2 x3 (2 * x7) x8 0 iv av
    )) : L_X12_make_125 Y X P k a1 x2 x3 x7 x8 iv av := by
  obtain ⟨hkc, hka, hkl, hkr0, hkk1⟩ := Kk
  obtain ⟨ha1c, ha1l⟩ := Ka1
  unfold L_X12_make_125
  refine r_iload (pc' := 127) C 5 rfl dX12_make_125 rfl ?_
  refine r_bipush (pc' := 129) C dX12_make_127 (by decide) rfl ?_
  refine r_icmp_ge (pc' := 132) (tgt := 183) C hx8 (by decide) dX12_make_129 (by decide) rfl (fun c1 => ?_) (fun c1 => ?_)
  · replace h := h.1 c1
    refine r_iconst (pc' := 184) C dX12_make_183 rfl ?_
    exact r_zret C (by decide) ⟨rfl, rfl, h⟩ dX12_make_184
  · replace h := h.2 c1
    refine r_iconst (pc' := 133) C dX12_make_132 rfl ?_
    refine r_iload (pc' := 135) C 4 rfl dX12_make_133 rfl ?_
    refine r_imul (pc' := 136) C dX12_make_135 rfl ?_
    refine r_istore (pc' := 138) (ls' := [(0, .ref (gl_b Y + k)), (1, .ref (gl_b Y + a1)), (2, .int (i32 x2)), (3, .int (i32 x3)), (7, .int (i32 (2 * x7))), (8, .int (i32 x8))]) C (by decide) rfl dX12_make_136 rfl ?_
    refine r_iconst (pc' := 139) C dX12_make_138 rfl ?_
    refine r_istore (pc' := 141) (ls' := [(0, .ref (gl_b Y + k)), (1, .ref (gl_b Y + a1)), (2, .int (i32 x2)), (3, .int (i32 x3)), (7, .int (i32 (2 * x7))), (8, .int (i32 x8)), (9, .int (i32 0))]) C (by decide) rfl dX12_make_139 rfl ?_
    exact Wa.sub [0, 1, 2, 3, 4, 5, 6] rfl h
set_option maxHeartbeats 4000000 in
set_option maxRecDepth 100000 in
theorem w_X12_make_119 {Y : Gl} {X : Cx} {e : Nat} {P : PN} {k : Nat} {a1 : Nat} {x2 : Int} {x3 : Int} {iv av : IVt} (C : CX Y X RX12 "make" cX12_make 10 (some .boolean) (e + 1) 0 0) (Kk : TreeK k) (Ka1 : ArrK 100 a1) (h :
    L_X12_make_125 Y X P k a1 x2 x3 0 1 iv av) : L_X12_make_119 Y X P k a1 x2 x3 iv av := by
  obtain ⟨hkc, hka, hkl, hkr0, hkk1⟩ := Kk
  obtain ⟨ha1c, ha1l⟩ := Ka1
  unfold L_X12_make_119
  refine r_iconst (pc' := 120) C dX12_make_119 rfl ?_
  refine r_istore (pc' := 122) (ls' := [(0, .ref (gl_b Y + k)), (1, .ref (gl_b Y + a1)), (2, .int (i32 x2)), (3, .int (i32 x3)), (7, .int (i32 0))]) C (by decide) rfl dX12_make_120 rfl ?_
  refine r_iconst (pc' := 123) C dX12_make_122 rfl ?_
  refine r_istore (pc' := 125) (ls' := [(0, .ref (gl_b Y + k)), (1, .ref (gl_b Y + a1)), (2, .int (i32 x2)), (3, .int (i32 x3)), (7, .int (i32 0)), (8, .int (i32 1))]) C (by decide) rfl dX12_make_123 rfl ?_
  exact Wa.sub [0, 1, 2, 3, 4, 5] rfl h
set_option maxHeartbeats 4000000 in
set_option maxRecDepth 100000 in
theorem w_X12_make_117 {Y : Gl} {X : Cx} {e : Nat} {P : PN} {k : Nat} {a1 : Nat} {iv av : IVt} (C : CX Y X RX12 "make" cX12_make 10 (some .boolean) (e + 1) 0 0) (Kk : TreeK k) (Ka1 : ArrK 100 a1) (h :
    P 0 iv av) : L_X12_make_117 Y X P k a1 iv av := by
  obtain ⟨hkc, hka, hkl, hkr0, hkk1⟩ := Kk
  obtain ⟨ha1c, ha1l⟩ := Ka1
  unfold L_X12_make_117
  refine r_iconst (pc' := 118) C dX12_make_117 rfl ?_
  exact r_zret C (by decide) ⟨rfl, rfl, h⟩ dX12_make_118
set_option maxHeartbeats 4000000 in
set_option maxRecDepth 100000 in
theorem w_X12_make_80 {Y : Gl} {X : Cx} {e : Nat} {P : PN} {k : Nat} {a1 : Nat} {x2 : Int} {x3 : Int} {x4 : Int} {x5 : Int} {x6 : Int} {x7 : Int} {iv av : IVt} (C : CX Y X RX12 "make" cX12_make 10 (some .boolean) (e + 1) 0 0) (Kk : TreeK k) (Ka1 : ArrK 100 a1) (h :
    L_X12_make_28 Y X P k a1 x2 x3 x4 x5 x6 (x7 + 1) iv av) : L_X12_make_80 Y X P k a1 x2 x3 x4 x5 x6 x7 iv av := by
  obtain ⟨hkc, hka, hkl, hkr0, hkk1⟩ := Kk
  obtain ⟨ha1c, ha1l⟩ := Ka1
  unfold L_X12_make_80
  refine r_iinc (pc' := 83) (ls' := [(0, .ref (gl_b Y + k)), (1, .ref (gl_b Y + a1)), (2, .int (i32 x2)), (3, .int (i32 x3)), (4, .int (i32 x4)), (5, .int (i32 x5)), (6, .int (i32 x6)), (7, .int (i32 (x7 + 1)))]) C 7 rfl (by decide) rfl dX12_make_80 rfl ?_
  refine r_goto (tgt := 28) C dX12_make_83 (by decide) ?_
  exact Wa.sub [0, 1, 2, 3, 4, 5, 6, 7] rfl h
set_option maxHeartbeats 4000000 in
set_option maxRecDepth 100000 in
theorem w_X12_make_64 {Y : Gl} {X : Cx} {e : Nat} {P : PN} {k : Nat} {a1 : Nat} {x2 : Int} {x3 : Int} {x4 : Int} {x5 : Int} {x6 : Int} {x7 : Int} {x8 : Int} {iv av : IVt} (C : CX Y X RX12 "make" cX12_make 10 (some .boolean) (e + 1) 0 0) (Kk : TreeK k) (Ka1 : ArrK 100 a1) (hx8 : InR x8) (h :
    ((x8 ≤ 0) →
      L_X12_make_80 Y X P k a1 x2 x3 x4 x5 x6 x7 iv av
    ) ∧
    ((¬ x8 ≤ 0) →
      L_X12_make_80 Y X P k a1 x2 x3 x4 x5 (x6 + 1) x7 iv av
    )) : L_X12_make_64 Y X P k a1 x2 x3 x4 x5 x6 x7 x8 iv av := by
  obtain ⟨hkc, hka, hkl, hkr0, hkk1⟩ := Kk
  obtain ⟨ha1c, ha1l⟩ := Ka1
  unfold L_X12_make_64
  refine r_iload (pc' := 66) C 8 rfl dX12_make_64 rfl ?_
  refine r_if_le (pc' := 69) (tgt := 76) C hx8 dX12_make_66 (by decide) rfl (fun c1 => ?_) (fun c1 => ?_)
  · replace h := h.1 c1
    refine r_iload (pc' := 78) C 6 rfl dX12_make_76 rfl ?_
    refine r_istore (pc' := 80) (ls' := [(0, .ref (gl_b Y + k)), (1, .ref (gl_b Y + a1)), (2, .int (i32 x2)), (3, .int (i32 x3)), (4, .int (i32 x4)), (5, .int (i32 x5)), (6, .int (i32 x6)), (7, .int (i32 x7)), (8, .int (i32 x8))]) C (by decide) rfl dX12_make_78 rfl ?_
    exact Wa.sub [0, 1, 2, 3, 4, 5, 6, 7] rfl h
  · replace h := h.2 c1
    refine r_iload (pc' := 71) C 6 rfl dX12_make_69 rfl ?_
    refine r_iconst (pc' := 72) C dX12_make_71 rfl ?_
    refine r_iadd (pc' := 73) C dX12_make_72 rfl ?_
    refine r_goto (tgt := 78) C dX12_make_73 (by decide) ?_
    refine r_istore (pc' := 80) (ls' := [(0, .ref (gl_b Y + k)), (1, .ref (gl_b Y + a1)), (2, .int (i32 x2)), (3, .int (i32 x3)), (4, .int (i32 x4)), (5, .int (i32 x5)), (6, .int (i32 (x6 + 1))), (7, .int (i32 x7)), (8, .int (i32 x8))]) C (by decide) rfl dX12_make_78 rfl ?_
    exact Wa.sub [0, 1, 2, 3, 4, 5, 6, 7] rfl h
set_option maxHeartbeats 4000000 in
set_option maxRecDepth 100000 in
theorem w_X12_make_28 {Y : Gl} {X : Cx} {e : Nat} {P : PN} {k : Nat} {a1 : Nat} {x2 : Int} {x3 : Int} {x4 : Int} {x5 : Int} {x6 : Int} {x7 : Int} {iv av : IVt} (C : CX Y X RX12 "make" cX12_make 10 (some .boolean) (e + 1) 0 0) (Kk : TreeK k) (Ka1 : ArrK 100 a1) (hx3 : InR x3) (hx4 : InR x4) (hx5 : InR x5) (hx6 : InR x6) (hx7 : InR x7) (h :
    ((x3 ≤ x7) →
      ((x5 = 32768) →
        L_X12_make_119 Y X P k a1 x2 x3 iv av
      ) ∧
      ((¬ x5 = 32768) →
        ((¬ x6 = 1) →
          ((¬ x6 = 0) →
            L_X12_make_117 Y X P k a1 iv av
          ) ∧
          ((x6 = 0) →
            ((¬ x4 = 0) →
              L_X12_make_119 Y X P k a1 x2 x3 iv av
            ) ∧
            ((x4 = 0) →
              L_X12_make_117 Y X P k a1 iv av
            )
          )
        ) ∧
        ((x6 = 1) →
          ((x5 = 16384) →
            L_X12_make_119 Y X P k a1 x2 x3 iv av
          ) ∧
          ((¬ x5 = 16384) →
            ((¬ x6 = 0) →
              L_X12_make_117 Y X P k a1 iv av
            ) ∧
            ((x6 = 0) →
              ((¬ x4 = 0) →
                L_X12_make_119 Y X P k a1 x2 x3 iv av
              ) ∧
              ((x4 = 0) →
                L_X12_make_117 Y X P k a1 iv av
              )
            )
          )
        )
      )
    ) ∧
    ((¬ x3 ≤ x7) →
      (0 ≤ (x2 + x7) ∧ (x2 + x7) < (kl a1 : Int)) ∧
      ((InR (av a1 (x2 + x7).toNat)) →
        (((av a1 (x2 + x7).toNat) ≤ 0) →
          L_X12_make_64 Y X P k a1 x2 x3 x4 x5 x6 x7 (av a1 (x2 + x7).toNat) iv av
        ) ∧
        ((¬ (av a1 (x2 + x7).toNat) ≤ 0) →
          (0 ≤ (15 - (av a1 (x2 + x7).toNat)) ∧ (15 - (av a1 (x2 + x7).toNat)) ≤ 31) ∧
          L_X12_make_64 Y X P k a1 x2 x3 x4 (x5 + (1 * 2 ^ (15 - (av a1 (x2 + x7).toNat)).toNat)) x6 x7 (av a1 (x2 + x7).toNat) iv av
        )
      )
    )) : L_X12_make_28 Y X P k a1 x2 x3 x4 x5 x6 x7 iv av := by
  obtain ⟨hkc, hka, hkl, hkr0, hkk1⟩ := Kk
  obtain ⟨ha1c, ha1l⟩ := Ka1
  unfold L_X12_make_28
  refine r_iload (pc' := 30) C 7 rfl dX12_make_28 rfl ?_
  refine r_iload_n (pc' := 31) C 3 rfl rfl dX12_make_30 rfl ?_
  refine r_icmp_ge (pc' := 34) (tgt := 86) C hx7 hx3 dX12_make_31 (by decide) rfl (fun c1 => ?_) (fun c1 => ?_)
  · replace h := h.1 c1
    refine r_iload (pc' := 88) C 5 rfl dX12_make_86 rfl ?_
    refine r_ldc (pc' := 90) (x := 32768) C ct_X12_17 (by decide) dX12_make_88 rfl ?_
    refine r_icmp_eq (pc' := 93) (tgt := 119) C hx5 (by decide) dX12_make_90 (by decide) rfl (fun c2 => ?_) (fun c2 => ?_)
    · replace h := h.1 c2
      exact Wa.sub [0, 1, 2, 3] rfl h
    · replace h := h.2 c2
      refine r_iload (pc' := 95) C 6 rfl dX12_make_93 rfl ?_
      refine r_iconst (pc' := 96) C dX12_make_95 rfl ?_
      refine r_icmp_ne (pc' := 99) (tgt := 107) C hx6 (by decide) dX12_make_96 (by decide) rfl (fun c3 => ?_) (fun c3 => ?_)
      · replace h := h.1 c3
        refine r_iload (pc' := 109) C 6 rfl dX12_make_107 rfl ?_
        refine r_if_ne (pc' := 112) (tgt := 117) C hx6 dX12_make_109 (by decide) rfl (fun c4 => ?_) (fun c4 => ?_)
        · replace h := h.1 c4
          exact Wa.sub [] rfl h
        · replace h := h.2 c4
          refine r_iload (pc' := 114) C 4 rfl dX12_make_112 rfl ?_
          refine r_if_ne (pc' := 117) (tgt := 119) C hx4 dX12_make_114 (by decide) rfl (fun c5 => ?_) (fun c5 => ?_)
          · replace h := h.1 c5
            exact Wa.sub [0, 1, 2, 3] rfl h
          · replace h := h.2 c5
            exact Wa.sub [] rfl h
      · replace h := h.2 c3
        refine r_iload (pc' := 101) C 5 rfl dX12_make_99 rfl ?_
        refine r_sipush (pc' := 104) C dX12_make_101 (by decide) rfl ?_
        refine r_icmp_eq (pc' := 107) (tgt := 119) C hx5 (by decide) dX12_make_104 (by decide) rfl (fun c6 => ?_) (fun c6 => ?_)
        · replace h := h.1 c6
          exact Wa.sub [0, 1, 2, 3] rfl h
        · replace h := h.2 c6
          refine r_iload (pc' := 109) C 6 rfl dX12_make_107 rfl ?_
          refine r_if_ne (pc' := 112) (tgt := 117) C hx6 dX12_make_109 (by decide) rfl (fun c7 => ?_) (fun c7 => ?_)
          · replace h := h.1 c7
            exact Wa.sub [] rfl h
          · replace h := h.2 c7
            refine r_iload (pc' := 114) C 4 rfl dX12_make_112 rfl ?_
            refine r_if_ne (pc' := 117) (tgt := 119) C hx4 dX12_make_114 (by decide) rfl (fun c8 => ?_) (fun c8 => ?_)
            · replace h := h.1 c8
              exact Wa.sub [0, 1, 2, 3] rfl h
            · replace h := h.2 c8
              exact Wa.sub [] rfl h
  · replace h := h.2 c1
    refine r_aload_n (pc' := 35) C 1 rfl rfl dX12_make_34 rfl ?_
    refine r_iload_n (pc' := 36) C 2 rfl rfl dX12_make_35 rfl ?_
    refine r_iload (pc' := 38) C 7 rfl dX12_make_36 rfl ?_
    refine r_iadd (pc' := 39) C dX12_make_38 rfl ?_
    have o9 := h.1
    replace h := h.2
    refine r_iald (pc' := 40) (k := a1) C (by omega) ha1c o9 dX12_make_39 rfl (fun f10 => ?_)
    replace h := h f10
    refine r_istore (pc' := 42) (ls' := [(0, .ref (gl_b Y + k)), (1, .ref (gl_b Y + a1)), (2, .int (i32 x2)), (3, .int (i32 x3)), (4, .int (i32 x4)), (5, .int (i32 x5)), (6, .int (i32 x6)), (7, .int (i32 x7)), (8, .int (i32 (av a1 (x2 + x7).toNat)))]) C (by decide) rfl dX12_make_40 rfl ?_
    refine r_iload (pc' := 44) C 8 rfl dX12_make_42 rfl ?_
    refine r_if_le (pc' := 47) (tgt := 60) C f10 dX12_make_44 (by decide) rfl (fun c11 => ?_) (fun c11 => ?_)
    · replace h := h.1 c11
      refine r_iload (pc' := 62) C 5 rfl dX12_make_60 rfl ?_
      refine r_istore (pc' := 64) (ls' := [(0, .ref (gl_b Y + k)), (1, .ref (gl_b Y + a1)), (2, .int (i32 x2)), (3, .int (i32 x3)), (4, .int (i32 x4)), (5, .int (i32 x5)), (6, .int (i32 x6)), (7, .int (i32 x7)), (8, .int (i32 (av a1 (x2 + x7).toNat)))]) C (by decide) rfl dX12_make_62 rfl ?_
      exact Wa.sub [0, 1, 2, 3, 4, 5, 6, 7, 8] rfl h
    · replace h := h.2 c11
      refine r_iload (pc' := 49) C 5 rfl dX12_make_47 rfl ?_
      refine r_iconst (pc' := 50) C dX12_make_49 rfl ?_
      refine r_bipush (pc' := 52) C dX12_make_50 (by decide) rfl ?_
      refine r_iload (pc' := 54) C 8 rfl dX12_make_52 rfl ?_
      refine r_isub (pc' := 55) C dX12_make_54 rfl ?_
      have o12 := h.1
      replace h := h.2
      refine r_ishl (pc' := 56) C o12 dX12_make_55 rfl ?_
      refine r_iadd (pc' := 57) C dX12_make_56 rfl ?_
      refine r_goto (tgt := 62) C dX12_make_57 (by decide) ?_
      refine r_istore (pc' := 64) (ls' := [(0, .ref (gl_b Y + k)), (1, .ref (gl_b Y + a1)), (2, .int (i32 x2)), (3, .int (i32 x3)), (4, .int (i32 x4)), (5, .int (i32 (x5 + (1 * 2 ^ (15 - (av a1 (x2 + x7).toNat)).toNat)))), (6, .int (i32 x6)), (7, .int (i32 x7)), (8, .int (i32 (av a1 (x2 + x7).toNat)))]) C (by decide) rfl dX12_make_62 rfl ?_
      exact Wa.sub [0, 1, 2, 3, 4, 5, 6, 7, 8] rfl h
set_option maxHeartbeats 4000000 in
set_option maxRecDepth 100000 in
theorem o_X12_make {Y : Gl} {e : Nat} {P : PN} {k : Nat} {a1 : Nat} {x2 : Int} {x3 : Int} {x4 : Int} {iv av : IVt} (Kk : TreeK k) (Ka1 : ArrK 100 a1) (h : ∀ X : Cx, CX Y X RX12 "make" cX12_make 10 (some .boolean) (e + 1) 0 0 →
    L_X12_make_28 Y X P k a1 x2 x3 x4 0 0 0 (up2 iv k 1 1) (up2 (up2 av (k + 1) 0 0) (k + 1) 1 0)) : OkN Y (e + 1) mX12_make [.ref (gl_b Y + k), .ref (gl_b Y + a1), .int (i32 x2), .int (i32 x3), .int (i32 x4)] RV iv av 116 P := by
  obtain ⟨hkc, hka, hkl, hkr0, hkk1⟩ := Kk
  obtain ⟨ha1c, ha1l⟩ := Ka1
  refine OkW.of rfl (by show _ ≤ 10; exact Nat.le_of_ble_eq_true rfl) fun X C0 hR => ?_
  have C : CX Y X RX12 "make" cX12_make 10 (some .boolean) (e + 1) 0 0 := C0
  replace h := h X C
  show Wa Y X 10 (g_MQ Y X 1 (g_N RV 116 P) 0 0) 0 0 0 [(0, .ref (gl_b Y + k)), (1, .ref (gl_b Y + a1)), (2, .int (i32 x2)), (3, .int (i32 x3)), (4, .int (i32 x4))] [] RV iv av 116
  refine r_aload_n (pc' := 1) C 0 rfl rfl dX12_make_0 rfl ?_
  refine r_iconst (pc' := 2) C dX12_make_1 rfl ?_
  refine r_puti (pc' := 5) (k := k) C fl_X12_13 (by omega) hkc (by decide) fr_12_1 (by decide) dX12_make_2 rfl ?_
  refine r_aload_n (pc' := 6) C 0 rfl rfl dX12_make_5 rfl ?_
  refine r_getr (pc' := 9) (k := k) (r := k + 1) C fl_X12_7 (by omega) hkc (by decide) fr_12_0 hkr0 dX12_make_6 rfl ?_
  refine r_iconst (pc' := 10) C dX12_make_9 rfl ?_
  refine r_iconst (pc' := 11) C dX12_make_10 rfl ?_
  refine r_iast (pc' := 12) (k := k + 1) C (by omega) hka (by rw [hkk1]; decide) (by decide) dX12_make_11 rfl ?_
  rw [show (0 : Int).toNat = 0 from rfl]
  refine r_aload_n (pc' := 13) C 0 rfl rfl dX12_make_12 rfl ?_
  refine r_getr (pc' := 16) (k := k) (r := k + 1) C fl_X12_7 (by omega) hkc (by decide) fr_12_0 hkr0 dX12_make_13 rfl ?_
  refine r_iconst (pc' := 17) C dX12_make_16 rfl ?_
  refine r_iconst (pc' := 18) C dX12_make_17 rfl ?_
  refine r_iast (pc' := 19) (k := k + 1) C (by omega) hka (by rw [hkk1]; decide) (by decide) dX12_make_18 rfl ?_
  rw [show (1 : Int).toNat = 1 from rfl]
  refine r_iconst (pc' := 20) C dX12_make_19 rfl ?_
  refine r_istore (pc' := 22) (ls' := [(0, .ref (gl_b Y + k)), (1, .ref (gl_b Y + a1)), (2, .int (i32 x2)), (3, .int (i32 x3)), (4, .int (i32 x4)), (5, .int (i32 0))]) C (by decide) rfl dX12_make_20 rfl ?_
  refine r_iconst (pc' := 23) C dX12_make_22 rfl ?_
  refine r_istore (pc' := 25) (ls' := [(0, .ref (gl_b Y + k)), (1, .ref (gl_b Y + a1)), (2, .int (i32 x2)), (3, .int (i32 x3)), (4, .int (i32 x4)), (5, .int (i32 0)), (6, .int (i32 0))]) C (by decide) rfl dX12_make_23 rfl ?_
  refine r_iconst (pc' := 26) C dX12_make_25 rfl ?_
  refine r_istore (pc' := 28) (ls' := [(0, .ref (gl_b Y + k)), (1, .ref (gl_b Y + a1)), (2, .int (i32 x2)), (3, .int (i32 x3)), (4, .int (i32 x4)), (5, .int (i32 0)), (6, .int (i32 0)), (7, .int (i32 0))]) C (by decide) rfl dX12_make_26 rfl ?_
  exact Wa.sub [0, 1, 2, 3, 4, 5, 6, 7] rfl h
def L_X12_grow_8 (Y : Gl) (X : Cx) (P : PN) (k : Nat) (x1 : Int) (x3 : Int) (x4 : Int) (x5 : Int) (iv av : IVt) : Prop := Wa Y X 7 (g_MQ Y X 0 (g_N RV 116 P) 0 0) 0 0 8 [(0, .ref (gl_b Y + k)), (1, .int (i32 x1)), (3, .int (i32 x3)), (4, .int (i32 x4)), (5, .int (i32 x5))] [] RV iv av 116
set_option maxHeartbeats 4000000 in
set_option maxRecDepth 100000 in
theorem w_X12_grow_8 {Y : Gl} {X : Cx} {e : Nat} {P : PN} {k : Nat} {x1 : Int} {x3 : Int} {x4 : Int} {x5 : Int} {iv av : IVt} (C : CX Y X RX12 "grow" cX12_grow 7 none e 0 0) (Kk : TreeK k) (hx1 : InR x1) (hx5 : InR x5) (h :
    ((x5 ≤ 0) →
      (0 ≤ ((2 * x4) + (x1 % 2)) ∧ ((2 * x4) + (x1 % 2)) < 1300) ∧
      (InR ((-1) - x3)) ∧
      P 0 iv (up2 av (k + 1) (((2 * x4) + (x1 % 2)).toNat) ((-1) - x3))
    ) ∧
    ((¬ x5 ≤ 0) →
      (0 ≤ x5 ∧ x5 ≤ 31) ∧
      (0 ≤ ((2 * x4) + ((x1 / 2 ^ x5.toNat) % 2)) ∧ ((2 * x4) + ((x1 / 2 ^ x5.toNat) % 2)) < 1300) ∧
      ((InR (av (k + 1) ((2 * x4) + ((x1 / 2 ^ x5.toNat) % 2)).toNat)) →
        ((¬ (av (k + 1) ((2 * x4) + ((x1 / 2 ^ x5.toNat) % 2)).toNat) = 0) →
          L_X12_grow_8 Y X P k x1 x3 (av (k + 1) ((2 * x4) + ((x1 / 2 ^ x5.toNat) % 2)).toNat) (x5 + (-1)) iv av
        ) ∧
        (((av (k + 1) ((2 * x4) + ((x1 / 2 ^ x5.toNat) % 2)).toNat) = 0) →
          ((InR (iv k 1)) →
            (0 ≤ (2 * (iv k 1)) ∧ (2 * (iv k 1)) < 1300) ∧
            (0 ≤ ((2 * (iv k 1)) + 1) ∧ ((2 * (iv k 1)) + 1) < 1300) ∧
            (InR ((iv k 1) + 1)) ∧
            ((InR ((up2 (up2 (up2 av (k + 1) (((2 * x4) + ((x1 / 2 ^ x5.toNat) % 2)).toNat) (iv k 1)) (k + 1) ((2 * (iv k 1)).toNat) 0) (k + 1) (((2 * (iv k 1)) + 1).toNat) 0) (k + 1) ((2 * x4) + ((x1 / 2 ^ x5.toNat) % 2)).toNat)) →
              L_X12_grow_8 Y X P k x1 x3 ((up2 (up2 (up2 av (k + 1) (((2 * x4) + ((x1 / 2 ^ x5.toNat) % 2)).toNat) (iv k 1)) (k + 1) ((2 * (iv k 1)).toNat) 0) (k + 1) (((2 * (iv k 1)) + 1).toNat) 0) (k + 1) ((2 * x4) + ((x1 / 2 ^ x5.toNat) % 2)).toNat) (x5 + (-1)) (up2 iv k 1 ((iv k 1) + 1)) (up2 (up2 (up2 av (k + 1) (((2 * x4) + ((x1 / 2 ^ x5.toNat) % 2)).toNat) (iv k 1)) (k + 1) ((2 * (iv k 1)).toNat) 0) (k + 1) (((2 * (iv k 1)) + 1).toNat) 0)
            )
          )
        )
      )
    )) : L_X12_grow_8 Y X P k x1 x3 x4 x5 iv av := by
  obtain ⟨hkc, hka, hkl, hkr0, hkk1⟩ := Kk
  unfold L_X12_grow_8
  refine r_iload (pc' := 10) C 4 rfl dX12_grow_8 rfl ?_
  refine r_if_le (pc' := 13) (tgt := 98) C hx5 dX12_grow_10 (by decide) rfl (fun c1 => ?_) (fun c1 => ?_)
  · replace h := h.1 c1
    refine r_aload_n (pc' := 99) C 0 rfl rfl dX12_grow_98 rfl ?_
    refine r_getr (pc' := 102) (k := k) (r := k + 1) C fl_X12_7 (by omega) hkc (by decide) fr_12_0 hkr0 dX12_grow_99 rfl ?_
    refine r_iconst (pc' := 103) C dX12_grow_102 rfl ?_
    refine r_iload (pc' := 105) C 3 rfl dX12_grow_103 rfl ?_
    refine r_imul (pc' := 106) C dX12_grow_105 rfl ?_
    refine r_iload_n (pc' := 107) C 1 rfl rfl dX12_grow_106 rfl ?_
    refine r_iconst (pc' := 108) C dX12_grow_107 rfl ?_
    refine r_iandM (pc' := 109) (m := 2) C 1 (by decide) (by decide) (by decide) dX12_grow_108 rfl ?_
    refine r_iadd (pc' := 110) C dX12_grow_109 rfl ?_
    refine r_iconst (pc' := 111) C dX12_grow_110 rfl ?_
    refine r_iload_n (pc' := 112) C 2 rfl rfl dX12_grow_111 rfl ?_
    refine r_isub (pc' := 113) C dX12_grow_112 rfl ?_
    have o2 := h.1
    replace h := h.2
    have o3 := h.1
    replace h := h.2
    refine r_iast (pc' := 114) (k := k + 1) C (by omega) hka (by have := hkk1; omega) o3 dX12_grow_113 rfl ?_
    exact r_vret C ⟨rfl, rfl, h⟩ dX12_grow_114
  · replace h := h.2 c1
    refine r_iconst (pc' := 14) C dX12_grow_13 rfl ?_
    refine r_iload (pc' := 16) C 3 rfl dX12_grow_14 rfl ?_
    refine r_imul (pc' := 17) C dX12_grow_16 rfl ?_
    refine r_iload_n (pc' := 18) C 1 rfl rfl dX12_grow_17 rfl ?_
    refine r_iload (pc' := 20) C 4 rfl dX12_grow_18 rfl ?_
    have o4 := h.1
    replace h := h.2
    refine r_ishr (pc' := 21) C hx1 o4 dX12_grow_20 rfl ?_
    refine r_iconst (pc' := 22) C dX12_grow_21 rfl ?_
    refine r_iandM (pc' := 23) (m := 2) C 1 (by decide) (by decide) (by decide) dX12_grow_22 rfl ?_
    refine r_iadd (pc' := 24) C dX12_grow_23 rfl ?_
    refine r_istore (pc' := 26) (ls' := [(0, .ref (gl_b Y + k)), (1, .int (i32 x1)), (3, .int (i32 x3)), (4, .int (i32 x4)), (5, .int (i32 x5)), (6, .int (i32 ((2 * x4) + ((x1 / 2 ^ x5.toNat) % 2))))]) C (by decide) rfl dX12_grow_24 rfl ?_
    refine r_aload_n (pc' := 27) C 0 rfl rfl dX12_grow_26 rfl ?_
    refine r_getr (pc' := 30) (k := k) (r := k + 1) C fl_X12_7 (by omega) hkc (by decide) fr_12_0 hkr0 dX12_grow_27 rfl ?_
    refine r_iload (pc' := 32) C 5 rfl dX12_grow_30 rfl ?_
    have o5 := h.1
    replace h := h.2
    refine r_iald (pc' := 33) (k := k + 1) C (by omega) hka (by have := hkk1; omega) dX12_grow_32 rfl (fun f6 => ?_)
    replace h := h f6
    refine r_if_ne (pc' := 36) (tgt := 83) C f6 dX12_grow_33 (by decide) rfl (fun c7 => ?_) (fun c7 => ?_)
    · replace h := h.1 c7
      refine r_aload_n (pc' := 84) C 0 rfl rfl dX12_grow_83 rfl ?_
      refine r_getr (pc' := 87) (k := k) (r := k + 1) C fl_X12_7 (by omega) hkc (by decide) fr_12_0 hkr0 dX12_grow_84 rfl ?_
      refine r_iload (pc' := 89) C 5 rfl dX12_grow_87 rfl ?_
      refine r_iald (pc' := 90) (k := k + 1) C (by omega) hka (by have := hkk1; omega) dX12_grow_89 rfl (fun f8 => ?_)
      refine r_istore (pc' := 92) (ls' := [(0, .ref (gl_b Y + k)), (1, .int (i32 x1)), (3, .int (i32 x3)), (4, .int (i32 (av (k + 1) ((2 * x4) + ((x1 / 2 ^ x5.toNat) % 2)).toNat))), (5, .int (i32 x5)), (6, .int (i32 ((2 * x4) + ((x1 / 2 ^ x5.toNat) % 2))))]) C (by decide) rfl dX12_grow_90 rfl ?_
      refine r_iinc (pc' := 95) (ls' := [(0, .ref (gl_b Y + k)), (1, .int (i32 x1)), (3, .int (i32 x3)), (4, .int (i32 (av (k + 1) ((2 * x4) + ((x1 / 2 ^ x5.toNat) % 2)).toNat))), (5, .int (i32 (x5 + (-1)))), (6, .int (i32 ((2 * x4) + ((x1 / 2 ^ x5.toNat) % 2))))]) C 4 rfl (by decide) rfl dX12_grow_92 rfl ?_
      refine r_goto (tgt := 8) C dX12_grow_95 (by decide) ?_
      exact Wa.sub [0, 1, 2, 3, 4] rfl h
    · replace h := h.2 c7
      refine r_aload_n (pc' := 37) C 0 rfl rfl dX12_grow_36 rfl ?_
      refine r_getr (pc' := 40) (k := k) (r := k + 1) C fl_X12_7 (by omega) hkc (by decide) fr_12_0 hkr0 dX12_grow_37 rfl ?_
      refine r_iload (pc' := 42) C 5 rfl dX12_grow_40 rfl ?_
      refine r_aload_n (pc' := 43) C 0 rfl rfl dX12_grow_42 rfl ?_
      refine r_geti (pc' := 46) (k := k) C fl_X12_13 (by omega) hkc (by decide) fr_12_1 dX12_grow_43 rfl (fun f9 => ?_)
      replace h := h f9
      refine r_iast (pc' := 47) (k := k + 1) C (by omega) hka (by have := hkk1; omega) f9 dX12_grow_46 rfl ?_
      refine r_aload_n (pc' := 48) C 0 rfl rfl dX12_grow_47 rfl ?_
      refine r_getr (pc' := 51) (k := k) (r := k + 1) C fl_X12_7 (by omega) hkc (by decide) fr_12_0 hkr0 dX12_grow_48 rfl ?_
      refine r_iconst (pc' := 52) C dX12_grow_51 rfl ?_
      refine r_aload_n (pc' := 53) C 0 rfl rfl dX12_grow_52 rfl ?_
      refine r_geti (pc' := 56) (k := k) C fl_X12_13 (by omega) hkc (by decide) fr_12_1 dX12_grow_53 rfl (fun f10 => ?_)
      refine r_imul (pc' := 57) C dX12_grow_56 rfl ?_
      refine r_iconst (pc' := 58) C dX12_grow_57 rfl ?_
      have o11 := h.1
      replace h := h.2
      refine r_iast (pc' := 59) (k := k + 1) C (by omega) hka (by have := hkk1; omega) (by decide) dX12_grow_58 rfl ?_
      refine r_aload_n (pc' := 60) C 0 rfl rfl dX12_grow_59 rfl ?_
      refine r_getr (pc' := 63) (k := k) (r := k + 1) C fl_X12_7 (by omega) hkc (by decide) fr_12_0 hkr0 dX12_grow_60 rfl ?_
      refine r_iconst (pc' := 64) C dX12_grow_63 rfl ?_
      refine r_aload_n (pc' := 65) C 0 rfl rfl dX12_grow_64 rfl ?_
      refine r_geti (pc' := 68) (k := k) C fl_X12_13 (by omega) hkc (by decide) fr_12_1 dX12_grow_65 rfl (fun f12 => ?_)
      refine r_imul (pc' := 69) C dX12_grow_68 rfl ?_
      refine r_iconst (pc' := 70) C dX12_grow_69 rfl ?_
      refine r_iadd (pc' := 71) C dX12_grow_70 rfl ?_
      refine r_iconst (pc' := 72) C dX12_grow_71 rfl ?_
      have o13 := h.1
      replace h := h.2
      refine r_iast (pc' := 73) (k := k + 1) C (by omega) hka (by have := hkk1; omega) (by decide) dX12_grow_72 rfl ?_
      refine r_aload_n (pc' := 74) C 0 rfl rfl dX12_grow_73 rfl ?_
      refine r_dup (pc' := 75) C rfl dX12_grow_74 rfl ?_
      refine r_geti (pc' := 78) (k := k) C fl_X12_13 (by omega) hkc (by decide) fr_12_1 dX12_grow_75 rfl (fun f14 => ?_)
      refine r_iconst (pc' := 79) C dX12_grow_78 rfl ?_
      refine r_iadd (pc' := 80) C dX12_grow_79 rfl ?_
      have o15 := h.1
      replace h := h.2
      refine r_puti (pc' := 83) (k := k) C fl_X12_13 (by omega) hkc (by decide) fr_12_1 o15 dX12_grow_80 rfl ?_
      refine r_aload_n (pc' := 84) C 0 rfl rfl dX12_grow_83 rfl ?_
      refine r_getr (pc' := 87) (k := k) (r := k + 1) C fl_X12_7 (by omega) hkc (by decide) fr_12_0 hkr0 dX12_grow_84 rfl ?_
      refine r_iload (pc' := 89) C 5 rfl dX12_grow_87 rfl ?_
      refine r_iald (pc' := 90) (k := k + 1) C (by omega) hka (by have := hkk1; omega) dX12_grow_89 rfl (fun f16 => ?_)
      replace h := h f16
      refine r_istore (pc' := 92) (ls' := [(0, .ref (gl_b Y + k)), (1, .int (i32 x1)), (3, .int (i32 x3)), (4, .int (i32 ((up2 (up2 (up2 av (k + 1) (((2 * x4) + ((x1 / 2 ^ x5.toNat) % 2)).toNat) (iv k 1)) (k + 1) ((2 * (iv k 1)).toNat) 0) (k + 1) (((2 * (iv k 1)) + 1).toNat) 0) (k + 1) ((2 * x4) + ((x1 / 2 ^ x5.toNat) % 2)).toNat))), (5, .int (i32 x5)), (6, .int (i32 ((2 * x4) + ((x1 / 2 ^ x5.toNat) % 2))))]) C (by decide) rfl dX12_grow_90 rfl ?_
      refine r_iinc (pc' := 95) (ls' := [(0, .ref (gl_b Y + k)), (1, .int (i32 x1)), (3, .int (i32 x3)), (4, .int (i32 ((up2 (up2 (up2 av (k + 1) (((2 * x4) + ((x1 / 2 ^ x5.toNat) % 2)).toNat) (iv k 1)) (k + 1) ((2 * (iv k 1)).toNat) 0) (k + 1) (((2 * (iv k 1)) + 1).toNat) 0) (k + 1) ((2 * x4) + ((x1 / 2 ^ x5.toNat) % 2)).toNat))), (5, .int (i32 (x5 + (-1)))), (6, .int (i32 ((2 * x4) + ((x1 / 2 ^ x5.toNat) % 2))))]) C 4 rfl (by decide) rfl dX12_grow_92 rfl ?_
      refine r_goto (tgt := 8) C dX12_grow_95 (by decide) ?_
      exact Wa.sub [0, 1, 2, 3, 4] rfl h
set_option maxHeartbeats 4000000 in
set_option maxRecDepth 100000 in
theorem o_X12_grow {Y : Gl} {e : Nat} {P : PN} {k : Nat} {x1 : Int} {x2 : Int} {x3 : Int} {iv av : IVt} (Kk : TreeK k) (h : ∀ X : Cx, CX Y X RX12 "grow" cX12_grow 7 none e 0 0 →
    L_X12_grow_8 Y X P k x1 x3 0 (x2 - 1) iv av) : OkN Y e mX12_grow [.ref (gl_b Y + k), .int (i32 x1), .int (i32 x2), .int (i32 x3)] RV iv av 116 P := by
  obtain ⟨hkc, hka, hkl, hkr0, hkk1⟩ := Kk
  refine OkW.of rfl (by show _ ≤ 7; exact Nat.le_of_ble_eq_true rfl) fun X C0 hR => ?_
  have C : CX Y X RX12 "grow" cX12_grow 7 none e 0 0 := C0
  replace h := h X C
  show Wa Y X 7 (g_MQ Y X 0 (g_N RV 116 P) 0 0) 0 0 0 [(0, .ref (gl_b Y + k)), (1, .int (i32 x1)), (2, .int (i32 x2)), (3, .int (i32 x3))] [] RV iv av 116
  refine r_iconst (pc' := 1) C dX12_grow_0 rfl ?_
  refine r_istore (pc' := 3) (ls' := [(0, .ref (gl_b Y + k)), (1, .int (i32 x1)), (2, .int (i32 x2)), (3, .int (i32 x3)), (4, .int (i32 0))]) C (by decide) rfl dX12_grow_1 rfl ?_
  refine r_iload_n (pc' := 4) C 2 rfl rfl dX12_grow_3 rfl ?_
  refine r_iconst (pc' := 5) C dX12_grow_4 rfl ?_
  refine r_isub (pc' := 6) C dX12_grow_5 rfl ?_
  refine r_istore (pc' := 8) (ls' := [(0, .ref (gl_b Y + k)), (1, .int (i32 x1)), (2, .int (i32 x2)), (3, .int (i32 x3)), (4, .int (i32 0)), (5, .int (i32 (x2 - 1)))]) C (by decide) rfl dX12_grow_6 rfl ?_
  exact Wa.sub [0, 1, 3, 4, 5] rfl h
