/-! The start: what holds once both objects are made; the law's loop. -/
theorem upR_out {f : RVt} {k j k' j' v : Nat} (h : k' ≠ k ∨ j' ≠ j) : upR f k j v k' j' = f k' j' := by
  by_cases hk : k' = k
  · subst hk
    exact upR_nj (h.resolve_left fun h => h rfl)
  · rw [upR_ne hk]
def zI : IVt := fun _ _ => 0
def zR : RVt := fun _ _ => 0
theorem rv_out {k j : Nat} (h : 116 ≤ k ∨ 62 ≤ j) : RV13 (RV11 zR) k j = 0 := by
  unfold RV13 RV11 RV8
  repeat rw [upR_out (by omega)]
  rfl
theorem RV_out {k j : Nat} (h : 116 ≤ k ∨ 62 ≤ j) : RV k j = 0 := by
  unfold RV
  by_cases hk : k < 116
  · have hl : ∀ k, k < 116 → (RVL.getD k []).length ≤ 62 := by decide +kernel
    rw [List.getD_eq_getElem?_getD, List.getElem?_eq_none (by have := hl k hk; omega)]
    rfl
  · have hl : RVL.length = 116 := by decide +kernel
    rw [List.getD_eq_getElem?_getD (l := RVL), List.getElem?_eq_none (by omega)]
    rfl
theorem rvEq : RV13 (RV11 zR) = RV := by
  funext k j
  by_cases h : 116 ≤ k ∨ 62 ≤ j
  · rw [rv_out h, RV_out h]
  · exact (show ∀ k, k < 116 → ∀ j, j < 62 → RV13 (RV11 zR) k j = RV k j by decide +kernel) k (by omega) j (by omega)
def iv00 : IVt := up2 (up2 (up2 (up2 (up2 zI 5 4 12) 5 5 0) 5 6 0) 23 2 1) 73 6 4096
theorem inv0 {av1 av2 : IVt} (o1 : Off [6, 47, 48, 51, 52] zI av1) (f6 : ∀ i, av1 6 i = if i % 8 = 4 ∧ i < 512 then -2 else 0) (g47 : ∀ s, s < 288 → av1 47 s = fxL s ∧ av1 48 s = trn (cd (av1 47) 288 s) (av1 47 s).toNat) (g51 : ∀ s, s < 32 → av1 51 s = 5 ∧ av1 52 s = trn (cd (av1 51) 32 s) (av1 51 s).toNat) (o2 : Off [82] av1 av2) (f82 : ∀ f, f < 64 → av2 82 f = -2) : Inv 0 iv00 av2 := by
  have z : ∀ k, k ∉ [6, 47, 48, 51, 52, 82] → ∀ i, av2 k i = 0 := fun k hk i => by
    simp only [List.mem_cons, List.not_mem_nil, or_false, not_or] at hk
    rw [o2 k (by simp [hk]), o1 k (by simp [hk])]
    rfl
  have e6 : av2 6 = av1 6 := o2 6 (by decide)
  have s6 : ∀ f w, w < 8 → w ≠ 4 → av2 6 (8 * f + w) = 0 := fun f w hw h4 => by rw [e6, f6, if_neg (by omega)]
  have s64 : ∀ f, f < 64 → av2 6 (8 * f + 4) = -2 := fun f hf => by rw [e6, f6, if_pos (by omega)]
  have z4 := z 4 (by decide)
  have z75 := z 75 (by decide)
  have z76 := z 76 (by decide)
  have bk : bkS iv00 = 4096 := rfl
  refine ⟨⟨⟨z4 0, fun i hi => ?_, z4 64, by show (0 : Int) ≤ 65536; decide⟩, rfl, fun f hf => ?_, fun f hf => ?_, fun f g hf hg hne h0 => ?_, fun f hf j hj => ?_⟩, ⟨rfl, Int.le_refl 0, by show (0 : Int) ≤ 1024; decide, fun j hj => absurd (show (j : Int) < 0 from hj) (by omega)⟩, ⟨rfl, Int.le_refl 0, by show (0 : Int) ≤ 131072; decide, fun j hj => absurd (show (j : Int) < 0 from hj) (by omega)⟩, ⟨rfl, Int.le_refl 0, by show (0 : Int) ≤ 4096; decide, fun j hj => absurd (show (j : Int) < 0 from hj) (by omega)⟩, rfl, ⟨⟨⟨by show (12 : Int) ≤ 12; decide, by show (12 : Int) ≤ 16; decide, by rw [bk]; rfl⟩, ⟨rfl, Int.le_refl 0, by show (0 : Int) ≤ 80; decide⟩, ⟨rfl, Int.le_refl 0, by show (0 : Int) ≤ 64; decide⟩, fun j hj => absurd (show (j : Int) < 0 from hj) (by omega), fun j hj => absurd (show (j : Int) < 0 from hj) (by omega)⟩, fun f hf => ?_⟩, ⟨⟨rfl, rfl⟩, ⟨by show (1 : Int) ≤ 1; decide, Int.le_refl 0, Int.le_refl 0, by show (0 : Int) ≤ 65536; decide, by show (1 : Int) + (0 - 0) ≤ 1 + 65536 * ((0 : Nat) : Int); decide⟩, fun h hh => ?_, fun s hs => ?_, fun s hs => ?_, fun i hi => z 32 (by decide) i⟩, ⟨rfl, rfl, ⟨Int.le_refl 0, by show (0 : Int) ≤ 65536; decide⟩, Int.le_refl 0, by show (0 : Int) ≤ 4096; decide⟩⟩
  · rw [z4, z4]
    exact Int.le_refl _
  · rw [z76, z4, z4]
    rfl
  · rw [z75, z76]
    exact ⟨Int.le_refl _, by show (0 : Int) + 0 ≤ 0; decide⟩
  · rw [z76] at h0
    omega
  · rw [z76] at hj
    omega
  · unfold LF
    rw [bk, z 78 (by decide), z 79 (by decide), z 81 (by decide), f82 f hf, z 83 (by decide), z 84 (by decide), z 80 (by decide), s6 f 1 (by omega) (by omega), s6 f 2 (by omega) (by omega), s6 f 3 (by omega) (by omega), s64 f hf, s6 f 5 (by omega) (by omega), s6 f 6 (by omega) (by omega), s6 f 7 (by omega) (by omega)]
    refine ⟨⟨rfl, rfl, rfl, rfl, rfl, rfl, rfl⟩, ⟨by decide, by decide, by decide, by decide, by decide, by decide, by show (0 : Int) + 0 ≤ 0; decide, by decide⟩, Or.inl ⟨rfl, by decide⟩, fun k hk => absurd hk (by omega)⟩
  · rw [z 24 (by decide)]
    show (0 : Int) ≤ 0 ∧ (0 : Int) < 1 + (0 - 0)
    decide
  · rw [o2 47 (by decide), o2 48 (by decide)]
    exact g47 s hs
  · rw [o2 51 (by decide), o2 52 (by decide)]
    exact g51 s hs
theorem NWk.kn {own : String} {idx ci : Nat} (F : NWk own idx ci) {args : Array Value} {s : State} (hts : ∀ w ∈ g_WS, w.before args s = true) {q : vw_C} (hq : vwCl[ci]? = some q) : ∃ (cC : ClassId) (iS : Nat → Nat), u_Kn s q.1 q.2.1 q.2.2 cC iS := by
  obtain ⟨Cn, T, N, tys, h1, h2, h3, h4, h5, h6, h7, h8⟩ := F
  rw [h1] at hq
  cases hq
  exact u_known hts h3 (hts _ h6)
theorem nmw_0 : Cond.methodLinkNest "SharedBlocks" 9 ⟨"SharedBlocks$Files", "<init>", "()V"⟩ "SharedBlocks" ∈ lw_tbl := List.mem_append_right _ (List.mem_of_getElem? (i := 27) (by decide +kernel))
theorem nmw_1 : Cond.methodLinkNest "SharedBlocks$Packer" 11 ⟨"SharedBlocks$Matcher", "<init>", "()V"⟩ "SharedBlocks" ∈ lw_tbl := List.mem_append_right _ (List.mem_of_getElem? (i := 102) (by decide +kernel))
theorem nmw_2 : Cond.methodLinkNest "SharedBlocks$Packer" 20 ⟨"SharedBlocks$LengthMaker", "<init>", "()V"⟩ "SharedBlocks" ∈ lw_tbl := List.mem_append_right _ (List.mem_of_getElem? (i := 132) (by decide +kernel))
theorem nmw_3 : Cond.methodLinkNest "SharedBlocks$Packer" 68 ⟨"SharedBlocks", "fixedLength", "(I)I"⟩ "SharedBlocks" ∈ lw_tbl := List.mem_append_right _ (List.mem_of_getElem? (i := 191) (by decide +kernel))
theorem nmw_4 : Cond.methodLinkNest "SharedBlocks$Unpacker" 11 ⟨"SharedBlocks$ReadCode", "<init>", "()V"⟩ "SharedBlocks" ∈ lw_tbl := List.mem_append_right _ (List.mem_of_getElem? (i := 259) (by decide +kernel))
theorem nmw_5 : Cond.methodLinkNest "SharedBlocks$Packer" 149 ⟨"SharedBlocks", "lengthSymbol", "(I)I"⟩ "SharedBlocks" ∈ lw_tbl := List.mem_append_right _ (List.mem_of_getElem? (i := 559) (by decide +kernel))
theorem nmw_6 : Cond.methodLinkNest "SharedBlocks$Packer" 152 ⟨"SharedBlocks", "distanceSymbol", "(I)I"⟩ "SharedBlocks" ∈ lw_tbl := List.mem_append_right _ (List.mem_of_getElem? (i := 565) (by decide +kernel))
theorem nmw_7 : Cond.methodLinkNest "SharedBlocks$Packer" 170 ⟨"SharedBlocks", "lengthBits", "(I)I"⟩ "SharedBlocks" ∈ lw_tbl := List.mem_append_right _ (List.mem_of_getElem? (i := 576) (by decide +kernel))
theorem nmw_8 : Cond.methodLinkNest "SharedBlocks$Packer" 173 ⟨"SharedBlocks", "distanceBits", "(I)I"⟩ "SharedBlocks" ∈ lw_tbl := List.mem_append_right _ (List.mem_of_getElem? (i := 579) (by decide +kernel))
theorem nmw_9 : Cond.methodLinkNest "SharedBlocks$Packer" 186 ⟨"SharedBlocks", "ordered", "(I)I"⟩ "SharedBlocks" ∈ lw_tbl := List.mem_append_right _ (List.mem_of_getElem? (i := 662) (by decide +kernel))
theorem nmw_10 : Cond.methodLinkNest "SharedBlocks$Packer" 211 ⟨"SharedBlocks", "sizeBits", "(I)I"⟩ "SharedBlocks" ∈ lw_tbl := List.mem_append_right _ (List.mem_of_getElem? (i := 672) (by decide +kernel))
theorem nmw_11 : Cond.methodLinkNest "SharedBlocks$Packer" 221 ⟨"SharedBlocks", "lengthBase", "(I)I"⟩ "SharedBlocks" ∈ lw_tbl := List.mem_append_right _ (List.mem_of_getElem? (i := 698) (by decide +kernel))
theorem nmw_12 : Cond.methodLinkNest "SharedBlocks$Packer" 224 ⟨"SharedBlocks", "distanceBase", "(I)I"⟩ "SharedBlocks" ∈ lw_tbl := List.mem_append_right _ (List.mem_of_getElem? (i := 702) (by decide +kernel))
theorem nmw_13 : Cond.methodLinkNest "SharedBlocks$Packer" 118 ⟨"SharedBlocks", "checkOf", "(LSharedBlocks$Bytes;II)I"⟩ "SharedBlocks" ∈ lw_tbl := List.mem_append_right _ (List.mem_of_getElem? (i := 710) (by decide +kernel))
theorem nmw_14 : Cond.methodLinkNest "SharedBlocks$Unpacker" 112 ⟨"SharedBlocks", "fixedLength", "(I)I"⟩ "SharedBlocks" ∈ lw_tbl := List.mem_append_right _ (List.mem_of_getElem? (i := 871) (by decide +kernel))
theorem nmw_15 : Cond.methodLinkNest "SharedBlocks$Unpacker" 135 ⟨"SharedBlocks", "lengthBase", "(I)I"⟩ "SharedBlocks" ∈ lw_tbl := List.mem_append_right _ (List.mem_of_getElem? (i := 893) (by decide +kernel))
theorem nmw_16 : Cond.methodLinkNest "SharedBlocks$Unpacker" 138 ⟨"SharedBlocks", "lengthBits", "(I)I"⟩ "SharedBlocks" ∈ lw_tbl := List.mem_append_right _ (List.mem_of_getElem? (i := 894) (by decide +kernel))
theorem nmw_17 : Cond.methodLinkNest "SharedBlocks$Unpacker" 141 ⟨"SharedBlocks", "distanceBase", "(I)I"⟩ "SharedBlocks" ∈ lw_tbl := List.mem_append_right _ (List.mem_of_getElem? (i := 895) (by decide +kernel))
theorem nmw_18 : Cond.methodLinkNest "SharedBlocks$Unpacker" 144 ⟨"SharedBlocks", "distanceBits", "(I)I"⟩ "SharedBlocks" ∈ lw_tbl := List.mem_append_right _ (List.mem_of_getElem? (i := 896) (by decide +kernel))
theorem nmw_19 : Cond.methodLinkNest "SharedBlocks$Unpacker" 125 ⟨"SharedBlocks", "ordered", "(I)I"⟩ "SharedBlocks" ∈ lw_tbl := List.mem_append_right _ (List.mem_of_getElem? (i := 906) (by decide +kernel))
theorem nmw_20 : Cond.methodLinkNest "SharedBlocks$Unpacker" 132 ⟨"SharedBlocks", "sizeBits", "(I)I"⟩ "SharedBlocks" ∈ lw_tbl := List.mem_append_right _ (List.mem_of_getElem? (i := 911) (by decide +kernel))
theorem nmw_21 : Cond.methodLinkNest "SharedBlocks$Unpacker" 104 ⟨"SharedBlocks", "checkOf", "(LSharedBlocks$Bytes;II)I"⟩ "SharedBlocks" ∈ lw_tbl := List.mem_append_right _ (List.mem_of_getElem? (i := 920) (by decide +kernel))
theorem nmw_22 : Cond.methodLinkNest "SharedBlocksModel" 125 ⟨"SharedBlocksModel$Tree", "<init>", "()V"⟩ "SharedBlocksModel" ∈ lw_tbl := List.mem_append_right _ (List.mem_of_getElem? (i := 940) (by decide +kernel))
theorem nfw : Cond.fieldLinkNest g_NF.1 g_NF.2.1 g_NF.2.2.1 g_NF.2.2.2.1 g_NF.2.2.2.2.1 g_NF.2.2.2.2.2 ∈ lw_tbl := List.mem_append_right _ (List.mem_of_getElem? (i := 945) (by decide +kernel))
theorem nm_all : ∀ q ∈ g_NM, Cond.methodLinkNest q.1 q.2.1 q.2.2.1 q.2.2.2 ∈ lw_tbl := List.forall_mem_cons.mpr ⟨nmw_0, List.forall_mem_cons.mpr ⟨nmw_1, List.forall_mem_cons.mpr ⟨nmw_2, List.forall_mem_cons.mpr ⟨nmw_3, List.forall_mem_cons.mpr ⟨nmw_4, List.forall_mem_cons.mpr ⟨nmw_5, List.forall_mem_cons.mpr ⟨nmw_6, List.forall_mem_cons.mpr ⟨nmw_7, List.forall_mem_cons.mpr ⟨nmw_8, List.forall_mem_cons.mpr ⟨nmw_9, List.forall_mem_cons.mpr ⟨nmw_10, List.forall_mem_cons.mpr ⟨nmw_11, List.forall_mem_cons.mpr ⟨nmw_12, List.forall_mem_cons.mpr ⟨nmw_13, List.forall_mem_cons.mpr ⟨nmw_14, List.forall_mem_cons.mpr ⟨nmw_15, List.forall_mem_cons.mpr ⟨nmw_16, List.forall_mem_cons.mpr ⟨nmw_17, List.forall_mem_cons.mpr ⟨nmw_18, List.forall_mem_cons.mpr ⟨nmw_19, List.forall_mem_cons.mpr ⟨nmw_20, List.forall_mem_cons.mpr ⟨nmw_21, List.forall_mem_cons.mpr ⟨nmw_22, fun _ h => absurd h List.not_mem_nil⟩⟩⟩⟩⟩⟩⟩⟩⟩⟩⟩⟩⟩⟩⟩⟩⟩⟩⟩⟩⟩⟩⟩
theorem wd_lays : Cond.laysStatic "SharedBlocks" "ORDER" "[I" ∈ lw_tbl := List.mem_append_right _ (List.mem_of_getElem? (i := 666) (by decide +kernel))
theorem wd_ini : Cond.initialized "SharedBlocks" ∈ lw_tbl := List.mem_append_right _ (List.mem_of_getElem? (i := 1) (by decide +kernel))
theorem wl_int : Cond.arrayClass .int ∈ lw_tbl := (List.mem_filter.mp wd_aint).1
theorem wl_byte : Cond.arrayClass .byte ∈ lw_tbl := (List.mem_filter.mp wd_abyte).1
theorem wl_boolean : Cond.arrayClass .boolean ∈ lw_tbl := (List.mem_filter.mp wd_aboolean).1
theorem all_kn {args : Array Value} {s : State} (hts : ∀ w ∈ g_WS, w.before args s = true) (c0 : ClassId) : ∃ D : va_G, ∀ (ci : Nat) (q : vw_C), vwCl[ci]? = some q → u_Kn s q.1 q.2.1 q.2.2 (D.1 ci) (D.2 ci) := by
  have hkn : ∀ (ci : Nat) (q : vw_C), vwCl[ci]? = some q → ∃ (cC : ClassId) (iS : Nat → Nat), u_Kn s q.1 q.2.1 q.2.2 cC iS := by
    intro ci q hq
    match ci, hq with
    | 0, hq => exact nw_X8_59.kn hts hq
    | 1, hq => exact nw_X10_28.kn hts hq
    | 2, hq => exact nw_X4_9.kn hts hq
    | 3, hq => exact nw_X8_25.kn hts hq
    | 4, hq => exact nw_X11_7.kn hts hq
    | 5, hq => exact nw_X11_16.kn hts hq
    | 6, hq => exact nw_X8_18.kn hts hq
    | 7, hq => exact nw_X8_9.kn hts hq
    | 8, hq => exact nw_X11_49.kn hts hq
    | 9, hq => exact nw_X10_9.kn hts hq
    | 10, hq => exact nw_X11_58.kn hts hq
    | 11, hq => exact nwL_7.kn hts hq
    | 12, hq => exact nw_X13_123.kn hts hq
    | 13, hq => exact nwL_10.kn hts hq
    | ci + 14, hq => simp [vwCl] at hq
  have h1 : ∀ ci : Nat, ∃ d : ClassId × (Nat → Nat), ∀ q : vw_C, vwCl[ci]? = some q → u_Kn s q.1 q.2.1 q.2.2 d.1 d.2 := by
    intro ci
    cases h : vwCl[ci]? with
    | none => exact ⟨(c0, fun _ => 0), fun q hq => absurd hq (by simp)⟩
    | some q =>
      obtain ⟨cC, iS, hk⟩ := hkn ci q h
      exact ⟨(cC, iS), fun q' hq' => by cases hq'; exact hk⟩
  exact ⟨(fun ci => (Classical.choose (h1 ci)).1, fun ci => (Classical.choose (h1 ci)).2), fun ci q hq => Classical.choose_spec (h1 ci) q hq⟩
theorem arr_kn {args : Array Value} {s : State} {ty : FieldType} (h : (Cond.arrayClass ty).before args s = true) (hp : ∀ C, ty ≠ .object C) : ∃ cA : ClassId, ArrOfT s cA ty ∧ va_RA s cA ty := by
  obtain ⟨cA, kA, comp, h1, h2, h3⟩ := Cond.arrayClass_spec h
  refine ⟨cA, fun n z => ⟨fun k h => (by cases h), kA, h2, comp, h3⟩, ?_⟩
  cases ty <;> first | exact h1 | exact absurd rfl (hp _)
section SLoop
variable {Y : Gl} {X : Cx} {nm : String} {mc ms ce sl : Nat} {Q : State → Prop} {b L : Nat} {xs : Nat → Int32}
set_option maxHeartbeats 4000000 in
set_option maxRecDepth 100000 in
theorem law_loop (C : CX Y X RL nm code 4 ret 100 mc ms) (hce : ce ≤ mc) (hsl : sl ≤ ms) (hX : va_X b L xs (cx_s X) (cx_s X).heap) (hbl : b < (cx_s X).heap.size) (hbA : b < gl_b Y) (hL : L ≤ 320) (hend : ∀ (i : Int) iv av, Wa Y X 4 Q ce sl 651 [(0, .ref b), (1, .ref (gl_b Y + 0)), (2, .ref (gl_b Y + 73)), (3, .int (i32 i))] [.int (i32 1)] RV iv av 116) :
    ∀ (m k : Nat) (iv av : IVt), k ≤ 64 → L < 5 * k + 5 * m + 5 → Inv k iv av → Wa Y X 4 Q ce sl 18 [(0, .ref b), (1, .ref (gl_b Y + 0)), (2, .ref (gl_b Y + 73)), (3, .int (i32 ((5 * k : Nat) : Int)))] [] RV iv av 116 := by
  intro m
  induction m with
  | zero =>
    intro k iv av hk h1 hI
    · refine r_iload_n (pc' := 19) C 3 rfl rfl dL_18 rfl ?_
      refine r_aload_n (pc' := 20) C 0 rfl rfl dL_19 rfl ?_
      refine r_slen (pc' := 21) C hX hbl hbA dL_20 rfl ?_
      refine r_iconst (pc' := 22) C dL_21 rfl ?_
      refine r_isub (pc' := 23) C dL_22 rfl ?_
      refine r_icmp_gt (pc' := 26) (tgt := 650) C (by omega) (by omega) dL_23 (by decide) rfl (fun _ => ?_) (fun c => absurd c (by omega))
      exact r_iconst (pc' := 651) C dL_650 rfl (hend _ iv av)
  | succ m ih =>
    intro k iv av hk h1 hI
    refine r_iload_n (pc' := 19) C 3 rfl rfl dL_18 rfl ?_
    refine r_aload_n (pc' := 20) C 0 rfl rfl dL_19 rfl ?_
    refine r_slen (pc' := 21) C hX hbl hbA dL_20 rfl ?_
    refine r_iconst (pc' := 22) C dL_21 rfl ?_
    refine r_isub (pc' := 23) C dL_22 rfl ?_
    refine r_icmp_gt (pc' := 26) (tgt := 650) C (by omega) (by omega) dL_23 (by decide) rfl (fun _ => ?_) (fun c => ?_)
    · exact r_iconst (pc' := 651) C dL_650 rfl (hend _ iv av)
    have hkb : 5 * k + 5 ≤ L := by omega
    refine r_aload_n (pc' := 27) C 0 rfl rfl dL_26 rfl ?_
    refine r_iload_n (pc' := 28) C 3 rfl rfl dL_27 rfl ?_
    refine r_sld (pc' := 29) C hX hbl hbA (by omega) dL_28 rfl ?_
    refine r_bipush (pc' := 31) C dL_29 (by decide) rfl ?_
    refine r_iandM (pc' := 32) (m := 16) C 4 (by decide) (by decide) (by decide) dL_31 rfl ?_
    have hN : ∀ iv' av', Inv (k + 1) iv' av' → Wa Y X 4 Q ce sl 644 [(0, .ref b), (1, .ref (gl_b Y + 0)), (2, .ref (gl_b Y + 73)), (3, .int (i32 ((5 * k : Nat) : Int)))] [] RV iv' av' 116 := by
      intro iv' av' hJ
      refine r_iinc (pc' := 647) (ls' := [(0, .ref b), (1, .ref (gl_b Y + 0)), (2, .ref (gl_b Y + 73)), (3, .int (i32 (((5 * k : Nat) : Int) + 5)))]) C 3 rfl (by decide) rfl dL_644 rfl ?_
      refine r_goto (tgt := 18) C dL_647 (by decide) ?_
      rw [show ((5 * k : Nat) : Int) + 5 = ((5 * (k + 1) : Nat) : Int) by omega]
      exact ih (k + 1) iv' av' (by omega) (by omega) hJ
    have hx : ∀ x : Int, x % 16 = 0 ∨ x % 16 = 1 ∨ x % 16 = 2 ∨ x % 16 = 3 ∨ x % 16 = 4 ∨ x % 16 = 5 ∨ x % 16 = 6 ∨ x % 16 = 7 ∨ x % 16 = 8 ∨ x % 16 = 9 ∨ x % 16 = 10 ∨ x % 16 = 11 ∨ x % 16 = 12 ∨ x % 16 = 13 ∨ x % 16 = 14 ∨ x % 16 = 15 := fun x => by omega
    rcases hx (xs ((5 * k : Nat) : Int).toNat).toInt with h | h | h | h | h | h | h | h | h | h | h | h | h | h | h | h <;> rw [h]
    · exact r_tabIn (x := 0) (tgt := 112) C (by decide) dL_32 (by decide) (by decide) rfl (by decide) (lawc_0 C hce hsl hX hbl hbA hL (by omega) (by omega) (by omega) hI hN)
    · exact r_tabIn (x := 1) (tgt := 175) C (by decide) dL_32 (by decide) (by decide) rfl (by decide) (lawc_1 C hce hsl hX hbl hbA hL (by omega) (by omega) (by omega) hI hN)
    · exact r_tabIn (x := 2) (tgt := 208) C (by decide) dL_32 (by decide) (by decide) rfl (by decide) (lawc_2 C hce hsl hX hbl hbA hL (by omega) (by omega) (by omega) hI hN)
    · exact r_tabIn (x := 3) (tgt := 261) C (by decide) dL_32 (by decide) (by decide) rfl (by decide) (lawc_3 C hce hsl hX hbl hbA hL (by omega) (by omega) (by omega) hI hN)
    · exact r_tabIn (x := 4) (tgt := 284) C (by decide) dL_32 (by decide) (by decide) rfl (by decide) (lawc_4 C hce hsl hX hbl hbA hL (by omega) (by omega) (by omega) hI hN)
    · exact r_tabIn (x := 5) (tgt := 359) C (by decide) dL_32 (by decide) (by decide) rfl (by decide) (lawc_5 C hce hsl hX hbl hbA hL (by omega) (by omega) (by omega) hI hN)
    · exact r_tabIn (x := 6) (tgt := 392) C (by decide) dL_32 (by decide) (by decide) rfl (by decide) (lawc_6 C hce hsl hX hbl hbA hL (by omega) (by omega) (by omega) hI hN)
    · exact r_tabIn (x := 7) (tgt := 425) C (by decide) dL_32 (by decide) (by decide) rfl (by decide) (lawc_7 C hce hsl hX hbl hbA hL (by omega) (by omega) (by omega) hI hN)
    · exact r_tabIn (x := 8) (tgt := 438) C (by decide) dL_32 (by decide) (by decide) rfl (by decide) (lawc_8 C hce hsl hX hbl hbA hL (by omega) (by omega) (by omega) hI hN)
    · exact r_tabIn (x := 9) (tgt := 471) C (by decide) dL_32 (by decide) (by decide) rfl (by decide) (lawc_9 C hce hsl hX hbl hbA hL (by omega) (by omega) (by omega) hI hN)
    · exact r_tabIn (x := 10) (tgt := 484) C (by decide) dL_32 (by decide) (by decide) rfl (by decide) (lawc_10 C hce hsl hX hbl hbA hL (by omega) (by omega) (by omega) hI hN)
    · exact r_tabIn (x := 11) (tgt := 508) C (by decide) dL_32 (by decide) (by decide) rfl (by decide) (lawc_11 C hce hsl hX hbl hbA hL (by omega) (by omega) (by omega) hI hN)
    · exact r_tabIn (x := 12) (tgt := 541) C (by decide) dL_32 (by decide) (by decide) rfl (by decide) (lawc_12 C hce hsl hX hbl hbA hL (by omega) (by omega) (by omega) hI hN)
    · exact r_tabIn (x := 13) (tgt := 564) C (by decide) dL_32 (by decide) (by decide) rfl (by decide) (lawc_13 C hce hsl hX hbl hbA hL (by omega) (by omega) (by omega) hI hN)
    · exact r_tabIn (x := 14) (tgt := 607) C (by decide) dL_32 (by decide) (by decide) rfl (by decide) (lawc_14 C hce hsl hX hbl hbA hL (by omega) (by omega) (by omega) hI hN)
    · exact r_tabIn (x := 15) (tgt := 631) C (by decide) dL_32 (by decide) (by decide) rfl (by decide) (lawc_15 C hce hsl hX hbl hbA hL (by omega) (by omega) (by omega) hI hN)
end SLoop
