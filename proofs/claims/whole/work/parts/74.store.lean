/-! Bytes are put behind the row: by the class, by the reference. -/
def pkd (D : Nat → Int) (n : Nat) : Nat := (wPack D n).1 / 8
/-- how many bytes, which bytes, the block number -/
noncomputable def sLen (pk : Int) (D : Nat → Int) (n : Nat) : Nat := if ¬ pk = 0 ∧ pkd D n < n then pkd D n else n
noncomputable def sByt (pk : Int) (D : Nat → Int) (n : Nat) : Nat → Int := if ¬ pk = 0 ∧ pkd D n < n then fun j => bm8 (nv (wPack D n).2 (8 * j) 8) else D
noncomputable def sNum (pk : Int) (D : Nat → Int) (n : Nat) : Int := if ¬ pk = 0 ∧ pkd D n < n then ((pkd D n : Nat) : Int) else 16777216 + n
theorem sLen_le (pk : Int) (D : Nat → Int) (n : Nat) : sLen pk D n ≤ n := by
  unfold sLen
  split <;> omega
theorem pkd_pos (D : Nat → Int) (n : Nat) : 0 < pkd D n := by
  have e2 : (wPack D n).1 = (wrB (wParts D n (nP n) (wr 156 8 (wr 120 8 (0, fun _ => 0))))).1 + 8 + 8 + 8 + 8 := rfl
  unfold pkd
  rw [e2]
  omega
theorem sNum_in (pk : Int) (D : Nat → Int) {n : Nat} (hn : n ≤ 65536) : 0 < sNum pk D n ∧ sNum pk D n ≤ 16842752 ∧ (16777216 ≤ sNum pk D n → sNum pk D n = 16777216 + n) := by
  have := pkd_pos D n
  unfold sNum
  split <;> omega
theorem sAll_congr {pk : Int} {D D' : Nat → Int} {n : Nat} (h : ∀ i, i < n → D i = D' i) : sLen pk D n = sLen pk D' n ∧ (∀ j, j < sLen pk D n → sByt pk D n j = sByt pk D' n j) ∧ sNum pk D n = sNum pk D' n := by
  unfold sLen sByt sNum pkd
  rw [wPack_congr h]
  by_cases hc : ¬ pk = 0 ∧ (wPack D' n).1 / 8 < n
  · rw [if_pos hc, if_pos hc, if_pos hc]
    exact ⟨rfl, fun j _ => rfl, rfl⟩
  · rw [if_neg hc, if_neg hc, if_neg hc]
    exact ⟨rfl, fun j hj => h j hj, rfl⟩
theorem cd_congr {f g : Nat → Int} {n : Nat} (h : ∀ s, s < n → f s = g s) {s : Nat} (hs : s < n) : cd f n s = cd g n s := by
  have ha : ∀ m, ac f n m = ac g n m := by
    intro m
    induction m with
    | zero => rfl
    | succ m ih =>
      simp only [ac]
      rw [ih, cn_congr n h]
  unfold cd
  rw [ha, h s hs, cn_congr s fun t ht => h t (by omega)]
theorem InvP.c45 {E : Int} {iv av : IVt} (h : InvP E iv av) : CdC av 45 fxL 288 288 := by
  have h4 := h.2.2.2.1
  refine ⟨ck_45, by decide, by decide, by decide, fun s hs => ⟨(h4 s hs).1, fxL_le s, fun _ => ?_⟩⟩
  have := (h4 s hs).2
  rw [cd_congr (g := fxL) (fun t ht => (h4 t ht).1) hs, (h4 s hs).1] at this
  exact this
theorem InvP.c49 {E : Int} {iv av : IVt} (h : InvP E iv av) : CdC av 49 (fun _ => 5) 32 32 := by
  have h4 := h.2.2.2.2.1
  refine ⟨ck_49, by decide, by decide, by decide, fun s hs => ⟨(h4 s hs).1, ⟨by show (0 : Int) ≤ 5; omega, by show (5 : Int) ≤ 15; omega⟩, fun _ => ?_⟩⟩
  have := (h4 s hs).2
  rw [cd_congr (g := fun _ => 5) (fun t ht => (h4 t ht).1) hs, (h4 s hs).1] at this
  exact this
section SStore
variable {Y : Gl} {X : Cx} {e : Nat} {iv av : IVt} {beg : Nat} {k a F n : Nat} {pk : Int}
/-- what has changed behind the class's storing -/
abbrev apF (iv av iv' av' : IVt) : Prop := Off [12, 22, 23, 57] iv iv' ∧ Off [13, 24, 25, 27, 28, 29, 30, 31, 32, 34, 35, 36, 38, 39, 40, 42, 43, 44, 53, 54, 55, 56] av av'
theorem s_X11_append (hk : k = 2 ∨ k = 14) {E : Int} (hn1 : 1 ≤ n) (hn : n ≤ 65536) (hF : ((F + n : Nat) : Int) ≤ iv k 1) (hkl : iv k 1 ≤ 65536) (hP : InvP E iv av) (h12 : iv 12 1 = beg) (hbeg : beg + n + 200 ≤ 131072) (hE : E + n ≤ 100000000) (hpk : InR pk) :
    OkN Y (e + 5) mX11_append [.ref (gl_b Y + 0), .ref (gl_b Y + k), .int (i32 (F : Int)), .int (i32 (n : Int)), .int (i32 pk)] RV iv av 116
    (fun r iv' av' => r = sNum pk (DB av k F) n ∧ apF iv av iv' av' ∧ iv' 12 1 = ((beg + sLen pk (DB av k F) n : Nat) : Int) ∧ (∀ j, j < beg → av' 13 j = av 13 j) ∧ (∀ j, j < sLen pk (DB av k F) n → av' 13 (beg + j) = sByt pk (DB av k F) n j) ∧ InvP (E + n) iv' av') := by
  have K : BytesK k := by rcases hk with rfl | rfl; exact bk_2; exact bk_14
  have hk12 : k ≠ 12 := by omega
  have k65 : kl (k + 1) = 65536 := by rcases hk with rfl | rfl <;> rfl
  have k13 : kl 13 = 131072 := rfl
  obtain ⟨⟨p1, p2⟩, ⟨p3, p4, p5, p6, p7⟩, p8, p9, p10, p11⟩ := id hP
  have add : ∀ (iv1 av1 : IVt) (r : Int), iv1 12 1 = beg → iv1 k = iv k → av1 (k + 1) = av (k + 1) → r = sNum pk (DB av k F) n → sLen pk (DB av k F) n = n → sByt pk (DB av k F) n = DB av k F → apF iv av iv1 av1 → (∀ j, j < beg → av1 13 j = av 13 j) → InvP (E + n) iv1 av1 → OkN Y (e + 4) mX2_addAll [.ref (gl_b Y + 12), .ref (gl_b Y + k), .int (i32 (F : Int)), .int (i32 (n : Int))] RV iv1 av1 116 (fun _ iv7 av8 => (InR (16777216 + (n : Int))) ∧ (r = sNum pk (DB av k F) n ∧ apF iv av iv7 av8 ∧ iv7 12 1 = ((beg + sLen pk (DB av k F) n : Nat) : Int) ∧ (∀ j, j < beg → av8 13 j = av 13 j) ∧ (∀ j, j < sLen pk (DB av k F) n → av8 13 (beg + j) = sByt pk (DB av k F) n j) ∧ InvP (E + n) iv7 av8)) := by
    intro iv1 av1 r g1 g2 g3 g4 g5 g6 g7 g8 g9
    refine OkN.mono (s_X2_addAll bk_12 K (f := (F : Int)) (n := (n : Int)) (by omega) (by omega) (by omega) (by omega) (by rw [g2]; omega) (by rw [g2, k65]; omega) (by omega) (by rw [k13, g1]; omega)) ?_
    rintro r2 iv2 av2 hR2 ⟨rfl, rfl⟩
    refine ⟨by omega, g4, ⟨g7.1.up (by decide), g7.2.upA (by decide)⟩, ?_, fun j hj => ?_, fun j hj => ?_, ?_⟩
    · rw [up2_eq, g1, g5]
      omega
    · show va_cpy (av1 (k + 1)) (av1 13) (F : Int).toNat (iv1 12 1).toNat (n : Int).toNat j = _
      rw [g1, Int.toNat_natCast, Int.toNat_natCast, Int.toNat_natCast]
      unfold va_cpy
      rw [if_neg (by omega)]
      exact g8 j hj
    · rw [g5] at hj
      show va_cpy (av1 (k + 1)) (av1 13) (F : Int).toNat (iv1 12 1).toNat (n : Int).toNat (beg + j) = _
      rw [g1, Int.toNat_natCast, Int.toNat_natCast, Int.toNat_natCast, g6, g3]
      unfold va_cpy
      rw [if_pos (by omega)]
      show av (k + 1) _ = av (k + 1) (F + j)
      congr 1
      omega
    · exact g9
  refine o_X11_append K (by omega) (by omega) hpk (OkN.mono (s_X2_count bk_12) ?_)
  rintro r1 iv1 av1 hR1 ⟨hr1, rfl, rfl⟩ _
  refine ⟨fun h0 => add iv1 av1 _ h12 rfl rfl ?_ ?_ ?_ ⟨Off.rf _ _, Off.rf _ _⟩ (fun _ _ => rfl) (hP.mono (by omega)), fun h0 => ?_⟩
  · unfold sNum
    rw [if_neg fun h => h.1 h0]
  · unfold sLen
    rw [if_neg fun h => h.1 h0]
  · unfold sByt
    rw [if_neg fun h => h.1 h0]
  refine OkN.mono (s_X8_pack hk (F := F) (E := E + n) hn1 hn hF hkl ⟨p1, p2⟩ h12 hbeg ⟨p3, p4, p5, p6, by omega⟩ (by omega) p8 hP.c45 hP.c49 p11) ?_
  rintro r2 iv2 av2 hR2 ⟨q1, q2, q3, q4, q5, q6⟩
  have hw := wPack_1 (DB av1 k F) hn
  have e12 : iv2 12 1 = ((beg + pkd (DB av1 k F) n : Nat) : Int) := q3.2.1
  have hIP : InvP (E + n) iv2 av2 := by
    refine ⟨⟨?_, ?_⟩, ?_, fun h hh => ?_, ?_, ?_, q4⟩
    · rw [q3.2.2.1, hw.1]
      rfl
    · rw [q3.2.2.2.1, hw.1]
      rfl
    · omega
    · have := q6 h hh
      omega
    · rw [q1.2 47 (by decide), q1.2 48 (by decide)]
      exact p9
    · rw [q1.2 51 (by decide), q1.2 52 (by decide)]
      exact p10
  refine OkN.mono (s_X2_count bk_12) ?_
  rintro r3 iv3 av3 hR3 ⟨hr3, rfl, rfl⟩ _
  have ed : r3 - r1 = ((pkd (DB av1 k F) n : Nat) : Int) := by omega
  have hpp := pkd_pos (DB av1 k F) n
  have hle : pkd (DB av1 k F) n ≤ 100000 := by unfold pkd; omega
  rw [ed]
  refine ⟨by omega, fun hge => ?_, fun hlt => ?_⟩
  · refine OkN.mono (s_X2_keep bk_12 (x := r1) (by omega)) ?_
    rintro r4 iv4 av4 hR4 ⟨hi, rfl⟩
    rw [if_pos (by omega)] at hi
    subst hi
    refine OkN.mono (add _ av4 (16777216 + (n : Int)) (by rw [up2_eq]; omega) ?_ ?_ ?_ ?_ ?_ ⟨q1.1.up (by decide), q1.2⟩ q2 hIP) fun _ _ _ _ h => h
    · rw [up2_ne hk12]
      exact q1.1 k (by rcases hk with rfl | rfl <;> decide)
    · exact q1.2 (k + 1) (by rcases hk with rfl | rfl <;> decide)
    · unfold sNum
      rw [if_neg (by omega)]
    · unfold sLen
      rw [if_neg (by omega)]
    · unfold sByt
      rw [if_neg (by omega)]
  · have hc : ¬ pk = 0 ∧ pkd (DB av1 k F) n < n := ⟨h0, by omega⟩
    unfold sNum sLen sByt
    rw [if_pos hc, if_pos hc, if_pos hc]
    refine ⟨rfl, q1, e12, q2, fun j hj => ?_, hIP⟩
    exact q3.2.2.2.2 j hj
theorem l_X13_store (C : CX Y X RX13 "store" cX13_store 6 (some .int) (e + 20) 0 0) (Ka : ArrK 101 a) (ha89 : a ≠ 89) {f : Nat → Int} {p m : Nat} (hm : m = min p n) (hF : F + n ≤ kl a) (hn : n ≤ 65536) (hp : p ≤ 100000) (hbeg : beg + n ≤ 131072) {iv0 av0 : IVt} (hf : ∀ j, j < m → f j = if p < n then av0 93 j else av0 a (F + j)) (hb8 : ∀ j, -128 ≤ f j ∧ f j ≤ 127) (h23 : iv0 73 23 = beg) {P : PN} (hP : ∀ iv' av', OffM [] [23] iv0 iv' → Off [89] av0 av' → iv' 73 23 = ((beg + m : Nat) : Int) → (∀ j, j < beg → av' 89 j = av0 89 j) → (∀ j, j < m → av' 89 (beg + j) = f j) → P (if p < n then (p : Int) else 16777216 + n) iv' av') :
    ∀ (d i : Nat) (iv1 av1 : IVt), i + d = m → OffM [] [23] iv0 iv1 → Off [89] av0 av1 → iv1 73 23 = ((beg + i : Nat) : Int) → (∀ j, j < beg → av1 89 j = av0 89 j) → (∀ j, j < i → av1 89 (beg + j) = f j) → L_X13_store_23 Y X P a F n p i iv1 av1 := by
  have hkl := kl_le a
  have eor : g_or (n : Int) 16777216 = 16777216 + n := by
    have := g_or_add (a := (n : Int)) (c := 1) (p := 24) (by omega) (by show (n : Int) < 16777216; omega) (by omega) (by show (n : Int) + 1 * 16777216 < 2147483648; omega)
    rw [show (1 : Int) * 2 ^ 24 = 16777216 from rfl] at this
    rw [this]
    omega
  intro d
  induction d with
  | zero =>
    intro i iv1 av1 q1 q2 q3 q4 q5 q6
    have ei : i = m := by omega
    subst ei
    have hh := hP iv1 av1 q2 q3 q4 q5 q6
    rw [show (if p < n then (p : Int) else 16777216 + (n : Int)) = if p < n then (p : Int) else g_or (n : Int) 16777216 by rw [eor]] at hh
    refine w_X13_store_23 C Ka (by omega) (by omega) (by omega) ⟨fun h1 => ⟨fun h2 => ⟨fun _ => ?_, fun g => absurd h1 g⟩, fun g => absurd g (by omega)⟩, fun h1 => ⟨fun h2 => ⟨fun g => absurd g h1, fun _ => ?_⟩, fun g => absurd g (by omega)⟩⟩
    · rw [if_neg (by omega)] at hh
      exact hh
    · rw [if_pos (by omega)] at hh
      exact hh
  | succ d ih =>
    intro i iv1 av1 q1 q2 q3 q4 q5 q6
    have hfi := hf i (by omega)
    have stp : ∀ x : Int, x = f i → OkN Y (e + 19) mX13_add [.ref (gl_b Y + 73), .int (i32 x)] RV iv1 av1 116 (fun _ iv8 av9 => L_X13_store_23 Y X P a F n p ((i : Int) + 1) iv8 av9) := by
      rintro x rfl
      refine o_X13_add fun _ => ?_
      rw [q4, Int.toNat_natCast]
      refine ⟨by omega, by omega, ?_⟩
      rw [bm8_id (x := bm8 (f i)) (bm8_in _), bm8_id (hb8 i), show (i : Int) + 1 = ((i + 1 : Nat) : Int) by omega]
      refine ih (i + 1) _ _ (by omega) (q2.up (by decide)) (q3.up (by decide)) (by rw [up2_eq]; omega) (fun j hj => ?_) fun j hj => ?_
      · rw [up2_nj (by omega)]
        exact q5 j hj
      · rw [up2_at]
        by_cases hji : j = i
        · subst hji
          rw [if_pos rfl]
        · rw [if_neg (by omega)]
          exact q6 j (by omega)
    have e93 : av1 93 = av0 93 := q3 93 (by decide)
    have ea : av1 a = av0 a := q3 a (by simp [ha89])
    refine w_X13_store_23 C Ka (by omega) (by omega) (by omega) ⟨fun h1 => ⟨fun g => absurd g (by omega), fun _ => ⟨fun _ => ⟨by omega, fun _ => stp _ ?_⟩, fun g => absurd h1 g⟩⟩, fun h1 => ⟨fun g => absurd g (by omega), fun _ => ⟨fun g => absurd g h1, fun _ => ⟨by omega, fun _ => stp _ ?_⟩⟩⟩⟩
    · rw [hfi, if_neg (by omega), ea, show ((F : Int) + (i : Int)).toNat = F + i by omega]
    · rw [hfi, if_pos (by omega), e93, Int.toNat_natCast]
theorem s_X13_store (haL : a = 77 ∨ a = 88) (hn1 : 1 ≤ n) (hn : n ≤ 65536) (hF : F + n ≤ kl a) (hpk : iv 73 7 = pk) (h23 : iv 73 23 = beg) (hbeg : beg + n ≤ 131072) (hb8 : ∀ i, -128 ≤ av a i ∧ av a i ≤ 127) :
    OkN Y (e + 20) mX13_store [.ref (gl_b Y + 73), .ref (gl_b Y + a), .int (i32 (F : Int)), .int (i32 (n : Int))] RV iv av 116
    (fun r iv' av' => r = sNum pk (fun i => av a (F + i)) n ∧ OffM [] [23, 31, 34, 45] iv iv' ∧ Off [89, 93, 94, 95, 96, 97, 98, 99, 100, 101, 102, 103, 104, 105, 106, 107, 108] av av' ∧ iv' 73 23 = ((beg + sLen pk (fun i => av a (F + i)) n : Nat) : Int) ∧ (∀ j, j < beg → av' 89 j = av 89 j) ∧ ∀ j, j < sLen pk (fun i => av a (F + i)) n → av' 89 (beg + j) = sByt pk (fun i => av a (F + i)) n j) := by
  have Ka : ArrK 101 a := by rcases haL with rfl | rfl <;> exact ⟨rfl, by decide⟩
  have ha89 : a ≠ 89 := by omega
  have hkl := kl_le a
  generalize hD : (fun i => av a (F + i)) = D
  have hDb : ∀ j, -128 ≤ D j ∧ D j ≤ 127 := fun j => by rw [← hD]; exact hb8 _
  refine o_X13_store Ka (by omega) (by omega) fun X C => fun _ => ⟨fun h0 => ?_, fun h0 => ?_⟩
  · have hc : ¬ (¬ pk = 0 ∧ pkd D n < n) := fun h => h.1 (by omega)
    unfold sNum sLen sByt
    rw [if_neg hc, if_neg hc, if_neg hc]
    refine l_X13_store (iv0 := iv) (av0 := av) (f := D) (p := n) (m := n) (beg := beg) C Ka ha89 (by omega) hF hn (by omega) hbeg (fun j hj => by rw [if_neg (by omega), ← hD]) hDb h23 (fun iv' av' g1 g2 g3 g4 g5 => ?_) n 0 iv av (by omega) (OffM.rf _ _ _) (Off.rf _ _) (by rw [h23]; rfl) (fun _ _ => rfl) (fun j hj => absurd hj (Nat.not_lt_zero _))
    rw [if_neg (by omega)]
    exact ⟨rfl, g1.mono (by decide) (by decide), g2.mono (by decide), g3, g4, g5⟩
  · refine OkN.mono (s_X13_pack haL (F := F) hn1 hn hF) ?_
    rintro r1 iv1 av1 hR1 ⟨q1, q2, q3, rfl⟩ _
    rw [hD] at q3
    rw [hD]
    have hw := wPack_1 D hn
    have hpe : (wPack D n).1 / 8 = pkd D n := rfl
    have hpl : pkd D n ≤ 100000 := by unfold pkd; omega
    rw [hpe]
    have e23 : iv1 73 23 = beg := (q1.2 23 (by decide)).trans h23
    have fin : ∀ f : Nat → Int, (∀ j, j < min (pkd D n) n → f j = if pkd D n < n then av1 93 j else av1 a (F + j)) → (∀ j, -128 ≤ f j ∧ f j ≤ 127) → (∀ j, j < min (pkd D n) n → f j = sByt pk D n j) → L_X13_store_23 Y X (fun r iv' av' => r = sNum pk D n ∧ OffM [] [23, 31, 34, 45] iv iv' ∧ Off [89, 93, 94, 95, 96, 97, 98, 99, 100, 101, 102, 103, 104, 105, 106, 107, 108] av av' ∧ iv' 73 23 = ((beg + sLen pk D n : Nat) : Int) ∧ (∀ j, j < beg → av' 89 j = av 89 j) ∧ ∀ j, j < sLen pk D n → av' 89 (beg + j) = sByt pk D n j) a F n ((pkd D n : Nat) : Int) 0 iv1 av1 := by
      intro f hf hf8 hfs
      have hl : sLen pk D n = min (pkd D n) n := by
        unfold sLen
        by_cases h : pkd D n < n
        · rw [if_pos ⟨by omega, h⟩]
          omega
        · rw [if_neg (by omega)]
          omega
      have hnm : sNum pk D n = if pkd D n < n then ((pkd D n : Nat) : Int) else 16777216 + n := by
        unfold sNum
        by_cases h : pkd D n < n
        · rw [if_pos ⟨by omega, h⟩, if_pos h]
        · rw [if_neg (by omega), if_neg h]
      refine l_X13_store (iv0 := iv1) (av0 := av1) (f := f) (p := pkd D n) (m := min (pkd D n) n) (beg := beg) C Ka ha89 rfl hF hn hpl hbeg hf hf8 e23 (fun iv' av' g1 g2 g3 g4 g5 => ?_) (min (pkd D n) n) 0 iv1 av1 (by omega) (OffM.rf _ _ _) (Off.rf _ _) (by rw [e23]; rfl) (fun _ _ => rfl) (fun j hj => absurd hj (Nat.not_lt_zero _))
      rw [hl]
      refine ⟨hnm.symm, (q1.mono (by decide) (by decide)).tr (g1.mono (by decide) (by decide)), (q2.mono (by decide)).tr (g2.mono (by decide)), g3, fun j hj => ?_, fun j hj => ?_⟩
      · rw [g4 j hj, q2 89 (by decide)]
      · rw [g5 j hj]
        exact hfs j hj
    by_cases h : pkd D n < n
    · refine fin (fun j => bm8 (nv (wPack D n).2 (8 * j) 8)) (fun j hj => ?_) (fun j => bm8_in _) fun j hj => ?_
      · rw [if_pos h]
        exact (q3.2.2.1 j (by rw [hpe]; omega)).symm
      · unfold sByt
        rw [if_pos ⟨by omega, h⟩]
    · refine fin D (fun j hj => ?_) hDb fun j hj => ?_
      · rw [if_neg h, q2 a (by rcases haL with rfl | rfl <;> decide), ← hD]
      · unfold sByt
        rw [if_neg (by omega)]
end SStore
