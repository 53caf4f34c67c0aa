/-! The class gathers a part's tokens. -/
theorem MX.cg {iv av iv' av' : IVt} {k F n : Nat} {E : Int} (h : MX iv av k F n E) (h2 : iv' 23 2 = iv 23 2) (h3 : iv' 23 3 = iv 23 3) (h4 : iv' 23 4 = iv 23 4) (hk : iv' k 1 = iv k 1) (ha : av' 24 = av 24) : MX iv' av' k F n E := by
  unfold MX at *
  rw [h2, h3, h4, hk, ha]
  exact h
theorem CHc.cg {iv av iv' av' : IVt} {D : Nat → Int} {m : Nat} (h : CHc iv av D m) (h2 : iv' 23 2 = iv 23 2) (ha : av' 24 = av 24) (hb : av' 25 = av 25) : CHc iv' av' D m := by
  unfold CHc at *
  rw [h2, ha, hb]
  exact h
/-- the class's tokens and counts -/
def TkC (iv av : IVt) (g : Nat × (Nat → Int) × (Nat → Int)) (en : Int) : Prop := iv 22 10 = g.1 ∧ iv 22 11 = sm (tmb g) g.1 ∧ (∀ t, t < g.1 → av 53 t = (if g.2.1 t = 0 then g.2.2 t else g.2.1 t) ∧ av 54 t = if g.2.1 t = 0 then 0 else g.2.2 t) ∧ (∀ s : Nat, s < 286 → av 34 s = cn (tsy g) s g.1 + if s = 256 then en else 0) ∧ ∀ s : Nat, s < 30 → av 38 s = cn (tds g) s g.1
/-- one token more -/
abbrev tadd (k : Nat) (TL TV : Nat → Int) (x y : Int) : Nat × (Nat → Int) × (Nat → Int) := (k + 1, (fun i => if i = k then x else TL i), fun i => if i = k then y else TV i)
theorem tadd_old {k : Nat} {TL TV : Nat → Int} {x y : Int} {t : Nat} (h : t < k) : tsy (tadd k TL TV x y) t = tsy (k, TL, TV) t ∧ tds (tadd k TL TV x y) t = tds (k, TL, TV) t ∧ tmb (tadd k TL TV x y) t = tmb (k, TL, TV) t := by
  have hne : t ≠ k := by omega
  simp [tsy, tds, tmb, hne]
theorem tadd_cnS {k : Nat} {TL TV : Nat → Int} {x y : Int} (s : Int) : cn (tsy (tadd k TL TV x y)) s (k + 1) = cn (tsy (k, TL, TV)) s k + if tsy (tadd k TL TV x y) k = s then 1 else 0 := by
  rw [cn, cn_congr k fun t ht => (tadd_old ht).1]
theorem tadd_cnD {k : Nat} {TL TV : Nat → Int} {x y : Int} (s : Int) : cn (tds (tadd k TL TV x y)) s (k + 1) = cn (tds (k, TL, TV)) s k + if tds (tadd k TL TV x y) k = s then 1 else 0 := by
  rw [cn, cn_congr k fun t ht => (tadd_old ht).2.1]
theorem tadd_mb {k : Nat} {TL TV : Nat → Int} {x y : Int} : sm (tmb (tadd k TL TV x y)) (k + 1) = sm (tmb (k, TL, TV)) k + tmb (tadd k TL TV x y) k := by
  rw [sm, sm_congr k fun t ht => (tadd_old ht).2.2]
theorem tmb_le (g : Nat × (Nat → Int) × (Nat → Int)) (t : Nat) : 0 ≤ tmb g t ∧ tmb g t ≤ 18 := by
  unfold tmb
  have := lbits_le (lsy (g.2.1 t).toNat)
  have h2 := dsy_in (g.2.2 t).toNat
  have : dbits (dsy (g.2.2 t).toNat) ≤ 13 := by unfold dbits; split <;> omega
  split <;> omega
theorem sm_bd {f : Nat → Int} {b : Int} (h : ∀ t, 0 ≤ f t ∧ f t ≤ b) : ∀ m : Nat, 0 ≤ sm f m ∧ sm f m ≤ b * m := by
  intro m
  induction m with
  | zero => exact ⟨Int.le_refl 0, by rw [sm]; omega⟩
  | succ m ih =>
    have := h m
    rw [sm, show b * ((m + 1 : Nat) : Int) = b * m + b by rw [Int.natCast_add, Int.mul_add]; simp]
    omega
section SGather
variable {Y : Gl} {X : Cx} {e : Nat} {iv av : IVt} {k : Nat} {F n : Nat}
theorem l_X8_know (C : CX Y X RX8 "gather" cX8_gather 7 none (e + 3) 0 0) (K : BytesK k) (hk23 : k ≠ 23) (hk24 : k + 1 ≠ 24) (hk25 : k + 1 ≠ 25) {E : Int} {D : Nat → Int} {p N en : Nat} (hN : p + N ≤ en) (hen : en ≤ n) (hN3 : N ≤ 258) {P : PN} (hP : ∀ av', Off [24, 25] av av' → MX iv av' k F n E → CHc iv av' D (min (p + N) (n - 2)) → L_X8_gather_30 Y X P k ((F + en : Nat) : Int) ((F + (p + N) : Nat) : Int) iv av') (hFn : F + n < 2147483648) :
    ∀ (m i : Nat) (av1 : IVt), m + i = N → Off [24, 25] av av1 → DB av1 k F = D → MX iv av1 k F n E → CHc iv av1 D (min (p + i) (n - 2)) → L_X8_gather_128 Y X P k ((F + en : Nat) : Int) N ((F + p : Nat) : Int) i iv av1 := by
  intro m
  induction m with
  | zero =>
    intro i av1 h1 h2 h3 h4 h5
    refine w_X8_gather_128 C K (by omega) (by omega) ⟨fun _ => ?_, fun h => absurd h (by omega)⟩
    have e1 : i = N := by omega
    subst e1
    have := hP av1 h2 h4 h5
    rw [show ((F + p : Nat) : Int) + (i : Int) = ((F + (p + i) : Nat) : Int) by omega]
    exact this
  | succ m ih =>
    intro i av1 h1 h2 h3 h4 h5
    refine w_X8_gather_128 C K (by omega) (by omega) ⟨fun h => absurd h (by omega), fun _ => ⟨by omega, ?_⟩⟩
    rw [show ((F + p : Nat) : Int) + (i : Int) = ((F + (p + i) : Nat) : Int) by omega]
    subst h3
    refine OkN.mono (s_X7_know K hk23 hk24 hk25 h4 (p := p + i) (by omega) h5) ?_
    rintro r iv' av' hR ⟨rfl, g2, g3, g4⟩
    rw [show (i : Int) + 1 = ((i + 1 : Nat) : Int) by omega]
    refine ih (i + 1) av' (by omega) (h2.tr g2) ?_ g3 g4
    funext j
    exact congrFun (g2 (k + 1) (by simp [hk24, hk25])) _
theorem s_X8_addItem {x y : Int} (hx : InR x) (hy : InR y) {t : Nat} (h : iv 22 10 = t) (ht : t < 4096) : OkN Y e mX8_addItem [.ref (gl_b Y + 22), .int (i32 x), .int (i32 y)] RV iv av 116 (fun r iv' av' => iv' = up2 iv 22 10 ((t + 1 : Nat) : Int) ∧ av' = up2 (up2 av 53 t x) 54 t y) := by
  refine o_X8_addItem hx hy ?_
  rw [h, Int.toNat_natCast, show (t : Int) + 1 = ((t + 1 : Nat) : Int) by omega]
  exact fun _ => ⟨fun g => absurd g (by omega), fun _ => ⟨fun g => absurd g (by omega), fun _ => ⟨fun g => absurd g (by omega), fun _ => ⟨by omega, by omega, rfl, rfl⟩⟩⟩⟩
theorem s_X8_countMatch {s d : Nat} (hs : s < 286) (hd : d < 30) (h1 : av 34 s < 1000000) (h2 : av 38 d < 1000000) (h3 : 0 ≤ iv 22 11 ∧ iv 22 11 < 1000000) : OkN Y (e + 1) mX8_countMatch [.ref (gl_b Y + 22), .int (i32 (s : Int)), .int (i32 (d : Int))] RV iv av 116 (fun r iv' av' => iv' = up2 iv 22 11 (iv 22 11 + ((lbits s + dbits d : Nat) : Int)) ∧ av' = up2 (up2 av 34 s (av 34 s + 1)) 38 d (av 38 d + 1)) := by
  have K33 : CodeK RV 116 33 := ⟨rfl, rfl, rfl, rfl, by omega, rfl, rfl, rfl⟩
  have K37 : CodeK RV 116 37 := ⟨rfl, rfl, rfl, rfl, by omega, rfl, rfl, rfl⟩
  have hl := lbits_le s
  have hdb : dbits d ≤ 14 := by unfold dbits; split <;> omega
  refine o_X8_countMatch (by omega) (by omega) (OkN.mono (s_X3_count K33 (by omega) (by omega) (by show (s : Int) < 286; omega) (by show av 34 (s : Int).toNat < _; rw [Int.toNat_natCast]; omega)) ?_)
  rintro r iv1 av1 hR1 ⟨rfl, rfl⟩
  refine OkN.mono (s_X3_count K37 (by omega) (by omega) (by show (d : Int) < 30; omega) (by show up2 av 34 _ _ 38 (d : Int).toNat < _; rw [up2_ne (by decide), Int.toNat_natCast]; omega)) ?_
  rintro r iv2 av2 hR2 ⟨rfl, rfl⟩ _
  refine OkN.mono (s_X11_lengthBits (s := s) (by omega)) ?_
  rintro r iv3 av3 hR3 ⟨rfl, rfl, rfl⟩ _
  refine OkN.mono (s_X11_distanceBits (d := d) (by omega)) ?_
  rintro r iv4 av4 hR4 ⟨rfl, rfl, rfl⟩ _
  refine ⟨by omega, ?_, ?_⟩
  · rw [Int.natCast_add]
  · rw [up2_ne (by decide)]
    simp only [Int.toNat_natCast]
/-- the frame of gathering -/
abbrev gaF (iv av iv' av' : IVt) : Prop := Off [22, 23] iv iv' ∧ Off [24, 25, 34, 38, 53, 54] av av'
theorem l_X8_gather (C : CX Y X RX8 "gather" cX8_gather 7 none (e + 3) 0 0) (K : BytesK k) (hk22 : k ≠ 22) (hk23 : k ≠ 23) (hkL : k + 1 ∉ [24, 25, 34, 38, 53, 54]) {E : Int} {iv0 av0 : IVt} {D : Nat → Int} (hD : D = DB av0 k F) {b en : Nat} (hb : b ≤ en) (hbe : en - b ≤ 4096) (hen : en ≤ n) {P : PN} (hP : ∀ iv' av', gaF iv0 av0 iv' av' → MX iv' av' k F n E → CHc iv' av' D (min en (n - 2)) → TkC iv' av' (tok D b en) 1 → P 0 iv' av') :
    ∀ (m p t : Nat) (TL TV : Nat → Int) (iv1 av1 : IVt), p ≤ en → en + 1 ≤ m + p → t + b ≤ p → gat D en m p t TL TV = tok D b en → gaF iv0 av0 iv1 av1 → MX iv1 av1 k F n E → CHc iv1 av1 D (min p (n - 2)) → TkC iv1 av1 (t, TL, TV) 0 → L_X8_gather_30 Y X P k ((F + en : Nat) : Int) ((F + p : Nat) : Int) iv1 av1 := by
  have hkl := kl_le (k + 1)
  have K33 : CodeK RV 116 33 := ⟨rfl, rfl, rfl, rfl, by omega, rfl, rfl, rfl⟩
  have K37 : CodeK RV 116 37 := ⟨rfl, rfl, rfl, rfl, by omega, rfl, rfl, rfl⟩
  simp only [List.mem_cons, List.not_mem_nil, or_false, not_or] at hkL
  obtain ⟨n24, n25, n34, n38, n53, n54⟩ := hkL
  intro m
  induction m with
  | zero => intro p t TL TV iv1 av1 h1 h2; omega
  | succ m ih =>
    intro p t TL TV iv1 av1 h1 h2 h3 h4 h5 h6 h7 h8
    have hDB : DB av1 k F = D := by
      rw [hD]
      funext j
      exact congrFun (h5.2 (k + 1) (by simp [n24, n25, n34, n38, n53, n54])) _
    obtain ⟨x1, x2, x3, x4, x5, x6, x7, x8⟩ := h6
    have h6 : MX iv1 av1 k F n E := ⟨x1, x2, x3, x4, x5, x6, x7, x8⟩
    obtain ⟨t1, t2, t3, t4, t5⟩ := h8
    dsimp only at t1 t2 t3 t4 t5
    have hcS : ∀ s : Int, 0 ≤ cn (tsy (t, TL, TV)) s t ∧ cn (tsy (t, TL, TV)) s t ≤ t := fun s => cn_le _ _ _
    have hcD : ∀ s : Int, 0 ≤ cn (tds (t, TL, TV)) s t ∧ cn (tds (t, TL, TV)) s t ≤ t := fun s => cn_le _ _ _
    refine w_X8_gather_30 C K (by omega) (by omega) ⟨fun hle => ?_, fun hgt => ?_⟩
    · refine OkN.mono (s_X3_count K33 (x := 256) (by omega) (by omega) (by decide) ?_) ?_
      · have q1 := t4 256 (by omega)
        have q2 := hcS 256
        rw [show ((256 : Nat) : Int) = 256 from rfl, if_pos rfl] at q1
        show av1 34 256 < _
        rw [q1]
        omega
      · rintro r iv' av' hR ⟨rfl, rfl⟩
        have hpe : p = en := by omega
        subst hpe
        rw [gat, if_pos (Nat.le_refl _)] at h4
        rw [← h4] at hP
        refine hP iv' _ ⟨h5.1, h5.2.up (by decide)⟩ ?_ ?_ ?_
        · exact h6.cg rfl rfl rfl rfl (up2_ne (by decide))
        · exact h7.cg rfl (up2_ne (by decide)) (up2_ne (by decide))
        · refine ⟨t1, t2, t3, fun s hs => ?_, t5⟩
          show up2 av1 34 256 _ 34 s = _
          have := t4 s hs
          rw [up2_at]
          by_cases hs2 : s = 256
          · subst hs2
            rw [if_pos rfl, if_pos rfl]
            show av1 34 256 + 1 = _
            rw [this, if_pos rfl]
            dsimp only
            omega
          · rw [if_neg hs2, if_neg hs2, this, if_neg hs2]
    · have hpe : p < en := by omega
      rw [gat, if_neg (by omega)] at h4
      have hbi := bestM_in D p en
      have hf := s_X7_find (Y := Y) (e := e) K hk23 h6 hpe hen (by rw [hDB]; exact h7)
      rw [hDB] at hf
      refine OkN.mono hf ?_
      rintro r iv2 av2 hR ⟨rfl, rfl, rfl⟩ hr
      clear hf
      -- the steps behind an item
      have fin : ∀ (x y : Int) (N : Nat) (iv' av' : IVt), 1 ≤ N → N ≤ 258 → p + N ≤ en → gat D en m (p + N) (t + 1) (fun i => if i = t then x else TL i) (fun i => if i = t then y else TV i) = tok D b en → gaF iv0 av0 iv' av' → (∀ j, j < 5 → iv' 23 j = iv1 23 j) → iv' k = iv1 k → av' 24 = av2 24 → av' 25 = av2 25 → TkC iv' av' (tadd t TL TV x y) 0 → L_X8_gather_128 Y X P k ((F + en : Nat) : Int) N ((F + p : Nat) : Int) 0 iv' av' := by
        intro x y N iv' av' g1 g2 g3 g4 g5 g6 g7 g8 g9 g10
        refine l_X8_know C K hk23 n24 n25 (D := D) g3 hen g2 (iv := iv') (av := av') (E := E) ?_ (by omega) N 0 av' (by omega) (Off.rf _ _) ?_ ?_ ?_
        · intro av3 q1 q2 q3
          refine ih (p + N) (t + 1) _ _ iv' av3 g3 (by omega) (by omega) g4 ⟨g5.1, g5.2.tr (q1.mono (by decide))⟩ q2 q3 ?_
          obtain ⟨u1, u2, u3, u4, u5⟩ := g10
          refine ⟨u1, u2, ?_, ?_, ?_⟩
          · rw [q1 53 (by decide), q1 54 (by decide)]
            exact u3
          · rw [q1 34 (by decide)]
            exact u4
          · rw [q1 38 (by decide)]
            exact u5
        · rw [hD]
          funext j
          exact congrFun (g5.2 (k + 1) (by simp [n24, n25, n34, n38, n53, n54])) _
        · exact h6.cg (g6 2 (by omega)) (g6 3 (by omega)) (g6 4 (by omega)) (by rw [g7]) g8
        · exact h7.cg (g6 2 (by omega)) g8 g9
      have hDp : ∀ iv' av', iv' k 1 = iv1 k 1 → av' (k + 1) = av2 (k + 1) → b_at iv' av' k ((F + p : Nat) : Int) = D p % 256 := by
        intro iv' av' g1 g2
        unfold b_at
        rw [g1, g2, if_pos (by omega), Int.toNat_natCast, ← hDB]
      generalize (bestM D p en).1 = B at *
      generalize (bestM D p en).2 = V at *
      generalize hY : (if 0 < B then ((V : Nat) : Int) else D p % 256) = y at h4
      have ht22 : up2 (up2 iv1 23 5 (B : Int)) 23 6 (V : Int) 22 10 = t := t1
      have hmb := sm_bd (tmb_le (t, TL, TV)) t
      refine ⟨fun hr0 => ?_, fun hr1 => ?_⟩
      · have hB : B = 0 := by
          by_cases h : 0 < B
          · rw [if_pos h] at hr0
            omega
          · omega
        subst hB
        rw [if_neg (by omega)] at hY
        refine OkN.mono (s_X2_at K (by omega)) ?_
        rintro r iv3 av3 hR3 ⟨rfl, rfl, rfl⟩ hr3
        rw [hDp _ _ (by rw [up2_ne hk23, up2_ne hk23]) rfl]
        refine OkN.mono (s_X8_addItem (by omega) (by omega) ht22 (by omega)) ?_
        rintro r iv4 av4 hR4 ⟨rfl, rfl⟩
        refine OkN.mono (s_X2_at K (by omega)) ?_
        rintro r iv5 av5 hR5 ⟨rfl, rfl, rfl⟩ hr5
        rw [hDp _ _ (by rw [up2_ne hk22, up2_ne hk23, up2_ne hk23]) (by rw [up2_ne n54, up2_ne n53]), hY]
        obtain ⟨z, hz⟩ := Int.eq_ofNat_of_zero_le (show 0 ≤ y by omega)
        subst hz
        have hz : z < 256 := by omega
        have q1 := t4 z (by omega)
        have q2 := hcS z
        rw [if_neg (by omega)] at q1
        refine OkN.mono (s_X3_count K33 (by omega) (by omega) (by show (z : Int) < 286; omega) (by show up2 (up2 av3 53 _ _) 54 _ _ 34 (z : Int).toNat < _; rw [up2_ne (by decide), up2_ne (by decide), Int.toNat_natCast]; omega)) ?_
        rintro r iv6 av6 hR6 ⟨rfl, rfl⟩
        refine fin 0 z 1 _ _ (by omega) (by omega) (by omega) h4 ⟨((h5.1.up (by decide)).up (by decide)).up (by decide), ((h5.2.up (by decide)).up (by decide)).up (by decide)⟩ ?_ ?_ ?_ ?_ ?_
        · intro j hj
          rw [up2_ne (by decide), up2_nj (by omega), up2_nj (by omega)]
        · rw [up2_ne hk22, up2_ne hk23, up2_ne hk23]
        · rfl
        · rfl
        · have et : tsy (tadd t TL TV 0 z) t = z := by simp [tsy]
          have ed : tds (tadd t TL TV 0 z) t = -1 := by simp [tds]
          have em : tmb (tadd t TL TV 0 z) t = 0 := by simp [tmb]
          refine ⟨rfl, ?_, fun i hi => ?_, fun s hs => ?_, fun s hs => ?_⟩
          · show iv1 22 11 = _
            rw [tadd_mb, em, t2]
            omega
          · show up2 av3 53 t (z : Int) 53 i = _ ∧ up2 (up2 av3 53 t (z : Int)) 54 t 0 54 i = _
            rw [up2_at, up2_at, up2_ne (by decide)]
            dsimp only
            by_cases hit : i = t
            · simp [hit]
            · simp only [if_neg hit]
              exact t3 i (by dsimp only at hi; omega)
          · show up2 av3 34 ((z : Int)).toNat (av3 34 ((z : Int)).toNat + 1) 34 s = _
            rw [tadd_cnS, et, Int.toNat_natCast, up2_at]
            have := t4 s hs
            by_cases hsz : s = z
            · rw [if_pos hsz, if_pos (by omega), hsz, q1, if_neg (by omega)]
              omega
            · rw [if_neg hsz, if_neg (by omega), this]
              omega
          · show av3 38 s = _
            rw [tadd_cnD, ed, if_neg (by omega), t5 s hs]
            omega
      · have hB : 0 < B := by
          refine Nat.pos_of_ne_zero fun h => ?_
          rw [if_neg (by omega)] at hr1
          exact hr1 rfl
        obtain ⟨b1, b2, b3, b4, b5, b6⟩ := hbi.resolve_left (by omega)
        rw [if_pos hB] at hY
        subst hY
        have i1 := lsy_in B
        have i2 := dsy_in V
        refine o_X7_length fun _ _ => ?_
        refine o_X7_distance fun _ _ => ?_
        have e5 : up2 (up2 iv1 23 5 (B : Int)) 23 6 (V : Int) 23 5 = B := rfl
        have e6 : up2 (up2 iv1 23 5 (B : Int)) 23 6 (V : Int) 23 6 = V := rfl
        rw [e5, e6, show max (B : Int) 1 = B by omega]
        refine OkN.mono (s_X8_addItem (by omega) (by omega) ht22 (by omega)) ?_
        rintro r iv4 av4 hR4 ⟨rfl, rfl⟩
        refine OkN.mono (s_X11_lengthSymbol (n := B) (by omega) (by omega)) ?_
        rintro r iv5 av5 hR5 ⟨rfl, rfl, rfl⟩ _
        refine o_X7_distance fun _ _ => ?_
        rw [show up2 (up2 (up2 iv1 23 5 (B : Int)) 23 6 (V : Int)) 22 10 ((t + 1 : Nat) : Int) 23 6 = V from rfl]
        refine OkN.mono (s_X11_distanceSymbol (n := V) (by omega) (by omega)) ?_
        rintro r iv6 av6 hR6 ⟨rfl, rfl, rfl⟩ _
        have q1 := t4 (lsy B) (by omega)
        have q2 := hcS (lsy B)
        have q3 := t5 (dsy V) (by omega)
        have q4 := hcD (dsy V)
        rw [if_neg (by omega)] at q1
        refine OkN.mono (s_X8_countMatch (s := lsy B) (d := dsy V) (by omega) (by omega) (by rw [up2_ne (by decide), up2_ne (by decide)]; omega) (by rw [up2_ne (by decide), up2_ne (by decide)]; omega) (by
          show 0 ≤ iv1 22 11 ∧ iv1 22 11 < 1000000
          omega)) ?_
        rintro r iv7 av7 hR7 ⟨rfl, rfl⟩
        rw [show max B 1 = B by omega] at h4
        refine fin B V B _ _ (by omega) (by omega) (by omega) h4 ⟨(((h5.1.up (by decide)).up (by decide)).up (by decide)).up (by decide), (((h5.2.up (by decide)).up (by decide)).up (by decide)).up (by decide)⟩ ?_ ?_ ?_ ?_ ?_
        · intro j hj
          rw [up2_ne (by decide), up2_ne (by decide), up2_nj (by omega), up2_nj (by omega)]
        · rw [up2_ne hk22, up2_ne hk22, up2_ne hk23, up2_ne hk23]
        · rfl
        · rfl
        · have et : tsy (tadd t TL TV B V) t = lsy B := by
            have hB0 : B ≠ 0 := by omega
            simp [tsy, hB0]
          have ed : tds (tadd t TL TV B V) t = dsy V := by
            have hB0 : B ≠ 0 := by omega
            simp [tds, hB0]
          have em : tmb (tadd t TL TV B V) t = ((lbits (lsy B) + dbits (dsy V) : Nat) : Int) := by
            have hB0 : B ≠ 0 := by omega
            simp [tmb, hB0]
          refine ⟨rfl, ?_, fun i hi => ?_, fun s hs => ?_, fun s hs => ?_⟩
          · show iv1 22 11 + ((lbits (lsy B) + dbits (dsy V) : Nat) : Int) = _
            rw [tadd_mb, em, t2]
          · show up2 av2 53 t (B : Int) 53 i = _ ∧ up2 (up2 av2 53 t (B : Int)) 54 t (V : Int) 54 i = _
            rw [up2_at, up2_at, up2_ne (by decide)]
            dsimp only
            by_cases hit : i = t
            · have hB0 : B ≠ 0 := by omega
              simp [hit, hB0]
            · simp only [if_neg hit]
              exact t3 i (by dsimp only at hi; omega)
          · show up2 av2 34 (lsy B) (av2 34 (lsy B) + 1) 34 s = _
            rw [tadd_cnS, et, up2_at]
            have := t4 s hs
            by_cases hsz : s = lsy B
            · rw [if_pos hsz, if_pos (by omega), hsz, q1, if_neg (by omega)]
              omega
            · rw [if_neg hsz, if_neg (by omega), this]
              omega
          · show up2 av2 38 (dsy V) (av2 38 (dsy V) + 1) 38 s = _
            rw [tadd_cnD, ed, up2_at]
            by_cases hsz : s = dsy V
            · rw [if_pos hsz, if_pos (by omega), hsz, q3]
            · rw [if_neg hsz, if_neg (by omega), t5 s hs]
              omega
theorem s_X8_gather (K : BytesK k) (hk22 : k ≠ 22) (hk23 : k ≠ 23) (hkL : k + 1 ∉ [24, 25, 34, 38, 53, 54]) {E : Int} (h : MX iv av k F n E) {b en : Nat} (hb : b ≤ en) (hbe : en - b ≤ 4096) (hen : en ≤ n) (hc : CHc iv av (DB av k F) (min b (n - 2))) : OkN Y (e + 3) mX8_gather [.ref (gl_b Y + 22), .ref (gl_b Y + k), .int (i32 ((F + b : Nat) : Int)), .int (i32 ((F + en : Nat) : Int))] RV iv av 116
    (fun r iv' av' => gaF iv av iv' av' ∧ MX iv' av' k F n E ∧ CHc iv' av' (DB av k F) (min en (n - 2)) ∧ TkC iv' av' (tok (DB av k F) b en) 1) := by
  have K33 : CodeK RV 116 33 := ⟨rfl, rfl, rfl, rfl, by omega, rfl, rfl, rfl⟩
  have K37 : CodeK RV 116 37 := ⟨rfl, rfl, rfl, rfl, by omega, rfl, rfl, rfl⟩
  refine o_X8_gather K fun X C => ?_
  refine OkN.mono (s_X3_forget K33) ?_
  rintro r iv1 av1 hR1 ⟨rfl, rfl⟩
  refine OkN.mono (s_X3_forget K37) ?_
  rintro r iv2 av2 hR2 ⟨rfl, rfl⟩
  refine l_X8_gather C K hk22 hk23 hkL (iv0 := iv) (av0 := av) (D := DB av k F) rfl hb hbe hen (E := E) (fun iv' av' g1 g2 g3 g4 => ⟨g1, g2, g3, g4⟩) (en - b + 1) b 0 (fun _ => 0) (fun _ => 0) _ _ hb (by omega) (by omega) rfl ⟨((Off.rf _ _).up (by decide)).up (by decide), ((Off.rf _ _).upA (by decide)).upA (by decide)⟩ ?_ ?_ ?_
  · exact h.cg rfl rfl rfl (by rw [up2_ne hk22, up2_ne hk22]) rfl
  · exact hc.cg rfl rfl rfl
  · refine ⟨rfl, rfl, fun t ht => absurd ht (Nat.not_lt_zero _), fun s hs => ?_, fun s hs => ?_⟩
    · refine (congrFun (upA_ne (show 34 ≠ 38 by decide)) s).trans ((congrFun (upA_eq _ 34 _) s).trans ?_)
      refine (if_pos (show (s : Int) < 286 by omega)).trans ?_
      rw [ite_self]
      rfl
    · refine (congrFun (upA_eq _ 38 _) s).trans ?_
      exact if_pos (show (s : Int) < 30 by omega)
end SGather
