/-! Telling the row of lengths. -/
/-- one more -/
def tap (q : Nat × (Nat → Int) × (Nat → Int)) (x y : Int) : Nat × (Nat → Int) × (Nat → Int) := (q.1 + 1, (fun i => if i = q.1 then x else q.2.1 i), fun i => if i = q.1 then y else q.2.2 i)
def tP (v : Int) : Nat → Nat × (Nat → Int) × (Nat → Int) → Nat × (Nat → Int) × (Nat → Int)
  | 0, q => q
  | n + 1, q => tP v n (tap q v 0)
def tR (v : Int) : Nat → Nat → Nat × (Nat → Int) × (Nat → Int) → Nat × (Nat → Int) × (Nat → Int)
  | 0, n, q => tP v n q
  | fu + 1, n, q => if 0 < v ∧ 3 ≤ n then tR v fu (n - min n 6) (tap q 16 ((min n 6 - 3 : Nat) : Int)) else if v = 0 ∧ 11 ≤ n then tR v fu (n - min n 138) (tap q 18 ((min n 138 - 11 : Nat) : Int)) else if v = 0 ∧ 3 ≤ n then tap q 17 ((n - 3 : Nat) : Int) else tP v n q
/-- a stretch of n times the same -/
def trun (v : Int) (n : Nat) (q : Nat × (Nat → Int) × (Nat → Int)) : Nat × (Nat → Int) × (Nat → Int) := if 0 < v ∧ 0 < n then tR v (n - 1) (n - 1) (tap q v 0) else tR v n n q
def tst (rw : Nat → Int) : Nat → Int × Nat × (Nat × (Nat → Int) × (Nat → Int))
  | 0 => (-1, 0, (0, (fun _ => 0), fun _ => 0))
  | i + 1 => if rw i = (tst rw i).1 then ((tst rw i).1, (tst rw i).2.1 + 1, (tst rw i).2.2) else (rw i, 1, trun (tst rw i).1 (tst rw i).2.1 (tst rw i).2.2)
/-- the row as it is told -/
def told (rw : Nat → Int) (n : Nat) : Nat × (Nat → Int) × (Nat → Int) := trun (tst rw n).1 (tst rw n).2.1 (tst rw n).2.2
theorem tP_cnt (v : Int) : ∀ (n : Nat) (q : Nat × (Nat → Int) × (Nat → Int)), (tP v n q).1 = q.1 + n := by
  intro n
  induction n with
  | zero => intro q; rfl
  | succ n ih =>
    intro q
    rw [tP, ih]
    show q.1 + 1 + n = q.1 + (n + 1)
    omega
theorem tR_cnt (v : Int) : ∀ (fu n : Nat) (q : Nat × (Nat → Int) × (Nat → Int)), (tR v fu n q).1 ≤ q.1 + n := by
  intro fu
  induction fu with
  | zero => intro n q; rw [tR, tP_cnt]; exact Nat.le_refl _
  | succ fu ih =>
    intro n q
    rw [tR]
    split
    · have := ih (n - min n 6) (tap q 16 ((min n 6 - 3 : Nat) : Int))
      have e : (tap q 16 ((min n 6 - 3 : Nat) : Int)).1 = q.1 + 1 := rfl
      omega
    · split
      · have := ih (n - min n 138) (tap q 18 ((min n 138 - 11 : Nat) : Int))
        have e : (tap q 18 ((min n 138 - 11 : Nat) : Int)).1 = q.1 + 1 := rfl
        omega
      · split
        · show q.1 + 1 ≤ q.1 + n
          omega
        · rw [tP_cnt]
          exact Nat.le_refl _
theorem trun_cnt (v : Int) (n : Nat) (q : Nat × (Nat → Int) × (Nat → Int)) : (trun v n q).1 ≤ q.1 + n := by
  unfold trun
  split
  · have := tR_cnt v (n - 1) (n - 1) (tap q v 0)
    have e : (tap q v 0).1 = q.1 + 1 := rfl
    omega
  · exact tR_cnt v n n q
theorem tst_cnt (rw : Nat → Int) : ∀ i, (tst rw i).2.2.1 + (tst rw i).2.1 ≤ i := by
  intro i
  induction i with
  | zero => exact Nat.le_refl _
  | succ i ih =>
    rw [tst]
    split
    · show (tst rw i).2.2.1 + ((tst rw i).2.1 + 1) ≤ i + 1
      omega
    · have := trun_cnt (tst rw i).1 (tst rw i).2.1 (tst rw i).2.2
      show (trun (tst rw i).1 (tst rw i).2.1 (tst rw i).2.2).1 + 1 ≤ i + 1
      omega
theorem told_cnt (rw : Nat → Int) (n : Nat) : (told rw n).1 ≤ n := by
  have a := tst_cnt rw n
  have b := trun_cnt (tst rw n).1 (tst rw n).2.1 (tst rw n).2.2
  unfold told
  omega
/-- what may be told -/
def TdOK (q : Nat × (Nat → Int) × (Nat → Int)) : Prop := ∀ i, i < q.1 → 0 ≤ q.2.1 i ∧ q.2.1 i ≤ 18 ∧ 0 ≤ q.2.2 i ∧ q.2.2 i < 2 ^ sbits (q.2.1 i).toNat
theorem TdOK.tap {q : Nat × (Nat → Int) × (Nat → Int)} (h : TdOK q) {x y : Int} (h0 : 0 ≤ x) (h1 : x ≤ 18) (h2 : 0 ≤ y) (h3 : y < 2 ^ sbits x.toNat) : TdOK (tap q x y) := by
  intro i hi
  show 0 ≤ (if i = q.1 then x else q.2.1 i) ∧ (if i = q.1 then x else q.2.1 i) ≤ 18 ∧ 0 ≤ (if i = q.1 then y else q.2.2 i) ∧ (if i = q.1 then y else q.2.2 i) < 2 ^ sbits (if i = q.1 then x else q.2.1 i).toNat
  by_cases h : i = q.1
  · simp only [if_pos h]
    exact ⟨h0, h1, h2, h3⟩
  · simp only [if_neg h]
    have hi' : i < q.1 + 1 := hi
    exact (show TdOK q from ‹TdOK q›) i (by omega)
theorem tap_cn (q : Nat × (Nat → Int) × (Nat → Int)) (x y s : Int) : cn (tap q x y).2.1 s (tap q x y).1 = cn q.2.1 s q.1 + if x = s then 1 else 0 := by
  show cn (fun i => if i = q.1 then x else q.2.1 i) s (q.1 + 1) = _
  rw [cn, cn_congr q.1 fun t ht => if_neg (show ¬ t = q.1 by omega), if_pos rfl]
theorem tP_ok {v : Int} (hv : 0 ≤ v ∧ v ≤ 15) : ∀ (n : Nat) (q : Nat × (Nat → Int) × (Nat → Int)), TdOK q → TdOK (tP v n q) := by
  intro n
  induction n with
  | zero => intro q h; exact h
  | succ n ih =>
    intro q h
    have e : sbits v.toNat = 0 := if_pos (by omega)
    exact ih _ (h.tap hv.1 (by omega) (Int.le_refl 0) (by rw [e]; decide))
theorem tR_ok {v : Int} (hv : 0 ≤ v ∧ v ≤ 15) : ∀ (fu n : Nat) (q : Nat × (Nat → Int) × (Nat → Int)), TdOK q → TdOK (tR v fu n q) := by
  intro fu
  induction fu with
  | zero => intro n q h; exact tP_ok hv n q h
  | succ fu ih =>
    intro n q h
    rw [tR]
    by_cases h1 : 0 < v ∧ 3 ≤ n
    · rw [if_pos h1]
      exact ih _ _ (h.tap (by omega) (by omega) (by omega) (by show _ < (4 : Int); omega))
    · rw [if_neg h1]
      by_cases h2 : v = 0 ∧ 11 ≤ n
      · rw [if_pos h2]
        exact ih _ _ (h.tap (by omega) (by omega) (by omega) (by show _ < (128 : Int); omega))
      · rw [if_neg h2]
        by_cases h3 : v = 0 ∧ 3 ≤ n
        · rw [if_pos h3]
          exact h.tap (by omega) (by omega) (by omega) (by show _ < (8 : Int); omega)
        · rw [if_neg h3]
          exact tP_ok hv n q h
theorem trun_ok {v : Int} {n : Nat} {q : Nat × (Nat → Int) × (Nat → Int)} (hv : (v = -1 ∧ n = 0) ∨ (0 ≤ v ∧ v ≤ 15)) (h : TdOK q) : TdOK (trun v n q) := by
  rcases hv with ⟨rfl, rfl⟩ | hv
  · exact h
  · unfold trun
    split
    · have e : sbits v.toNat = 0 := if_pos (by omega)
      exact tR_ok hv _ _ _ (h.tap hv.1 (by omega) (Int.le_refl 0) (by rw [e]; decide))
    · exact tR_ok hv _ _ _ h
theorem tst_ok {rw : Nat → Int} {N : Nat} (h : ∀ i, i < N → 0 ≤ rw i ∧ rw i ≤ 15) : ∀ i, i ≤ N → (((tst rw i).1 = -1 ∧ (tst rw i).2.1 = 0) ∨ (0 ≤ (tst rw i).1 ∧ (tst rw i).1 ≤ 15)) ∧ TdOK (tst rw i).2.2 := by
  intro i
  induction i with
  | zero => intro _; exact ⟨Or.inl ⟨rfl, rfl⟩, fun i hi => absurd hi (Nat.not_lt_zero _)⟩
  | succ i ih =>
    intro hi
    have a := ih (by omega)
    have b := h i (by omega)
    rw [tst]
    by_cases g : rw i = (tst rw i).1
    · rw [if_pos g]
      exact ⟨Or.inr (by rw [← g]; exact b), a.2⟩
    · rw [if_neg g]
      exact ⟨Or.inr b, trun_ok a.1 a.2⟩
theorem told_ok {rw : Nat → Int} {n : Nat} (h : ∀ i, i < n → 0 ≤ rw i ∧ rw i ≤ 15) : TdOK (told rw n) := by
  have a := tst_ok h n (Nat.le_refl _)
  exact trun_ok a.1 a.2
section STold
variable {Y : Gl} {X : Cx} {e : Nat} {iv av : IVt}
/-- the class's told row -/
def TdC (iv av : IVt) (q : Nat × (Nat → Int) × (Nat → Int)) : Prop := iv 22 14 = q.1 ∧ ∀ i, i < q.1 → av 55 i = q.2.1 i ∧ av 56 i = q.2.2 i
def TfC (iv av iv' av' : IVt) : Prop := Off [22] iv iv' ∧ (∀ j, j ≠ 14 → iv' 22 j = iv 22 j) ∧ Off [55, 56] av av'
theorem TfC.rf (iv av : IVt) : TfC iv av iv av := ⟨Off.rf _ _, fun _ _ => rfl, Off.rf _ _⟩
theorem TfC.tr {a b c d x y : IVt} (h : TfC a b c d) (g : TfC c d x y) : TfC a b x y := ⟨h.1.tr g.1, fun j hj => (g.2.1 j hj).trans (h.2.1 j hj), h.2.2.tr g.2.2⟩
theorem s_X8_addTold {q : Nat × (Nat → Int) × (Nat → Int)} {x y : Int} (hx : InR x) (hy : InR y) (h : TdC iv av q) (hq : q.1 < 320) : OkN Y e mX8_addTold [.ref (gl_b Y + 22), .int (i32 x), .int (i32 y)] RV iv av 116 (fun r iv' av' => TfC iv av iv' av' ∧ TdC iv' av' (tap q x y)) := by
  refine o_X8_addTold hx hy ?_
  rw [h.1, Int.toNat_natCast]
  refine fun _ => ⟨fun g => absurd g (by omega), fun _ => ⟨fun g => absurd g (by omega), fun _ => ⟨fun g => absurd g (by omega), fun _ => ⟨by omega, by omega, ⟨(Off.rf _ _).up (by decide), fun j hj => up2_nj hj, ((Off.rf _ _).up (by decide)).up (by decide)⟩, ?_, fun i hi => ?_⟩⟩⟩⟩
  · rw [up2_eq]
    show _ = ((q.1 + 1 : Nat) : Int)
    omega
  · show up2 av 55 q.1 x 55 i = (if i = q.1 then x else q.2.1 i) ∧ up2 (up2 av 55 q.1 x) 56 q.1 y 56 i = if i = q.1 then y else q.2.2 i
    have hi' : i < q.1 + 1 := hi
    rw [up2_at, up2_at, up2_ne (by decide)]
    by_cases g : i = q.1
    · simp only [if_pos g, and_self]
    · simp only [if_neg g]
      exact h.2 i (by omega)
theorem s_X8_tellSame {q : Nat × (Nat → Int) × (Nat → Int)} {v : Int} {n : Nat} (hv : -1 ≤ v ∧ v ≤ 1000) (hvn : v < 0 → n = 0) (h : TdC iv av q) (hq : q.1 + n ≤ 320) : OkN Y (e + 1) mX8_tellSame [.ref (gl_b Y + 22), .int (i32 v), .int (i32 (n : Int))] RV iv av 116 (fun r iv' av' => TfC iv av iv' av' ∧ TdC iv' av' (trun v n q)) := by
  refine o_X8_tellSame (by omega) (by omega) fun X C => ?_
  have l115 : ∀ (T : Nat × (Nat → Int) × (Nat → Int)) (N j i : Nat) (q1 : Nat × (Nat → Int) × (Nat → Int)) (iv1 av1 : IVt), j + i = N → N ≤ 320 → TdC iv1 av1 q1 → q1.1 + j ≤ 320 → tP v j q1 = T → TfC iv av iv1 av1 → L_X8_tellSame_115 Y X (fun r iv' av' => TfC iv av iv' av' ∧ TdC iv' av' T) v N i iv1 av1 := by
    intro T N j
    induction j with
    | zero =>
      intro i q1 iv1 av1 h1 h2 h3 h4 h5 h6
      rw [tP] at h5
      subst h5
      exact w_X8_tellSame_115 C (by omega) (by omega) (by omega) ⟨fun _ => ⟨h6, h3⟩, fun g => absurd g (by omega)⟩
    | succ j ih =>
      intro i q1 iv1 av1 h1 h2 h3 h4 h5 h6
      refine w_X8_tellSame_115 C (by omega) (by omega) (by omega) ⟨fun g => absurd g (by omega), fun _ => OkN.mono (s_X8_addTold (by omega) (by omega) h3 (by omega)) ?_⟩
      rintro r iv2 av2 hR2 ⟨g1, g2⟩
      rw [show (i : Int) + 1 = ((i + 1 : Nat) : Int) by omega]
      exact ih (i + 1) _ iv2 av2 (by omega) h2 g2 (by show q1.1 + 1 + j ≤ 320; omega) h5 (h6.tr g1)
  have l77 : ∀ (T : Nat × (Nat → Int) × (Nat → Int)) (fu N : Nat) (q1 : Nat × (Nat → Int) × (Nat → Int)) (iv1 av1 : IVt), 0 < v → N ≤ fu → TdC iv1 av1 q1 → q1.1 + N ≤ 320 → tR v fu N q1 = T → TfC iv av iv1 av1 → L_X8_tellSame_77 Y X (fun r iv' av' => TfC iv av iv' av' ∧ TdC iv' av' T) v N iv1 av1 := by
    intro T fu
    induction fu with
    | zero =>
      intro N q1 iv1 av1 hv0 h1 h2 h3 h4 h5
      have go := l115 T N N 0 q1 iv1 av1 (by omega) (by omega) h2 h3 h4 h5
      exact w_X8_tellSame_77 C (by omega) (by omega) ⟨fun g => absurd g (by omega), fun _ => ⟨fun _ => go, fun g => absurd g (by omega)⟩⟩
    | succ fu ih =>
      intro N q1 iv1 av1 hv0 h1 h2 h3 h4 h5
      refine w_X8_tellSame_77 C (by omega) (by omega) ⟨fun g => absurd g (by omega), fun _ => ⟨fun hlt => ?_, fun hge => ⟨by omega, ?_⟩⟩⟩
      · refine l115 T N N 0 q1 iv1 av1 (by omega) (by omega) h2 h3 ?_ h5
        rw [← h4, tR, if_neg (by omega), if_neg (by omega), if_neg (by omega)]
      · rw [show min (N : Int) 6 - 3 = ((min N 6 - 3 : Nat) : Int) by omega, show (N : Int) - min (N : Int) 6 = ((N - min N 6 : Nat) : Int) by omega]
        refine OkN.mono (s_X8_addTold (by omega) (by omega) h2 (by omega)) ?_
        rintro r iv2 av2 hR2 ⟨g1, g2⟩
        refine ih (N - min N 6) _ iv2 av2 hv0 (by omega) g2 (by show q1.1 + 1 + (N - min N 6) ≤ 320; omega) ?_ (h5.tr g1)
        rw [← h4, tR, if_pos (by omega)]
  have l77z : ∀ (T : Nat × (Nat → Int) × (Nat → Int)) (N : Nat) (q1 : Nat × (Nat → Int) × (Nat → Int)) (iv1 av1 : IVt), v ≤ 0 → TdC iv1 av1 q1 → q1.1 + N ≤ 320 → tP v N q1 = T → TfC iv av iv1 av1 → L_X8_tellSame_77 Y X (fun r iv' av' => TfC iv av iv' av' ∧ TdC iv' av' T) v N iv1 av1 := by
    intro T N q1 iv1 av1 hv0 h2 h3 h4 h5
    exact w_X8_tellSame_77 C (by omega) (by omega) ⟨fun _ => l115 T N N 0 q1 iv1 av1 (by omega) (by omega) h2 h3 h4 h5, fun g => absurd g (by omega)⟩
  have l19z : ∀ (T : Nat × (Nat → Int) × (Nat → Int)) (fu N : Nat) (q1 : Nat × (Nat → Int) × (Nat → Int)) (iv1 av1 : IVt), v = 0 → N ≤ fu → TdC iv1 av1 q1 → q1.1 + N ≤ 320 → tR v fu N q1 = T → TfC iv av iv1 av1 → L_X8_tellSame_19 Y X (fun r iv' av' => TfC iv av iv' av' ∧ TdC iv' av' T) v N iv1 av1 := by
    intro T fu
    induction fu with
    | zero =>
      intro N q1 iv1 av1 hv0 h1 h2 h3 h4 h5
      have go := l77z T N q1 iv1 av1 (by omega) h2 h3 h4 h5
      exact w_X8_tellSame_19 C (by omega) (by omega) ⟨fun g => absurd hv0 g, fun _ => ⟨fun _ => ⟨fun g => absurd hv0 g, fun _ => ⟨fun _ => go, fun g => absurd g (by omega)⟩⟩, fun g => absurd g (by omega)⟩⟩
    | succ fu ih =>
      intro N q1 iv1 av1 hv0 h1 h2 h3 h4 h5
      refine w_X8_tellSame_19 C (by omega) (by omega) ⟨fun g => absurd hv0 g, fun _ => ⟨fun hlt => ⟨fun g => absurd hv0 g, fun _ => ⟨fun hlt3 => ?_, fun hge3 => ⟨by omega, ?_⟩⟩⟩, fun hge => ⟨by omega, ?_⟩⟩⟩
      · refine l77z T N q1 iv1 av1 (by omega) h2 h3 ?_ h5
        rw [← h4, tR, if_neg (by omega), if_neg (by omega), if_neg (by omega)]
      · rw [show (N : Int) - 3 = ((N - 3 : Nat) : Int) by omega]
        refine OkN.mono (s_X8_addTold (by omega) (by omega) h2 (by omega)) ?_
        rintro r iv2 av2 hR2 ⟨g1, g2⟩
        refine l77z T 0 _ iv2 av2 (by omega) g2 (by show q1.1 + 1 + 0 ≤ 320; omega) ?_ (h5.tr g1)
        rw [← h4, tR, if_neg (by omega), if_neg (by omega), if_pos (by omega), tP]
      · rw [show min (N : Int) 138 - 11 = ((min N 138 - 11 : Nat) : Int) by omega, show (N : Int) - min (N : Int) 138 = ((N - min N 138 : Nat) : Int) by omega]
        refine OkN.mono (s_X8_addTold (by omega) (by omega) h2 (by omega)) ?_
        rintro r iv2 av2 hR2 ⟨g1, g2⟩
        refine ih (N - min N 138) _ iv2 av2 hv0 (by omega) g2 (by show q1.1 + 1 + (N - min N 138) ≤ 320; omega) ?_ (h5.tr g1)
        rw [← h4, tR, if_neg (by omega), if_pos (by omega)]
  have l19 : ∀ (T : Nat × (Nat → Int) × (Nat → Int)) (N : Nat) (q1 : Nat × (Nat → Int) × (Nat → Int)) (iv1 av1 : IVt), TdC iv1 av1 q1 → q1.1 + N ≤ 320 → tR v N N q1 = T → TfC iv av iv1 av1 → (v < 0 → N = 0) → L_X8_tellSame_19 Y X (fun r iv' av' => TfC iv av iv' av' ∧ TdC iv' av' T) v N iv1 av1 := by
    intro T N q1 iv1 av1 h2 h3 h4 h5 h6
    by_cases hv0 : v = 0
    · exact l19z T N N q1 iv1 av1 hv0 (Nat.le_refl _) h2 h3 h4 h5
    · refine w_X8_tellSame_19 C (by omega) (by omega) ⟨fun _ => ⟨fun _ => ?_, fun g => absurd g hv0⟩, fun g => absurd g hv0⟩
      by_cases hv1 : 0 < v
      · exact l77 T N N q1 iv1 av1 hv1 (Nat.le_refl _) h2 h3 h4 h5
      · have hN := h6 (by omega)
        subst hN
        exact l77z T 0 q1 iv1 av1 (by omega) h2 h3 h4 h5
  refine ⟨fun hle => ?_, fun hgt => ⟨fun hle => ?_, fun hgt2 => ?_⟩⟩
  · refine l19 _ n q iv av h hq ?_ (TfC.rf _ _) hvn
    unfold trun
    rw [if_neg (by omega)]
  · refine l19 _ n q iv av h hq ?_ (TfC.rf _ _) hvn
    unfold trun
    rw [if_neg (by omega)]
  · refine OkN.mono (s_X8_addTold (by omega) (by omega) h (by omega)) ?_
    rintro r iv2 av2 hR2 ⟨g1, g2⟩
    rw [show (n : Int) + -1 = ((n - 1 : Nat) : Int) by omega]
    refine l19 _ (n - 1) _ iv2 av2 g2 (by show q.1 + 1 + (n - 1) ≤ 320; omega) ?_ g1 (fun g => absurd g (by omega))
    unfold trun
    rw [if_pos (by omega)]
theorem nd_le (f : Nat → Int) (least : Nat) : ∀ n, nd f least n ≤ n := by
  intro n
  induction n with
  | zero => exact Nat.le_refl _
  | succ n ih => rw [nd]; split <;> omega
theorem nd_ge (f : Nat → Int) (least : Nat) : ∀ n, least ≤ n → least ≤ nd f least n := by
  intro n
  induction n with
  | zero => intro h; exact h
  | succ n ih =>
    intro h
    rw [nd]
    split
    · omega
    · exact ih (by omega)
theorem nd_max (f : Nat → Int) (least : Nat) : ∀ n, least ≤ n → max (nd f 0 n) least = nd f least n := by
  intro n
  induction n with
  | zero => intro h; rw [nd, nd]; omega
  | succ n ih =>
    intro h
    rw [nd, nd]
    by_cases h0 : f n ≠ 0
    · rw [if_pos (Or.inr h0), if_pos (Or.inr h0)]
      omega
    · rw [if_neg (show ¬ (n + 1 ≤ 0 ∨ f n ≠ 0) from fun g => g.elim (by omega) h0)]
      by_cases h1 : n + 1 ≤ least
      · rw [if_pos (Or.inl h1)]
        have := nd_le f 0 n
        omega
      · rw [if_neg (fun g => g.elim h1 h0)]
        exact ih (by omega)
theorem nd_congr {f g : Nat → Int} (least : Nat) : ∀ n, (∀ s, s < n → f s = g s) → nd f least n = nd g least n := by
  intro n
  induction n with
  | zero => intro _; rfl
  | succ n ih =>
    intro h
    rw [nd, nd, h n (by omega), ih fun s hs => h s (by omega)]
/-- the row of lengths that is told -/
def lrow (ls ld : Nat → Int) (i : Nat) : Int := if i < nd ls 257 286 then ls i else ld (i - nd ls 257 286)
def lall (ls ld : Nat → Int) : Nat := nd ls 257 286 + nd ld 1 30
theorem s_X8_toldSymbols : OkN Y (e + 1) mX8_toldSymbols [.ref (gl_b Y + 22)] RV iv av 116 (Same iv av (nd (av 35) 257 286 : Nat)) := by
  have K33 : CodeK RV 116 33 := ⟨rfl, rfl, rfl, rfl, by omega, rfl, rfl, rfl⟩
  refine o_X8_toldSymbols (OkN.mono (s_X3_used K33) ?_)
  rintro r iv1 av1 hR1 ⟨rfl, rfl, rfl⟩ hr
  refine ⟨?_, rfl, rfl⟩
  have := nd_max (av1 35) 257 286 (by omega)
  show max ((nd (av1 35) 0 286 : Nat) : Int) 257 = _
  omega
theorem s_X8_toldDistances : OkN Y (e + 1) mX8_toldDistances [.ref (gl_b Y + 22)] RV iv av 116 (Same iv av (nd (av 39) 1 30 : Nat)) := by
  have K37 : CodeK RV 116 37 := ⟨rfl, rfl, rfl, rfl, by omega, rfl, rfl, rfl⟩
  refine o_X8_toldDistances (OkN.mono (s_X3_used K37) ?_)
  rintro r iv1 av1 hR1 ⟨rfl, rfl, rfl⟩ hr
  refine ⟨?_, rfl, rfl⟩
  have := nd_max (av1 39) 1 30 (by omega)
  show max ((nd (av1 39) 0 30 : Nat) : Int) 1 = _
  omega
theorem tst_in {rw : Nat → Int} {N : Nat} (h : ∀ i, i < N → 0 ≤ rw i ∧ rw i ≤ 1000) : ∀ i, i ≤ N → -1 ≤ (tst rw i).1 ∧ (tst rw i).1 ≤ 1000 ∧ ((tst rw i).1 < 0 → (tst rw i).2.1 = 0) := by
  intro i
  induction i with
  | zero => intro _; exact ⟨Int.le_refl _, by show (-1 : Int) ≤ 1000; omega, fun _ => rfl⟩
  | succ i ih =>
    intro hi
    have a := ih (by omega)
    have b := h i (by omega)
    rw [tst]
    split
    · exact ⟨a.1, a.2.1, fun g => absurd (show (tst rw i).1 < 0 from g) (by omega)⟩
    · exact ⟨by show -1 ≤ rw i; omega, b.2, fun g => absurd (show rw i < 0 from g) (by omega)⟩
theorem s_X8_makeTold (h35 : ∀ s, s < 286 → 0 ≤ av 35 s ∧ av 35 s ≤ 1000) (h39 : ∀ s, s < 30 → 0 ≤ av 39 s ∧ av 39 s ≤ 1000) : OkN Y (e + 2) mX8_makeTold [.ref (gl_b Y + 22)] RV iv av 116 (fun r iv' av' => TfC iv av iv' av' ∧ TdC iv' av' (told (lrow (av 35) (av 39)) (lall (av 35) (av 39)))) := by
  have K33 : CodeK RV 116 33 := ⟨rfl, rfl, rfl, rfl, by omega, rfl, rfl, rfl⟩
  have K37 : CodeK RV 116 37 := ⟨rfl, rfl, rfl, rfl, by omega, rfl, rfl, rfl⟩
  refine o_X8_makeTold fun X C => OkN.mono s_X8_toldSymbols ?_
  rintro r iv1 av1 hR1 ⟨rfl, rfl, rfl⟩ hr1
  refine OkN.mono s_X8_toldDistances ?_
  rintro r iv2 av2 hR2 ⟨rfl, rfl, rfl⟩ hr2
  have a1 := nd_le (av2 35) 257 286
  have a2 := nd_le (av2 39) 1 30
  have eall : ((nd (av2 35) 257 286 : Nat) : Int) + ((nd (av2 39) 1 30 : Nat) : Int) = ((lall (av2 35) (av2 39) : Nat) : Int) := by unfold lall; omega
  have hall : lall (av2 35) (av2 39) = nd (av2 35) 257 286 + nd (av2 39) 1 30 := rfl
  rw [eall]
  have hrow : ∀ i, i < lall (av2 35) (av2 39) → 0 ≤ lrow (av2 35) (av2 39) i ∧ lrow (av2 35) (av2 39) i ≤ 1000 := by
    intro i hi
    unfold lrow
    split
    · exact h35 i (by omega)
    · exact h39 _ (by omega)
  have lp : ∀ (j i : Nat) (iv1 av1 : IVt), j + i = lall (av2 35) (av2 39) → TfC iv2 av2 iv1 av1 → TdC iv1 av1 (tst (lrow (av2 35) (av2 39)) i).2.2 → L_X8_makeTold_25 Y X (fun r iv' av' => TfC iv2 av2 iv' av' ∧ TdC iv' av' (told (lrow (av2 35) (av2 39)) (lall (av2 35) (av2 39)))) ((nd (av2 35) 257 286 : Nat) : Int) ((lall (av2 35) (av2 39) : Nat) : Int) (tst (lrow (av2 35) (av2 39)) i).1 ((tst (lrow (av2 35) (av2 39)) i).2.1 : Nat) i iv1 av1 := by
    intro j
    induction j with
    | zero =>
      intro i iv1 av1 h1 h2 h3
      have ei : i = lall (av2 35) (av2 39) := by omega
      have b1 := tst_in hrow i (by omega)
      have b2 := tst_cnt (lrow (av2 35) (av2 39)) i
      refine w_X8_makeTold_25 C (by omega) (by omega) (by omega) (by omega) (by omega) ⟨fun _ => OkN.mono (s_X8_tellSame ⟨b1.1, b1.2.1⟩ b1.2.2 h3 (by omega)) ?_, fun g => absurd g (by omega)⟩
      rintro r iv3 av3 hR3 ⟨g1, g2⟩
      refine ⟨h2.tr g1, ?_⟩
      unfold told
      rw [← ei]
      exact g2
    | succ j ih =>
      intro i iv1 av1 h1 h2 h3
      have b1 := tst_in hrow i (by omega)
      have b2 := tst_cnt (lrow (av2 35) (av2 39)) i
      have b3 := hrow i (by omega)
      have st1 : lrow (av2 35) (av2 39) i = (tst (lrow (av2 35) (av2 39)) i).1 → tst (lrow (av2 35) (av2 39)) (i + 1) = ((tst (lrow (av2 35) (av2 39)) i).1, (tst (lrow (av2 35) (av2 39)) i).2.1 + 1, (tst (lrow (av2 35) (av2 39)) i).2.2) := fun g => by rw [tst, if_pos g]
      have st2 : ¬ lrow (av2 35) (av2 39) i = (tst (lrow (av2 35) (av2 39)) i).1 → tst (lrow (av2 35) (av2 39)) (i + 1) = (lrow (av2 35) (av2 39) i, 1, trun (tst (lrow (av2 35) (av2 39)) i).1 (tst (lrow (av2 35) (av2 39)) i).2.1 (tst (lrow (av2 35) (av2 39)) i).2.2) := fun g => by rw [tst, if_neg g]
      have cont : ∀ (x : Int) (iv3 av3 : IVt), x = lrow (av2 35) (av2 39) i → iv3 = iv1 → av3 = av1 → (((x = (tst (lrow (av2 35) (av2 39)) i).1) → L_X8_makeTold_25 Y X (fun r iv' av' => TfC iv2 av2 iv' av' ∧ TdC iv' av' (told (lrow (av2 35) (av2 39)) (lall (av2 35) (av2 39)))) ((nd (av2 35) 257 286 : Nat) : Int) ((lall (av2 35) (av2 39) : Nat) : Int) (tst (lrow (av2 35) (av2 39)) i).1 ((((tst (lrow (av2 35) (av2 39)) i).2.1 : Nat) : Int) + 1) ((i : Int) + 1) iv3 av3) ∧ ((¬ x = (tst (lrow (av2 35) (av2 39)) i).1) → OkN Y (e + 1) mX8_tellSame [.ref (gl_b Y + 22), .int (i32 (tst (lrow (av2 35) (av2 39)) i).1), .int (i32 (((tst (lrow (av2 35) (av2 39)) i).2.1 : Nat) : Int))] RV iv3 av3 116 (fun r13 iv14 av15 => L_X8_makeTold_25 Y X (fun r iv' av' => TfC iv2 av2 iv' av' ∧ TdC iv' av' (told (lrow (av2 35) (av2 39)) (lall (av2 35) (av2 39)))) ((nd (av2 35) 257 286 : Nat) : Int) ((lall (av2 35) (av2 39) : Nat) : Int) x (0 + 1) ((i : Int) + 1) iv14 av15))) := by
        rintro x iv3 av3 rfl rfl rfl
        refine ⟨fun g => ?_, fun g => ?_⟩
        · have := ih (i + 1) iv3 av3 (by omega) h2 (by rw [st1 g]; exact h3)
          rw [st1 g] at this
          exact this
        · refine OkN.mono (s_X8_tellSame ⟨b1.1, b1.2.1⟩ b1.2.2 h3 (by omega)) ?_
          rintro r iv4 av4 hR4 ⟨g1, g2⟩
          have := ih (i + 1) iv4 av4 (by omega) (h2.tr g1) (by rw [st2 g]; exact g2)
          rw [st2 g] at this
          exact this
      refine w_X8_makeTold_25 C (by omega) (by omega) (by omega) (by omega) (by omega) ⟨fun g => absurd g (by omega), fun _ => ⟨fun hge => ⟨by omega, ?_⟩, fun hlt => ?_⟩⟩
      · refine OkN.mono (s_X3_lengthOf K37 (by omega)) ?_
        rintro r iv3 av3 hR3 ⟨rfl, rfl, rfl⟩ hr3
        refine cont _ iv3 av3 ?_ rfl rfl
        rw [if_pos ⟨by omega, by show (i : Int) - _ < 30; omega⟩, show ((i : Int) - ((nd (av2 35) 257 286 : Nat) : Int)).toNat = i - nd (av2 35) 257 286 by omega]
        unfold lrow
        rw [if_neg (by omega)]
        exact congrFun (h2.2.2 39 (by decide)) _
      · refine OkN.mono (s_X3_lengthOf K33 (by omega)) ?_
        rintro r iv3 av3 hR3 ⟨hre, rfl, rfl⟩ hr3
        refine cont _ iv3 av3 ?_ rfl rfl
        rw [hre, if_pos ⟨by omega, by show (i : Int) < 286; omega⟩, Int.toNat_natCast]
        unfold lrow
        rw [if_pos (by omega)]
        exact congrFun (h2.2.2 35 (by decide)) _
  exact lp (lall (av2 35) (av2 39)) 0 _ av2 (by omega) ⟨(Off.rf _ _).up (by decide), fun j hj => up2_nj hj, Off.rf _ _⟩ ⟨up2_eq _ _ _ _, fun i hi => absurd hi (Nat.not_lt_zero _)⟩
end STold
