/-! The class makes lengths of codes. -/
section SMaker
variable {Y : Gl} {X : Cx} {e : Nat} {iv av : IVt}
/-- the first m symbols are sorted -/
def SrC (av : IVt) (c : Nat → Int) (m : Nat) (R : Nat → Nat) : Prop := ∀ i, i < m → av 27 i = R i ∧ av 28 i = c (R i)
theorem l_X6_insert (C : CX Y X RX6 "insert" cX6_insert 5 none (e + 1) 0 0) {c : Nat → Int} {s m : Nat} {R : Nat → Nat} (hm : m < 288) (hs : s < 1000) (hcs : InR (c s)) {av0 : IVt} {P : PN} (hP : ∀ av', Off [27, 28] av0 av' → SrC av' c (m + 1) (insR c s m R) → P 0 iv av') :
    ∀ (k : Nat) (av1 : IVt), k ≤ m → ipos c s R m = ipos c s R k → Off [27, 28] av0 av1 → (∀ i, i < k → av1 27 i = R i ∧ av1 28 i = c (R i)) → (∀ i, k < i → i ≤ m → av1 27 i = R (i - 1) ∧ av1 28 i = c (R (i - 1))) → L_X6_insert_21 Y X P s (c s) k iv av1 := by
  intro k
  have fin : ∀ (k : Nat) (av1 : IVt), k ≤ m → ipos c s R m = k → Off [27, 28] av0 av1 → (∀ i, i < k → av1 27 i = R i ∧ av1 28 i = c (R i)) → (∀ i, k < i → i ≤ m → av1 27 i = R (i - 1) ∧ av1 28 i = c (R (i - 1))) → P 0 iv (up2 (up2 av1 27 k s) 28 k (c s)) := by
    intro k av1 h1 h2 h3 h4 h5
    refine hP _ ((h3.up (by decide)).up (by decide)) fun i hi => ?_
    show up2 av1 27 k s 27 i = _ ∧ up2 (up2 av1 27 k s) 28 k (c s) 28 i = _
    rw [up2_at, up2_at, up2_ne (by decide)]
    unfold insR
    rw [h2]
    rcases Nat.lt_trichotomy i k with h | h | h
    · have a : i ≠ k := by omega
      simp only [if_neg a, if_pos h]
      exact h4 i h
    · have a : ¬ i < k := by omega
      simp only [if_neg a, if_pos h, and_self]
    · have a : i ≠ k := by omega
      have b : ¬ i < k := by omega
      have d : i ≤ m := by omega
      simp only [if_neg a, if_neg b, if_pos d]
      exact h5 i h d
  induction k with
  | zero =>
    intro av1 h1 h2 h3 h4 h5
    refine w_X6_insert_21 C (by omega) hcs (by omega) ⟨fun _ => ⟨fun h => absurd h (by omega), fun _ => ⟨by omega, ?_⟩⟩, fun h => absurd h (by omega)⟩
    exact fin 0 av1 h1 h2 h3 h4 h5
  | succ k ih =>
    intro av1 h1 h2 h3 h4 h5
    obtain ⟨g1, g2⟩ := h4 k (by omega)
    refine w_X6_insert_21 C (by omega) hcs (by omega) ⟨fun h => absurd h (by omega), fun _ => ⟨by omega, ?_⟩⟩
    rw [show (((k + 1 : Nat) : Int) - 1).toNat = k by omega, Int.toNat_natCast, g2, g1]
    refine fun _ => ⟨fun hle => ⟨fun h => absurd h (by omega), fun _ => ⟨by omega, ?_⟩⟩, fun hgt => fun _ => ⟨by omega, ?_⟩⟩
    · exact fin (k + 1) av1 h1 (by rw [h2, ipos, if_neg (by omega)]) h3 h4 h5
    · rw [show ((k + 1 : Nat) : Int) + (-1) = (k : Int) by omega]
      refine ih _ (by omega) (by rw [h2, ipos, if_pos (by omega)]) ((h3.up (by decide)).up (by decide)) (fun i hi => ?_) fun i hi hi2 => ?_
      · show up2 av1 27 (k + 1) _ 27 i = _ ∧ up2 (up2 av1 27 (k + 1) _) 28 (k + 1) _ 28 i = _
        rw [up2_nj (by omega), up2_nj (by omega), up2_ne (by decide)]
        exact h4 i (by omega)
      · show up2 av1 27 (k + 1) _ 27 i = _ ∧ up2 (up2 av1 27 (k + 1) _) 28 (k + 1) _ 28 i = _
        rw [up2_at, up2_at, up2_ne (by decide)]
        by_cases h : i = k + 1
        · rw [if_pos h, if_pos h, h]
          exact ⟨rfl, rfl⟩
        · rw [if_neg h, if_neg h]
          exact h5 i (by omega) hi2
theorem s_X6_insert {c : Nat → Int} {s m : Nat} {R : Nat → Nat} (hm : m < 288) (hs : s < 1000) (hcs : InR (c s)) (h : SrC av c m R) : OkN Y (e + 1) mX6_insert [.ref (gl_b Y + 26), .int (i32 (s : Int)), .int (i32 (c s)), .int (i32 (m : Int))] RV iv av 116
    (fun r iv' av' => iv' = iv ∧ Off [27, 28] av av' ∧ SrC av' c (m + 1) (insR c s m R)) := by
  refine o_X6_insert (by omega) fun X C => ⟨by omega, ?_⟩
  rw [show min (m : Int) (min 288 288 - 1) = m by omega]
  exact l_X6_insert C hm hs hcs (av0 := av) (fun av' g1 g2 => ⟨rfl, g1, g2⟩) m av (Nat.le_refl _) rfl (Off.rf _ _) h fun i h1 h2 => absurd h1 (by omega)
theorem s_X6_begin {w : Nat → Int} {m : Nat} (hm : m ≤ 288) (h : ∀ i, i < m → av 28 i = w i) : OkN Y e mX6_begin [.ref (gl_b Y + 26), .int (i32 (m : Int))] RV iv av 116
    (fun r iv' av' => iv' = iv ∧ Off [29, 30] av av' ∧ (∀ i, i < 288 → av' 29 i = 0) ∧ ∀ i, i < m → av' 30 i = w i) := by
  refine o_X6_begin fun X C => ?_
  have lp2 : ∀ (j k : Nat) (av1 : IVt), j + k = m → Off [29, 30] av av1 → (∀ i, i < 288 → av1 29 i = 0) → (∀ i, i < k → av1 30 i = w i) → L_X6_begin_26 Y X (fun r iv' av' => iv' = iv ∧ Off [29, 30] av av' ∧ (∀ i, i < 288 → av' 29 i = 0) ∧ ∀ i, i < m → av' 30 i = w i) m k iv av1 := by
    intro j
    induction j with
    | zero =>
      intro k av1 h1 h2 h3 h4
      exact w_X6_begin_26 C (by omega) (by omega) ⟨fun _ => ⟨rfl, h2, h3, fun i hi => h4 i (by omega)⟩, fun g => absurd g (by omega)⟩
    | succ j ih =>
      intro k av1 h1 h2 h3 h4
      refine w_X6_begin_26 C (by omega) (by omega) ⟨fun g => absurd g (by omega), fun _ => ⟨fun g => absurd g (by omega), fun _ => ⟨fun g => absurd g (by omega), fun _ => ⟨by omega, fun _ => ⟨by omega, ?_⟩⟩⟩⟩⟩
      rw [Int.toNat_natCast, show (k : Int) + 1 = ((k + 1 : Nat) : Int) by omega]
      refine ih (k + 1) _ (by omega) (h2.up (by decide)) (fun i hi => ?_) fun i hi => ?_
      · rw [up2_ne (by decide)]
        exact h3 i hi
      · rw [up2_at]
        split
        · rename_i hik
          rw [h2 28 (by decide), hik]
          exact h k (by omega)
        · exact h4 i (by omega)
  have lp : ∀ (j k : Nat) (av1 : IVt), j + k = 288 → Off [29, 30] av av1 → (∀ i, i < k → av1 29 i = 0) → L_X6_begin_2 Y X (fun r iv' av' => iv' = iv ∧ Off [29, 30] av av' ∧ (∀ i, i < 288 → av' 29 i = 0) ∧ ∀ i, i < m → av' 30 i = w i) m k iv av1 := by
    intro j
    induction j with
    | zero =>
      intro k av1 h1 h2 h3
      exact w_X6_begin_2 C (by omega) ⟨fun _ => lp2 m 0 av1 (by omega) h2 (fun i hi => h3 i (by omega)) fun i hi => absurd hi (Nat.not_lt_zero _), fun g => absurd g (by omega)⟩
    | succ j ih =>
      intro k av1 h1 h2 h3
      refine w_X6_begin_2 C (by omega) ⟨fun g => absurd g (by omega), fun _ => ⟨by omega, ?_⟩⟩
      rw [Int.toNat_natCast, show (k : Int) + 1 = ((k + 1 : Nat) : Int) by omega]
      refine ih (k + 1) _ (by omega) (h2.up (by decide)) fun i hi => ?_
      rw [up2_at]
      split
      · rfl
      · exact h3 i (by omega)
  exact lp 288 0 av rfl (Off.rf _ _) fun i hi => absurd hi (Nat.not_lt_zero _)
end SMaker
