/-! The reference's read. -/
/-- what was put, on both sides, and both rows -/
def RfH (iv av : IVt) : Prop := RdH iv av ∧ iv 73 6 = bkS iv ∧ iv 73 23 = iv 12 1 ∧ (∀ j : Nat, j < iv 12 1 → av 89 j = av 13 j) ∧ (∀ j : Nat, j < iv 5 5 → av 85 j = av 7 j) ∧ (∀ j : Nat, j < iv 5 6 → av 86 j = av 8 j ∧ av 87 j = av 9 j) ∧
  ∀ f : Nat, f < 64 → av 78 f = av 6 (8 * f + 1) ∧ av 79 f = av 6 (8 * f + 2) ∧ av 80 f = av 6 (8 * f + 7) ∧ av 81 f = av 6 (8 * f + 3) ∧ av 82 f = av 6 (8 * f + 4) ∧ av 83 f = av 6 (8 * f + 5)
theorem InvL.rfh {iv av : IVt} (h : InvL iv av) (hR : InvR iv av) (hB : iv 14 1 = 0) : RfH iv av := by
  have h0 := h.rdh hR hB
  obtain ⟨⟨g1, g2, g3, g4, g5⟩, h2⟩ := h
  refine ⟨h0, g1.2.2, hR.1, hR.2.2.2, fun j hj => (g4 j hj).1, fun j hj => ⟨(g5 j hj).1, (g5 j hj).2.1⟩, fun f hf => ?_⟩
  obtain ⟨⟨q1, q2, q3, q4, q5, q6, q7⟩, _⟩ := h2 f hf
  exact ⟨q1, q2, q7, q3, q4, q5⟩
abbrev LTj : List Nat := [25, 28, 53, 54, 55, 56, 57, 58, 59, 60]
abbrev LTa : List Nat := [90, 91, 92, 100, 105, 110, 112, 114, 115]
theorem RfH.of {iv av iv' av' : IVt} (h : RfH iv av) (e : OffM LMi LTj iv iv') (a : Off LTa av av') : RfH iv' av' := by
  obtain ⟨h0, h1, h2, h3, h4, h5, h6⟩ := h
  have e5 := e.1 5 (by decide) (by decide)
  have e12 := e.1 12 (by decide) (by decide)
  refine ⟨h0.of e5 e12 (a 6 (by decide)) (a 7 (by decide)) (a 8 (by decide)) (a 9 (by decide)), ?_, ?_, ?_, ?_, ?_, ?_⟩
  · rw [e.2 6 (by decide), h1]
    unfold bkS
    rw [e5]
  · rw [e.2 23 (by decide), e12, h2]
  · rw [e12, a 89 (by decide), a 13 (by decide)]
    exact h3
  · rw [e5, a 85 (by decide), a 7 (by decide)]
    exact h4
  · rw [e5, a 86 (by decide), a 8 (by decide), a 87 (by decide), a 9 (by decide)]
    exact h5
  · rw [a 78 (by decide), a 79 (by decide), a 80 (by decide), a 81 (by decide), a 82 (by decide), a 83 (by decide), a 6 (by decide)]
    exact h6
theorem BB_of {g h : Nat → Int} {fr N : Nat} {n : Int} (hN : N % 8 = 0) (hn : ((fr + N / 8 : Nat) : Int) ≤ n) (he : ∀ j : Nat, j < n → g j = h j) : BB g fr N = BB h fr N := by
  funext p
  unfold BB
  by_cases hp : p < N
  · rw [if_pos hp, if_pos hp, he _ (by omega)]
  · rw [if_neg hp, if_neg hp]
/-- a taking's end -/
def TkE (iv av iv' av' : IVt) (beg b r : Int) : Prop :=
  OffM LMi LTj iv iv' ∧ Off [92, 100, 105, 110, 112, 114, 115] av av' ∧ iv' 73 25 = iv 73 25 ∧ iv' 73 28 = iv 73 28 + 1 ∧
  ((iv 12 1 < beg + b % 16777216 ∧ r = -1) ∨ (beg + b % 16777216 ≤ iv 12 1 ∧ 16777216 ≤ b ∧ r = b % 16777216 ∧ ∀ j : Nat, j < b % 16777216 → av' 92 j = av 13 (beg.toNat + j)) ∨
   (beg + b % 16777216 ≤ iv 12 1 ∧ b < 16777216 ∧ ((r = -1 ∧ unpackF (BB (av 13) beg.toNat (8 * b.toNat)) (8 * b.toNat) (bkN iv) = none) ∨ ∃ o : Outp, r = o.1 ∧ unpackF (BB (av 13) beg.toNat (8 * b.toNat)) (8 * b.toNat) (bkN iv) = some o ∧ ∀ j : Nat, j < o.1 → av' 92 j = o.2 j)))
section SRread2
variable {Y : Gl} {X : Cx} {e : Nat} {iv av : IVt}
theorem s_X13_take (h : RfH iv av) {beg b : Int} (hb0 : 0 < b) (hb1 : b ≤ 16842752) (hbeg : 0 ≤ beg) (hbegR : beg ≤ 1500000000) (htk : 0 ≤ iv 73 28 ∧ iv 73 28 ≤ 1000) : OkN Y (e + 4) mX13_take [.ref (gl_b Y + 73), .int (i32 beg), .int (i32 b)] RV iv av 116 (fun r iv' av' => TkE iv av iv' av' beg b r) := by
  obtain ⟨h0, h1, h2, h3, h4, h5, h6⟩ := h
  have hrc := h0.2.2.2.2.2.2
  have hbk := bk_in h0
  have eb := bkS_eq iv
  have key : ∀ (X : Cx) (C : CX Y X RX13 "take" cX13_take 5 (some .int) (e + 4) 0 0), beg + b % 16777216 ≤ iv 12 1 → 16777216 ≤ b → ∀ (m k : Nat) (av1 : IVt), k + m = (b % 16777216).toNat → Off [92] av av1 → (∀ j : Nat, j < k → av1 92 j = av 89 (beg.toNat + j)) → L_X13_take_57 Y X (fun r iv' av' => TkE iv av iv' av' beg b r) beg (b % 16777216) k (up2 iv 73 28 (iv 73 28 + 1)) av1 := by
    intro X C hle hasis m
    induction m with
    | zero =>
      intro k av1 g1 g2 g3
      refine w_X13_take_57 C (by omega) (by omega) ⟨fun _ => ⟨(OffM.rf _ _ _).up (by decide), g2.mono (by decide), rfl, up2_eq _ _ _ _, Or.inr (Or.inl ⟨hle, hasis, rfl, fun j hj => ?_⟩)⟩, fun h => absurd h (by omega)⟩
      rw [g3 j (by omega), h3 _ (by omega)]
    | succ m ih =>
      intro k av1 g1 g2 g3
      refine w_X13_take_57 C (by omega) (by omega) ⟨fun h => absurd h (by omega), fun _ => ⟨by omega, ?_⟩⟩
      rw [show (beg + (k : Int)).toNat = beg.toNat + k by omega, g2 89 (by decide)]
      intro hby
      rw [bm8_id hby, show (k : Int) + 1 = ((k + 1 : Nat) : Int) by omega, Int.toNat_natCast]
      refine ⟨by omega, ih (k + 1) _ (by omega) (g2.up (by decide)) fun j hj => ?_⟩
      rw [up2_at]
      by_cases hjk : j = k
      · rw [if_pos hjk, hjk]
      · rw [if_neg hjk]
        exact g3 j (by omega)
  refine o_X13_take (by omega) (by omega) fun X C _ => ⟨by omega, fun _ => ⟨by omega, fun hle => ⟨fun hasis => ?_, fun hpk _ => ?_⟩, fun hgt => ?_⟩⟩
  · exact key X C (by omega) hasis (b % 16777216).toNat 0 av (by omega) (Off.rf _ _) fun j hj => absurd hj (Nat.not_lt_zero _)
  · have hbm : b % 16777216 = b := by omega
    rw [hbm] at hle ⊢
    have hun := s_X13_unpack (Y := Y) (e := e) (iv := up2 iv 73 28 (iv 73 28 + 1)) (av := av) (fr := beg.toNat) (room := bkN iv) (N := 8 * b.toNat) (k := b.toNat) rfl (by omega) (by omega)
    rw [show ((beg.toNat : Nat) : Int) = beg by omega, show ((b.toNat : Nat) : Int) = b by omega, ← eb, ← h1] at hun
    refine OkN.mono hun ?_
    rintro r iv1 av1 hR1 ⟨c1, c2, c3⟩ hr1
    have eB : BB (av 89) beg.toNat (8 * b.toNat) = BB (av 13) beg.toNat (8 * b.toNat) := BB_of (n := iv 12 1) (by omega) (by omega) h3
    have e6 : up2 iv 73 28 (iv 73 28 + 1) 73 6 = bkS iv := h1
    rw [eB] at c3
    refine ⟨((OffM.rf _ _ _).up (by decide)).tr (c1.mono (fun _ h => h) (by decide)), c2, c1.2 25 (by decide), (c1.2 28 (by decide)).trans (up2_eq _ _ _ _), Or.inr (Or.inr ⟨by rw [hbm]; omega, by omega, ?_⟩)⟩
    rcases c3 with c3 | ⟨o, d1, d2, d3, d4⟩
    · exact Or.inl c3
    · exact Or.inr ⟨o, d1, d2, d4⟩
  · exact ⟨(OffM.rf _ _ _).up (by decide), Off.rf _ _, rfl, up2_eq _ _ _ _, Or.inl ⟨by omega, rfl⟩⟩
/-- the draft behind a laying -/
def layD (g : Nat → Int) (src : Nat → Int) (first off n fr en : Int) (z : Bool) : Nat → Int := fun j => if first ≤ fr + j ∧ fr + j < en ∧ fr + j < first + n then (if z then 0 else src (off + (fr + j - first)).toNat) else g j
theorem s_X13_lay {first off n fr en : Int} {z : Bool} (hf : 0 ≤ first ∧ first ≤ 200000) (ho : 0 ≤ off) (hn : 0 ≤ n) (hon : off + n ≤ 65536) (hfr : 0 ≤ fr ∧ fr ≤ 200000) (hen : fr ≤ en ∧ en ≤ 200000) (h4096 : en - fr ≤ 4096) : OkN Y e mX13_lay [.ref (gl_b Y + 73), .int (i32 first), .int (i32 off), .int (i32 n), .int (i32 (if z then 1 else 0)), .int (i32 fr), .int (i32 en)] RV iv av 116
    (fun r iv' av' => iv' = iv ∧ av' = upA av 91 (layD (av 91) (av 92) first off n fr en z)) := by
  refine o_X13_lay fun X C => ?_
  have key : ∀ (m k : Nat) (av1 : IVt), (k : Int) + m = n → av1 = upA av 91 (layD (av 91) (av 92) first off k fr en z) → L_X13_lay_3 Y X (fun r iv' av' => iv' = iv ∧ av' = upA av 91 (layD (av 91) (av 92) first off n fr en z)) first off n (if z then 1 else 0) fr en k iv av1 := by
    have hz : InR (if z then (1 : Int) else 0) := by split <;> omega
    intro m
    induction m with
    | zero =>
      intro k av1 h1 h2
      refine w_X13_lay_3 C (by omega) hz (by omega) (by omega) (by omega) ⟨fun _ => ⟨rfl, ?_⟩, fun h => absurd h (by omega)⟩
      rw [h2, show (k : Int) = n by omega]
    | succ m ih =>
      intro k av1 h1 h2
      have same : ¬ (fr ≤ first + k ∧ first + k < en) → av1 = upA av 91 (layD (av 91) (av 92) first off ((k + 1 : Nat) : Int) fr en z) := by
        intro hno
        rw [h2]
        congr 1
        funext j
        unfold layD
        by_cases hc : first ≤ fr + j ∧ fr + j < en ∧ fr + j < first + ((k : Nat) : Int)
        · rw [if_pos hc, if_pos (show first ≤ fr + (j : Int) ∧ fr + (j : Int) < en ∧ fr + (j : Int) < first + ((k + 1 : Nat) : Int) by omega)]
        · rw [if_neg hc, if_neg (show ¬ (first ≤ fr + (j : Int) ∧ fr + (j : Int) < en ∧ fr + (j : Int) < first + ((k + 1 : Nat) : Int)) by omega)]
      have diff : ∀ v : Int, fr ≤ first + k → first + k < en → v = (if z then 0 else av 92 (off + k).toNat) → up2 av1 91 (first + k - fr).toNat v = upA av 91 (layD (av 91) (av 92) first off ((k + 1 : Nat) : Int) fr en z) := by
        intro v g1 g2 g3
        rw [h2, up2_upA, upA_upA, upA_eq]
        congr 1
        funext j
        unfold layD
        by_cases hj : j = (first + k - fr).toNat
        · rw [if_pos hj, if_pos (show first ≤ fr + (j : Int) ∧ fr + (j : Int) < en ∧ fr + (j : Int) < first + ((k + 1 : Nat) : Int) by omega), g3, show off + (fr + (j : Int) - first) = off + k by omega]
        · rw [if_neg hj]
          by_cases hc : first ≤ fr + j ∧ fr + j < en ∧ fr + j < first + ((k : Nat) : Int)
          · rw [if_pos hc, if_pos (show first ≤ fr + (j : Int) ∧ fr + (j : Int) < en ∧ fr + (j : Int) < first + ((k + 1 : Nat) : Int) by omega)]
          · rw [if_neg hc, if_neg (show ¬ (first ≤ fr + (j : Int) ∧ fr + (j : Int) < en ∧ fr + (j : Int) < first + ((k + 1 : Nat) : Int)) by omega)]
      have e92 : av1 92 = av 92 := by rw [h2, upA_ne (by decide)]
      refine w_X13_lay_3 C (by omega) hz (by omega) (by omega) (by omega) ⟨fun h => absurd h (by omega), fun _ => ⟨by omega, fun hlt => ?_, fun hge => ⟨fun hge2 => ?_, fun hlt2 => ⟨fun hz0 => ⟨by omega, ?_⟩, fun hz1 => ⟨by omega, ?_⟩⟩⟩⟩⟩
      · rw [show (k : Int) + 1 = ((k + 1 : Nat) : Int) by omega]
        exact ih (k + 1) av1 (by omega) (same (by omega))
      · rw [show (k : Int) + 1 = ((k + 1 : Nat) : Int) by omega]
        exact ih (k + 1) av1 (by omega) (same (by omega))
      · rw [e92]
        intro hby
        rw [bm8_id hby, show (k : Int) + 1 = ((k + 1 : Nat) : Int) by omega]
        refine ⟨by omega, ih (k + 1) _ (by omega) (diff _ (by omega) (by omega) ?_)⟩
        have hzf : z = false := by
          cases z
          · rfl
          · exact absurd hz0 (by decide)
        rw [hzf]
        rfl
      · rw [bm8_0, show (k : Int) + 1 = ((k + 1 : Nat) : Int) by omega]
        refine ih (k + 1) _ (by omega) (diff _ (by omega) (by omega) ?_)
        have hzf : z = true := by
          cases z
          · exact absurd rfl hz1
          · rfl
        rw [hzf]
        rfl
  refine key n.toNat 0 av (by omega) ?_
  rw [upA_of]
  intro j
  unfold layD
  rw [if_neg (by omega)]
end SRread2
