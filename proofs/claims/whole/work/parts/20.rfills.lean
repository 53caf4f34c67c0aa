/-! The reference's write and fill. -/
def RF (iv av : IVt) : Prop := 0 ≤ iv 73 5 ∧ iv 73 5 ≤ 65536 ∧ ∀ f : Nat, f < 64 → 0 ≤ av 76 f ∧ 0 ≤ av 75 f ∧ av 75 f + av 76 f ≤ iv 73 5
section SRFills
variable {Y : Gl} {X : Cx} {e : Nat} {iv av : IVt}
theorem RF.from (h : RF iv av) {f : Nat} (hf : f < 64) : 0 ≤ rFrom iv av f ∧ rFrom iv av f ≤ iv 73 5 := by
  have := h.2.2 f hf
  have := h.1
  unfold rFrom rAt
  split <;> omega
theorem exA_76 (f : Nat) (n : Int) (k : Nat) : exA iv av f n 76 k = if k = f then av 76 f + n else av 76 k := by
  unfold exA
  simp only [upA_app, up2_app]
  grind
theorem s_X13_write {f t : Int} (hf : InR f) (ht : InR t) (hI : RF iv av) (h10 : 0 ≤ iv 73 0 ∧ iv 73 0 ≤ 1024) : OkN Y (e + 1) mX13_write [.ref (gl_b Y + 73), .int (i32 f), .int (i32 t)] RV iv av 116
    (fun r iv' av' => (wrBad f t ∧ r = -1 ∧ iv' = up2 iv 73 0 0 ∧ av' = av) ∨ (¬ wrBad f t ∧ 65536 < iv 73 5 + iv 73 0 * t ∧ r = -3 ∧ iv' = up2 iv 73 0 0 ∧ av' = av) ∨
      (¬ wrBad f t ∧ iv 73 5 + iv 73 0 * t ≤ 65536 ∧ r = av 76 f.toNat + iv 73 0 * t ∧ iv' = exI (up2 iv 73 0 0) (iv 73 0 * t) ∧ av' = upA (exA iv av f.toNat (iv 73 0 * t)) 77 (fil (rFrom iv av f.toNat) (iv 73 0 * t) (fun j => av 74 (j % (iv 73 0).toNat)) (exA iv av f.toNat (iv 73 0 * t) 77)))) := by
  refine o_X13_write hf ht fun X C _ => OkN.mono (s_X13_isFile hf) ?_
  rintro r iv' av' hR ⟨rfl, rfl, rfl⟩ hr
  refine ⟨fun h => Or.inl ⟨Or.inl (by grind), rfl, rfl, rfl⟩, fun h => ⟨fun h1 => Or.inl ⟨Or.inr (Or.inl h1), rfl, rfl, rfl⟩, fun h1 => ⟨fun h64 _ => ?_, fun h64 => Or.inl ⟨Or.inr (Or.inr (by omega)), rfl, rfl, rfl⟩⟩⟩⟩
  have hfi : 0 ≤ f ∧ f < 64 := by grind
  have nb : ¬ wrBad f t := by unfold wrBad; omega
  have hm := mul_in h10.1 h10.2 (show 0 ≤ t by omega) h64
  have hI0 := hI.1
  have hI1 := hI.2.1
  have e5 : up2 iv 73 0 0 73 5 = iv 73 5 := rfl
  have hff : (f.toNat : Int) = f := by omega
  have hIf := hI.2.2 f.toNat (by omega)
  have hIx := hI.from (show f.toNat < 64 by omega)
  refine ⟨by omega, fun hle => ⟨by omega, ?_⟩, fun hgt => Or.inr (Or.inl ⟨nb, by omega, rfl, rfl, rfl⟩)⟩
  have g := s_X13_extend (Y := Y) (e := e) (iv := up2 iv 73 0 0) (av := av') (f := f.toNat) (n := iv 73 0 * t) (by omega) hm.1 hI0 (by omega) hIf.1 ⟨hIf.2.1, hIf.2.2⟩ (fun k hk => by have := hI.2.2 k hk; rw [e5]; omega)
  rw [hff] at g
  refine OkN.mono g ?_
  rintro r iv2 av2 hR2 ⟨rfl, rfl, rfl⟩ hr3
  refine l_X13_write59 (av := exA (up2 iv 73 0 0) av' f.toNat (iv 73 0 * t)) C hfi (by omega) h10 hIx.1 ?_ (iv 73 0 * t).toNat 0 (by omega) hR2 ?_
  · show rFrom iv av' f.toNat + _ ≤ _
    omega
  rintro av3 rfl
  refine Or.inr (Or.inr ⟨nb, by omega, ?_, rfl, ?_⟩)
  · rw [exA_76, if_pos rfl]
  · rw [show ((iv 73 0 * t).toNat : Int) = iv 73 0 * t by omega]
    simp only [Nat.zero_add, Int.natCast_zero, Int.add_zero]
    rfl
theorem l_X13_fill61 {f k b c p : Int} (C : CX Y X RX13 "fill" cX13_fill 8 (some .int) (e + 1) 0 0) (hf : 0 ≤ f ∧ f < 64) (hk : k = 0 ∨ k = 1) (hc : c ≤ 65536) (hp : 0 ≤ p) (hpc : p + c ≤ 65536) {P : PN} :
    ∀ (m : Nat) (x i : Int) (av : IVt), c - i = m → 0 ≤ i → (∀ av', av' = upA av 77 (fil (p + i) m (fG k (if k = 1 then x else b)) (av 77)) → P (av 76 f.toNat) iv av') → L_X13_fill_61 Y X P f k b c p x i iv av := by
  intro m
  induction m with
  | zero =>
    intro x i av h1 h0 hP
    refine w_X13_fill_61 C (by omega) (by omega) (by omega) ⟨fun _ => ⟨hf, fun _ => hP _ (by rw [fil_0 _ _ _ _ (by simp), upA_self])⟩, fun h => absurd h (by omega)⟩
  | succ m ih =>
    intro x i av h1 h0 hP
    refine w_X13_fill_61 C (by omega) (by omega) (by omega) ⟨fun h => absurd h (by omega), fun _ => ⟨fun h => ⟨by omega, ?_⟩, fun h => ⟨by omega, ?_⟩⟩⟩
    · have hk1 : k = 1 := by omega
      subst hk1
      refine ih _ (i + 1) _ (by omega) (by omega) ?_
      rintro av' rfl
      refine hP _ ?_
      rw [up2_upA, upA_upA, upA_eq]
      congr 1
      rw [← fil_1 (p := p + i) (n := ((m + 1 : Nat) : Int)) (by omega) (by omega) (bm8 (bm8 (bm32 (1103515245 * x + 12345) / 65536))) (by simp [fG, lcgN, bm8_bm8]), show p + (i + 1) = p + i + 1 by omega, show ((m + 1 : Nat) : Int) - 1 = m by omega]
      simp only [if_true]
      rfl
    · subst h
      refine ih _ (i + 1) _ (by omega) (by omega) ?_
      rintro av' rfl
      refine hP _ ?_
      rw [up2_upA, upA_upA, upA_eq]
      congr 1
      rw [← fil_1 (p := p + i) (n := ((m + 1 : Nat) : Int)) (by omega) (by omega) (bm8 (bm8 b)) (by simp [fG, bm8_bm8]), show p + (i + 1) = p + i + 1 by omega, show ((m + 1 : Nat) : Int) - 1 = m by omega]
      rfl
theorem s_X13_fill {f k b c : Int} (hf : InR f) (hk : InR k) (hc : InR c) (hI : RF iv av) : OkN Y (e + 1) mX13_fill [.ref (gl_b Y + 73), .int (i32 f), .int (i32 k), .int (i32 b), .int (i32 c)] RV iv av 116
    (fun r iv' av' => (fiBad f k c ∧ r = -1 ∧ iv' = iv ∧ av' = av) ∨ (¬ fiBad f k c ∧ 65536 < iv 73 5 + c ∧ r = -3 ∧ iv' = iv ∧ av' = av) ∨
      (¬ fiBad f k c ∧ iv 73 5 + c ≤ 65536 ∧ r = av 76 f.toNat + c ∧ iv' = exI iv c ∧ av' = upA (exA iv av f.toNat c) 77 (fil (rFrom iv av f.toNat) c (fG k b) (exA iv av f.toNat c 77)))) := by
  refine o_X13_fill hf hk hc fun X C => OkN.mono (s_X13_isFile hf) ?_
  rintro r iv' av' hR ⟨rfl, rfl, rfl⟩ hr
  refine ⟨fun h => Or.inl ⟨Or.inl (by grind), rfl, rfl, rfl⟩, fun h => ⟨fun h1 => Or.inl ⟨Or.inr (Or.inl h1), rfl, rfl, rfl⟩, fun h1 => ⟨fun h2 => Or.inl ⟨Or.inr (Or.inr (Or.inl h2)), rfl, rfl, rfl⟩, fun h2 => ⟨fun h3 => Or.inl ⟨Or.inr (Or.inr (Or.inr (Or.inl h3))), rfl, rfl, rfl⟩, fun h3 => ⟨fun h4 _ => ?_, fun h4 => Or.inl ⟨Or.inr (Or.inr (Or.inr (Or.inr (by omega)))), rfl, rfl, rfl⟩⟩⟩⟩⟩⟩
  have hfi : 0 ≤ f ∧ f < 64 := by grind
  have nb : ¬ fiBad f k c := by unfold fiBad; omega
  have hI0 := hI.1
  have hI1 := hI.2.1
  have hff : (f.toNat : Int) = f := by omega
  have hIf := hI.2.2 f.toNat (by omega)
  have hIx := hI.from (show f.toNat < 64 by omega)
  refine ⟨by omega, fun hle => ?_, fun hgt => Or.inr (Or.inl ⟨nb, by omega, rfl, rfl, rfl⟩)⟩
  have g := s_X13_extend (Y := Y) (e := e) (iv := iv') (av := av') (f := f.toNat) (n := c) (by omega) (by omega) hI0 (by omega) hIf.1 ⟨hIf.2.1, hIf.2.2⟩ (fun k hk => by have := hI.2.2 k hk; omega)
  rw [hff] at g
  refine OkN.mono g ?_
  rintro r iv2 av2 hR2 ⟨rfl, rfl, rfl⟩ hr3
  refine l_X13_fill61 (k := k) (c := c) (p := rFrom iv' av' f.toNat) C hfi (by omega) h4 hIx.1 (by omega) c.toNat b 0 (exA iv' av' f.toNat c) (by omega) (by omega) ?_
  rintro av3 rfl
  refine Or.inr (Or.inr ⟨nb, by omega, ?_, rfl, ?_⟩)
  · rw [exA_76, if_pos rfl]
  · rw [ite_self, show (c.toNat : Int) = c by omega, Int.add_zero]
end SRFills
