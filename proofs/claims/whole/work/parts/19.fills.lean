/-! fill and clear of the class; write and fill of the reference. -/
def lcgN : Nat → Int → Int
  | 0, x => x
  | n + 1, x => lcgN n (bm32 (1103515245 * x + 12345))
/-- the byte at place j of a fill -/
def fG (k x : Int) (j : Nat) : Int := if k = 1 then bm8 (lcgN (j + 1) x / 65536) else bm8 x
def fiBad (f k c : Int) : Prop := ¬ (0 ≤ f ∧ f < 64) ∨ k < 0 ∨ 1 < k ∨ c < 1 ∨ 65536 < c
theorem fG_1 (x : Int) (j : Nat) : fG 1 x (j + 1) = fG 1 (bm32 (1103515245 * x + 12345)) j := rfl
theorem fG_10 (x : Int) : fG 1 x 0 = bm8 (bm32 (1103515245 * x + 12345) / 65536) := rfl
theorem fG_0 (x : Int) (j : Nat) : fG 0 x j = bm8 x := rfl
section SFills
variable {Y : Gl} {X : Cx} {e : Nat} {iv av : IVt}
theorem div16_in {x : Int} (h : InR x) : InR (x / 65536) := by omega
theorem l_X11_fill64 {f k b c p : Int} (C : CX Y X RX11 "fill" cX11_fill 8 (some .int) (e + 3) 0 0) (hFI : ∀ av', av' 4 = av 4 → FI iv av') (hf : 0 ≤ f ∧ f < 64) (hk : k = 0 ∨ k = 1) (hb : InR b) (hc : c ≤ 65536) (hp : 0 ≤ p) (h2 : iv 2 1 ≤ 65536) (h3 : p + c ≤ iv 2 1) {P : PN} :
    ∀ (m : Nat) (x i : Int) (av1 : IVt), c - i = m → 0 ≤ i → av1 4 = av 4 → InR x → (∀ av', av' = upA av1 3 (fil (p + i) m (fG k (if k = 1 then x else b)) (av1 3)) → P (av 4 (f.toNat + 1) - av 4 f.toNat) iv av') → L_X11_fill_64 Y X P f k b c p x i iv av1 := by
  intro m
  induction m with
  | zero =>
    intro x i av1 h1 h0 h4 hx hP
    refine w_X11_fill_64 C (by omega) (by omega) hb (by omega) hx (by omega) ⟨fun _ => OkN.mono (s_X4_count (hFI av1 h4) hf.1 hf.2) ?_, fun h => absurd h (by omega)⟩
    rintro r iv' av' hR' ⟨rfl, rfl, rfl⟩ hr
    rw [h4]
    exact hP _ (by rw [fil_0 _ _ _ _ (by simp), upA_self])
  | succ m ih =>
    intro x i av1 h1 h0 h4 hx hP
    refine w_X11_fill_64 C (by omega) (by omega) hb (by omega) hx (by omega) ⟨fun h => absurd h (by omega), fun _ => ⟨fun h => ⟨fun _ => ⟨by omega, OkN.mono (s_X4_set hb (by omega) (by omega) h2) ?_⟩, fun h' => absurd h' h⟩, fun h => ⟨fun h' => absurd h h', fun _ => ⟨by omega, OkN.mono (s_X4_set (div16_in (bm32_in _)) (by omega) (by omega) h2) ?_⟩⟩⟩⟩
    · rintro r iv' av' hR' ⟨rfl, rfl⟩
      have hk0 : k = 0 := by omega
      subst hk0
      refine ih x (i + 1) _ (by omega) (by omega) h4 hx ?_
      rintro av' rfl
      refine hP _ ?_
      rw [up2_upA, upA_upA, upA_eq]
      congr 1
      rw [← fil_1 (p := p + i) (n := ((m + 1 : Nat) : Int)) (by omega) (by omega) (bm8 b) (by simp [fG]), show p + (i + 1) = p + i + 1 by omega, show ((m + 1 : Nat) : Int) - 1 = m by omega]
      rfl
    · rintro r iv' av' hR' ⟨rfl, rfl⟩
      subst h
      refine ih _ (i + 1) _ (by omega) (by omega) h4 (bm32_in _) ?_
      rintro av' rfl
      refine hP _ ?_
      rw [up2_upA, upA_upA, upA_eq]
      congr 1
      rw [← fil_1 (p := p + i) (n := ((m + 1 : Nat) : Int)) (by omega) (by omega) (bm8 (bm32 (1103515245 * x + 12345) / 65536)) (by simp [fG, lcgN]), show p + (i + 1) = p + i + 1 by omega, show ((m + 1 : Nat) : Int) - 1 = m by omega]
      simp only [if_true]
      rfl
theorem FI_open {f c : Int} (hFI : FI iv av) (h0 : 0 ≤ f) (h1 : f < 64) (hc : 0 ≤ c) (h2 : iv 2 1 + c ≤ 65536) : ∀ av3 : IVt, av3 4 = fOpenA iv av f.toNat c 4 → FI (fOpenI iv c) av3 := by
  intro av3 h3
  have e4 : ∀ i : Nat, av3 4 i = if f.toNat + 1 ≤ i ∧ i < 65 then av 4 i + c else av 4 i := fun i => by rw [h3]; unfold fOpenA; rw [upA_eq]
  have e2 : fOpenI iv c 2 1 = iv 2 1 + c := up2_eq _ _ _ _
  refine ⟨?_, ?_, ?_, by omega⟩
  · rw [e4, if_neg (by omega)]; exact hFI.1
  · intro i hi
    have := hFI.2.1 i hi
    rw [e4, e4]
    split <;> split <;> omega
  · have := hFI.2.2.1
    rw [e4, if_pos (by omega), e2]
    omega
theorem fOpenA_4 (f : Nat) (c : Int) (i : Nat) : fOpenA iv av f c 4 i = if f + 1 ≤ i ∧ i < 65 then av 4 i + c else av 4 i := by unfold fOpenA; rw [upA_eq]
theorem s_X11_fill {f k b c : Int} (hf : InR f) (hk : InR k) (hb : InR b) (hc : InR c) (hFI : FI iv av) : OkN Y (e + 3) mX11_fill [.ref (gl_b Y + 0), .int (i32 f), .int (i32 k), .int (i32 b), .int (i32 c)] RV iv av 116
    (fun r iv' av' => (fiBad f k c ∧ r = -1 ∧ iv' = iv ∧ av' = av) ∨ (¬ fiBad f k c ∧ 65536 < iv 2 1 + c ∧ r = -3 ∧ iv' = iv ∧ av' = av) ∨
      (¬ fiBad f k c ∧ iv 2 1 + c ≤ 65536 ∧ r = av 4 (f.toNat + 1) - av 4 f.toNat + c ∧ iv' = fOpenI iv c ∧ av' = upA (fOpenA iv av f.toNat c) 3 (fil (av 4 (f.toNat + 1)) c (fG k b) (fOpenA iv av f.toNat c 3)))) := by
  have b0 := hFI.bd (Nat.le_refl 64)
  have b4 := hFI.2.2.2
  refine o_X11_fill hf hk hc fun X C => OkN.mono (s_X11_isFile hf) ?_
  rintro r iv' av' hR ⟨rfl, rfl, rfl⟩ hr
  refine ⟨fun h => Or.inl ⟨Or.inl (by grind), rfl, rfl, rfl⟩, fun h => ⟨fun h1 => Or.inl ⟨Or.inr (Or.inl h1), rfl, rfl, rfl⟩, fun h1 => ⟨fun h2 => Or.inl ⟨Or.inr (Or.inr (Or.inl h2)), rfl, rfl, rfl⟩, fun h2 => ⟨fun h3 => Or.inl ⟨Or.inr (Or.inr (Or.inr (Or.inl h3))), rfl, rfl, rfl⟩, fun h3 => ⟨fun h4 => OkN.mono (s_X4_room (by omega)) ?_, fun h4 => Or.inl ⟨Or.inr (Or.inr (Or.inr (Or.inr (by omega)))), rfl, rfl, rfl⟩⟩⟩⟩⟩⟩
  have hfi : 0 ≤ f ∧ f < 64 := by grind
  have nb : ¬ fiBad f k c := by unfold fiBad; omega
  rintro r iv' av' hR ⟨rfl, rfl, rfl⟩ hr2
  refine ⟨fun hle => OkN.mono (s_X4_open hFI hfi.1 hfi.2 (by omega) (by omega)) ?_, fun hgt => Or.inr (Or.inl ⟨nb, by omega, rfl, rfl, rfl⟩)⟩
  rintro r iv2 av2 hR2 ⟨rfl, rfl, rfl⟩ hr3
  have b1 := hFI.bd (show f.toNat + 1 ≤ 64 by omega)
  have e2 : fOpenI iv' c 2 1 = iv' 2 1 + c := up2_eq _ _ _ _
  refine l_X11_fill64 (av := fOpenA iv' av' f.toNat c) C (FI_open hFI hfi.1 hfi.2 (by omega) (by omega)) hfi (by omega) hb h4 b1.1 (by omega) (by omega) c.toNat b 0 _ (by omega) (by omega) rfl hb ?_
  rintro av3 rfl
  refine Or.inr (Or.inr ⟨nb, by omega, ?_, rfl, ?_⟩)
  · rw [fOpenA_4, fOpenA_4, if_pos (by omega), if_neg (by omega)]
    omega
  · rw [ite_self, show (c.toNat : Int) = c by omega, Int.add_zero]
theorem s_X11_clear {f : Int} (hf : InR f) (hFI : FI iv av) : OkN Y (e + 3) mX11_clear [.ref (gl_b Y + 0), .int (i32 f)] RV iv av 116
    (fun r iv' av' => (¬ (0 ≤ f ∧ f < 64) ∧ r = -1 ∧ iv' = iv ∧ av' = av) ∨ (0 ≤ f ∧ f < 64 ∧ r = av 4 (f.toNat + 1) - av 4 f.toNat ∧ iv' = fDropI iv (av 4 (f.toNat + 1) - av 4 f.toNat) ∧ av' = fDropA iv av f.toNat)) := by
  refine o_X11_clear hf (OkN.mono (s_X11_isFile hf) ?_)
  rintro r iv' av' hR ⟨rfl, rfl, rfl⟩ hr
  refine ⟨fun h => ?_, fun h => Or.inl ⟨by grind, rfl, rfl, rfl⟩⟩
  have hfi : 0 ≤ f ∧ f < 64 := by grind
  refine OkN.mono (s_X4_count hFI hfi.1 hfi.2) ?_
  rintro r iv' av' hR ⟨rfl, rfl, rfl⟩ hr2
  refine OkN.mono (s_X4_drop hFI hfi.1 hfi.2) ?_
  rintro r iv2 av2 hR2 ⟨rfl, rfl⟩
  exact Or.inr ⟨hfi.1, hfi.2, rfl, rfl, rfl⟩
theorem l_X13_write59 {f t n p : Int} (C : CX Y X RX13 "write" cX13_write 6 (some .int) (e + 1) 0 0) (hf : 0 ≤ f ∧ f < 64) (ht : 0 ≤ t ∧ t ≤ 64) (hn : 0 ≤ n ∧ n ≤ 1024) (hp : 0 ≤ p) (hpn : p + n * t ≤ 65536) {P : PN} : ∀ (m : Nat) (j : Nat) (av : IVt), n * t - j = m → Rng iv av →
    (∀ av', av' = upA av 77 (fil (p + j) m (fun i => av 74 ((j + i) % n.toNat)) (av 77)) → P (av 76 f.toNat) iv av') → L_X13_write_59 Y X P f t n p j iv av := by
  have hm := mul_in hn.1 hn.2 ht.1 ht.2
  intro m
  induction m with
  | zero =>
    intro j av h1 hR hP
    refine w_X13_write_59 C (by omega) (by omega) ⟨by omega, fun _ => ⟨hf, fun _ => hP _ (by rw [fil_0 _ _ _ _ (by simp), upA_self])⟩, fun h => absurd h (by omega)⟩
  | succ m ih =>
    intro j av h1 hR hP
    have hn1 : 0 < n := by
      by_cases h : 0 < n
      · exact h
      · have : n = 0 := by omega
        subst this
        omega
    have hmod := Int.emod_nonneg (j : Int) (show n ≠ 0 by omega)
    have hmod2 := Int.emod_lt_of_pos (j : Int) hn1
    refine w_X13_write_59 C (by omega) (by omega) ⟨by omega, fun h => absurd h (by omega), fun _ => ⟨by omega, hn1, by omega, fun hb => ⟨by omega, ?_⟩⟩⟩
    rw [show (j : Int) + 1 = ((j + 1 : Nat) : Int) by omega]
    refine ih (j + 1) _ (by omega) (hR.putA (k := 77) (by rw [bm8_id (hR.2 74 _)]; exact hR.2 74 _)) ?_
    rintro av' rfl
    refine hP _ ?_
    rw [up2_upA, upA_upA, upA_eq]
    congr 1
    have e1 : ((j : Int) % n).toNat = j % n.toNat := by
      rw [show (j : Int) % n = ((j % n.toNat : Nat) : Int) by rw [Int.natCast_emod]; congr 1; omega]
      rfl
    rw [← fil_1 (p := p + j) (n := ((m + 1 : Nat) : Int)) (by omega) (by omega) (bm8 (av 74 ((j : Int) % n).toNat)) (by rw [bm8_id (hR.2 74 _), e1]; rfl), show p + ((j + 1 : Nat) : Int) = p + j + 1 by omega, show ((m + 1 : Nat) : Int) - 1 = m by omega]
    congr 1
    funext i
    rw [upA_ne (by decide), show j + 1 + i = j + (i + 1) by omega]
end SFills
