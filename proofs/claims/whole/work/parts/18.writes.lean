/-! write, fill and clear, on both sides. -/
theorem fil_app {p a b : Int} {G g : Nat → Int} (hp : 0 ≤ p) (ha : 0 ≤ a) (hb : 0 ≤ b) : fil (p + a) b (fun j => G (j + a.toNat)) (fil p a G g) = fil p (a + b) G g := by
  funext i
  unfold fil
  by_cases h : p + a ≤ i ∧ i < p + a + b
  · rw [if_pos h, if_pos (by omega)]
    dsimp only
    congr 1
    omega
  · rw [if_neg h]
    by_cases h2 : p ≤ i ∧ i < p + a
    · rw [if_pos h2, if_pos (by omega)]
    · rw [if_neg h2, if_neg (by omega)]
section SWrites
variable {Y : Gl} {X : Cx} {e : Nat} {iv av : IVt}
theorem tape_av (hR : Rng iv av) {j : Int} (h0 : 0 ≤ j) (h1 : j < iv 10 1) (h2 : iv 10 1 ≤ 1024) : bm8 (b_at iv av 10 j) = av 11 j.toNat := by
  have e : b_at iv av 10 j = av 11 j.toNat % 256 := if_pos ⟨h0, h1, by show j < ((1024 : Nat) : Int); omega⟩
  have hb : -128 ≤ av 11 j.toNat ∧ av 11 j.toNat ≤ 127 := hR.2 11 j.toNat
  rw [e, show bm8 (av 11 j.toNat % 256) = bm8 (av 11 j.toNat) from bm8_of (by omega), bm8_id hb]
theorem l_X11_write69 {f n p i : Int} {t : Int} (C : CX Y X RX11 "writeTape" cX11_writeTape 7 (some .int) (e + 3) 0 0) (hn : 0 ≤ n ∧ n ≤ 1024) (h10 : iv 10 1 = n) (h2 : iv 2 1 ≤ 65536) (h5 : 0 ≤ p + i * n) (h6 : p + i * n + n ≤ iv 2 1) {P : PN} : ∀ (m : Nat) (k : Int) (av : IVt), n - k = m → 0 ≤ k → 
    (∀ av', av' = upA av 3 (fil (p + i * n + k) m (fun j => av 11 (k.toNat + j)) (av 3)) → L_X11_writeTape_60 Y X P f t n p (i + 1) iv av') → Rng iv av → L_X11_writeTape_69 Y X P f t n p i k iv av := by
  intro m
  induction m with
  | zero =>
    intro k av h1 h3 hP hR
    exact w_X11_writeTape_69 C (by omega) (by omega) ⟨fun _ => hP _ (by rw [fil_0 _ _ _ _ (by omega), upA_self]), fun h => absurd h (by omega)⟩
  | succ m ih =>
    intro k av h1 h3 hP hR
    refine w_X11_writeTape_69 C (by omega) (by omega) ⟨fun h => absurd h (by omega), fun _ => OkN.mono (s_X2_at bk_10 (by omega)) ?_⟩
    rintro r iv' av' hR' ⟨rfl, rfl, rfl⟩ hr
    refine ⟨by omega, OkN.mono (s_X4_set hr (by omega) (by omega) h2) ?_⟩
    rintro r iv' av2 hR2 ⟨rfl, rfl⟩
    refine ih (k + 1) _ (by omega) (by omega) ?_ hR2
    intro av3 g
    refine hP av3 ?_
    rw [g, up2_upA, upA_upA, upA_eq]
    congr 1
    have ht := tape_av hR' (j := k) h3 (by omega) (by omega)
    rw [← fil_1 (p := p + i * n + k) (n := ((m + 1 : Nat) : Int)) (by omega) (by omega) _ (ht.trans (by simp))]
    rw [show ((m + 1 : Nat) : Int) - 1 = m by omega, show p + i * n + (k + 1) = p + i * n + k + 1 by omega]
    congr 1
    funext j
    rw [upA_ne (by decide), show (k + 1).toNat + j = k.toNat + (j + 1) by omega]
theorem mul_in {a b : Int} (ha : 0 ≤ a) (ha2 : a ≤ 1024) (hb : 0 ≤ b) (hb2 : b ≤ 64) : 0 ≤ a * b ∧ a * b ≤ 65536 := by
  have h1 := Int.mul_nonneg ha hb
  have h2 : a * b ≤ 1024 * 64 := Int.mul_le_mul ha2 hb2 hb (by omega)
  omega
theorem l_X11_write60 {f n p t : Int} (C : CX Y X RX11 "writeTape" cX11_writeTape 7 (some .int) (e + 3) 0 0) (hFI : ∀ av', av' 4 = av 4 → FI iv av') (hf : 0 ≤ f ∧ f < 64) (ht : 0 ≤ t ∧ t ≤ 64) (hn : 0 ≤ n ∧ n ≤ 1024) (h10 : iv 10 1 = n) (h2 : iv 2 1 ≤ 65536) (hp : 0 ≤ p) (hpn : p + t * n ≤ iv 2 1) {P : PN} : ∀ (m : Nat) (i : Int) (av1 : IVt), t - i = m → 0 ≤ i → av1 4 = av 4 → Rng iv av1 →
    (∀ av', av' = upA av1 3 (fil (p + i * n) (m * n) (fun j => av1 11 (j % n.toNat)) (av1 3)) → P (av 4 (f.toNat + 1) - av 4 f.toNat) iv av') → L_X11_writeTape_60 Y X P f t n p i iv av1 := by
  intro m
  induction m with
  | zero =>
    intro i av1 h1 h3 h4 hR hP
    refine w_X11_writeTape_60 C (by omega) (by omega) (by omega) ⟨fun _ => OkN.mono (s_X4_count (hFI av1 h4) hf.1 hf.2) ?_, fun h => absurd h (by omega)⟩
    rintro r iv' av' hR' ⟨rfl, rfl, rfl⟩ hr
    rw [h4]
    exact hP _ (by rw [fil_0 _ _ _ _ (by simp), upA_self])
  | succ m ih =>
    intro i av1 h1 h3 h4 hR hP
    have hin : 0 ≤ i * n := Int.mul_nonneg h3 hn.1
    have hin2 : (i + 1) * n ≤ t * n := Int.mul_le_mul_of_nonneg_right (by omega) hn.1
    have hin3 : (i + 1) * n = i * n + n := by rw [Int.add_mul, Int.one_mul]
    refine w_X11_writeTape_60 C (by omega) (by omega) (by omega) ⟨fun h => absurd h (by omega), fun _ => ?_⟩
    refine l_X11_write69 C hn h10 h2 (by omega) (by omega) n.toNat 0 av1 (by omega) (by omega) ?_ hR
    rintro av2 rfl
    have hR2 : Rng iv (upA av1 3 (fil (p + i * n + 0) n.toNat (fun j => av1 11 ((0 : Int).toNat + j)) (av1 3))) := by
      refine ⟨hR.1, fun k j => ?_⟩
      by_cases hk : k = 3
      · subst hk
        rw [upA_eq]
        unfold fil
        split
        · exact hR.2 11 _
        · exact hR.2 3 _
      · rw [upA_ne hk]
        exact hR.2 k j
    refine ih (i + 1) _ (by omega) (by omega) (by rw [upA_ne (by decide)]; exact h4) hR2 ?_
    rintro av3 rfl
    refine hP _ ?_
    rw [upA_upA, upA_eq]
    congr 1
    have hmn : (0 : Int) ≤ m * n := Int.mul_nonneg (by omega) hn.1
    have e1 : (((m + 1 : Nat) : Int)) * n = n + m * n := by
      rw [show ((m + 1 : Nat) : Int) = m + 1 by omega, Int.add_mul, Int.one_mul]
      omega
    rw [e1, ← fil_app (by omega) hn.1 hmn, hin3, show p + (i * n + n) = p + i * n + n by omega, upA_ne (by decide)]
    congr 1
    · funext j
      rw [Nat.add_mod_right]
    · rw [show p + i * n + 0 = p + i * n by omega, show (n.toNat : Int) = n by omega]
      funext q
      unfold fil
      by_cases hq : p + i * n ≤ q ∧ q < p + i * n + n
      · rw [if_pos hq, if_pos hq]
        dsimp only
        congr 1
        rw [Nat.mod_eq_of_lt (by omega)]
        show 0 + _ = _
        omega
      · rw [if_neg hq, if_neg hq]
/-- write's three ends -/
def wrBad (f t : Int) : Prop := ¬ (0 ≤ f ∧ f < 64) ∨ t < 1 ∨ 64 < t
theorem s_X11_writeTape {f t : Int} (hf : InR f) (ht : InR t) (hFI : FI iv av) (h10 : 0 ≤ iv 10 1 ∧ iv 10 1 ≤ 1024) : OkN Y (e + 3) mX11_writeTape [.ref (gl_b Y + 0), .int (i32 f), .int (i32 t)] RV iv av 116
    (fun r iv' av' => (wrBad f t ∧ r = -1 ∧ iv' = iv ∧ av' = av) ∨ (¬ wrBad f t ∧ 65536 < iv 2 1 + iv 10 1 * t ∧ r = -3 ∧ iv' = iv ∧ av' = av) ∨
      (¬ wrBad f t ∧ iv 2 1 + iv 10 1 * t ≤ 65536 ∧ r = av 4 (f.toNat + 1) - av 4 f.toNat + iv 10 1 * t ∧ iv' = fOpenI iv (iv 10 1 * t) ∧ av' = upA (fOpenA iv av f.toNat (iv 10 1 * t)) 3 (fil (av 4 (f.toNat + 1)) (iv 10 1 * t) (fun j => av 11 (j % (iv 10 1).toNat)) (fOpenA iv av f.toNat (iv 10 1 * t) 3)))) := by
  have b0 := hFI.bd (Nat.le_refl 64)
  have b4 := hFI.2.2.2
  refine o_X11_writeTape hf ht fun X C => OkN.mono (s_X11_isFile hf) ?_
  rintro r iv' av' hR ⟨rfl, rfl, rfl⟩ hr
  refine ⟨fun h => Or.inl ⟨Or.inl (by grind), rfl, rfl, rfl⟩, fun h => ⟨fun h1 => Or.inl ⟨Or.inr (Or.inl h1), rfl, rfl, rfl⟩, fun h1 => ⟨fun h64 => OkN.mono (s_X2_count bk_10) ?_, fun h64 => Or.inl ⟨Or.inr (Or.inr (by omega)), rfl, rfl, rfl⟩⟩⟩⟩
  have hfi : 0 ≤ f ∧ f < 64 := by grind
  have nb : ¬ wrBad f t := by unfold wrBad; omega
  rintro r iv' av' hR ⟨rfl, rfl, rfl⟩ hr
  refine OkN.mono (s_X4_room (by omega)) ?_
  rintro r iv' av' hR ⟨rfl, rfl, rfl⟩ hr2
  have hm := mul_in h10.1 h10.2 (show 0 ≤ t by omega) h64
  refine ⟨by omega, fun hle => OkN.mono (s_X4_open hFI hfi.1 hfi.2 hm.1 (by omega)) ?_, fun hgt => Or.inr (Or.inl ⟨nb, by omega, rfl, rfl, rfl⟩)⟩
  rintro r iv2 av2 hR2 ⟨rfl, rfl, rfl⟩ hr3
  have b1 := hFI.bd (show f.toNat + 1 ≤ 64 by omega)
  have b2 := hFI.bd (show f.toNat ≤ 64 by omega)
  have hFI2 : ∀ av3 : IVt, av3 4 = fOpenA iv' av' f.toNat (iv' 10 1 * t) 4 → FI (fOpenI iv' (iv' 10 1 * t)) av3 := by
    intro av3 h3
    have e4 : ∀ i : Nat, av3 4 i = if f.toNat + 1 ≤ i ∧ i < 65 then av' 4 i + iv' 10 1 * t else av' 4 i := fun i => by rw [h3]; unfold fOpenA; rw [upA_eq]
    have e2 : fOpenI iv' (iv' 10 1 * t) 2 1 = iv' 2 1 + iv' 10 1 * t := up2_eq _ _ _ _
    refine ⟨?_, ?_, ?_, by omega⟩
    · rw [e4, if_neg (by omega)]; exact hFI.1
    · intro i hi
      have := hFI.2.1 i hi
      rw [e4, e4]
      split <;> split <;> omega
    · have := hFI.2.2.1
      rw [e4, if_pos (by omega), e2]
      omega
  have e2 : fOpenI iv' (iv' 10 1 * t) 2 1 = iv' 2 1 + iv' 10 1 * t := up2_eq _ _ _ _
  have e11 : fOpenA iv' av' f.toNat (iv' 10 1 * t) 11 = av' 11 := rfl
  have e4 : ∀ i : Nat, fOpenA iv' av' f.toNat (iv' 10 1 * t) 4 i = if f.toNat + 1 ≤ i ∧ i < 65 then av' 4 i + iv' 10 1 * t else av' 4 i := fun i => by unfold fOpenA; rw [upA_eq]
  refine l_X11_write60 (av := fOpenA iv' av' f.toNat (iv' 10 1 * t)) C hFI2 hfi (by omega) h10 rfl (by omega) b1.1 (by rw [e2, Int.mul_comm t]; omega) t.toNat 0 _ (by omega) (by omega) rfl hR2 ?_
  rintro av3 rfl
  refine Or.inr (Or.inr ⟨nb, by omega, ?_, rfl, ?_⟩)
  · rw [e4, e4, if_pos (by omega), if_neg (by omega)]
    omega
  · rw [e11, show (t.toNat : Int) * iv' 10 1 = iv' 10 1 * t by rw [Int.mul_comm]; congr 1; omega, show av' 4 (f.toNat + 1) + 0 * iv' 10 1 = av' 4 (f.toNat + 1) by omega]
theorem tape_clear (h : 0 ≤ iv 10 1) : (if 0 ≤ (0 : Int) ∧ 0 < iv 10 1 then up2 iv 10 1 0 else iv) = up2 iv 10 1 0 := by
  split
  · rfl
  · rw [show (0 : Int) = iv 10 1 by omega, up2_self]
theorem s_X11_write {f t : Int} (hf : InR f) (ht : InR t) (hFI : FI iv av) (h10 : 0 ≤ iv 10 1 ∧ iv 10 1 ≤ 1024) : OkN Y (e + 4) mX11_write [.ref (gl_b Y + 0), .int (i32 f), .int (i32 t)] RV iv av 116
    (fun r iv' av' => (wrBad f t ∧ r = -1 ∧ iv' = up2 iv 10 1 0 ∧ av' = av) ∨ (¬ wrBad f t ∧ 65536 < iv 2 1 + iv 10 1 * t ∧ r = -3 ∧ iv' = up2 iv 10 1 0 ∧ av' = av) ∨
      (¬ wrBad f t ∧ iv 2 1 + iv 10 1 * t ≤ 65536 ∧ r = av 4 (f.toNat + 1) - av 4 f.toNat + iv 10 1 * t ∧ iv' = up2 (fOpenI iv (iv 10 1 * t)) 10 1 0 ∧ av' = upA (fOpenA iv av f.toNat (iv 10 1 * t)) 3 (fil (av 4 (f.toNat + 1)) (iv 10 1 * t) (fun j => av 11 (j % (iv 10 1).toNat)) (fOpenA iv av f.toNat (iv 10 1 * t) 3)))) := by
  refine o_X11_write hf ht (OkN.mono (s_X11_writeTape hf ht hFI h10) ?_)
  rintro r iv' av' hR (⟨hb, rfl, rfl, rfl⟩ | ⟨hb, hc, rfl, rfl, rfl⟩ | ⟨hb, hc, rfl, rfl, rfl⟩) hr
  · refine OkN.mono (s_X2_keep bk_10 (by omega)) ?_
    rintro r iv2 av2 hR2 ⟨rfl, rfl⟩
    rw [tape_clear h10.1]
    exact Or.inl ⟨hb, rfl, rfl, rfl⟩
  · refine OkN.mono (s_X2_keep bk_10 (by omega)) ?_
    rintro r iv2 av2 hR2 ⟨rfl, rfl⟩
    rw [tape_clear h10.1]
    exact Or.inr (Or.inl ⟨hb, hc, rfl, rfl, rfl⟩)
  · refine OkN.mono (s_X2_keep bk_10 (by omega)) ?_
    rintro r iv2 av2 hR2 ⟨rfl, rfl⟩
    rw [tape_clear (iv := fOpenI iv (iv 10 1 * t)) h10.1]
    exact Or.inr (Or.inr ⟨hb, hc, rfl, rfl, rfl⟩)
end SWrites
