/-! The small calls, on both sides. -/
theorem byteL (x : Int) {j : Nat} (hj : j < 8) : bm8 (bm32 (x % 18446744073709551616 / 2 ^ (8 * (j : Int)).toNat)) = bm8 (x / 2 ^ (8 * j)) := by
  apply bm8_of
  have h : ∀ a : Int, bm32 a % 256 = a % 256 := fun a => by
    unfold bm32
    rw [Int.bmod_def]
    split <;> omega
  rw [h]
  rcases (show j = 0 ∨ j = 1 ∨ j = 2 ∨ j = 3 ∨ j = 4 ∨ j = 5 ∨ j = 6 ∨ j = 7 by omega) with rfl | rfl | rfl | rfl | rfl | rfl | rfl | rfl
  · show x % 18446744073709551616 / 1 % 256 = x / 1 % 256; omega
  · show x % 18446744073709551616 / 256 % 256 = x / 256 % 256; omega
  · show x % 18446744073709551616 / 65536 % 256 = x / 65536 % 256; omega
  · show x % 18446744073709551616 / 16777216 % 256 = x / 16777216 % 256; omega
  · show x % 18446744073709551616 / 4294967296 % 256 = x / 4294967296 % 256; omega
  · show x % 18446744073709551616 / 1099511627776 % 256 = x / 1099511627776 % 256; omega
  · show x % 18446744073709551616 / 281474976710656 % 256 = x / 281474976710656 % 256; omega
  · show x % 18446744073709551616 / 72057594037927936 % 256 = x / 72057594037927936 % 256; omega
theorem fil_0 (p : Int) (G g : Nat → Int) (n : Int) (h : n ≤ 0) : fil p n G g = g := by
  funext i
  unfold fil
  rw [if_neg (by omega)]
/-- one more of the new bytes -/
theorem fil_1 {p n : Int} {G g : Nat → Int} (hp : 0 ≤ p) (hn : 0 < n) (v : Int) (hv : v = G 0) : fil (p + 1) (n - 1) (fun j => G (j + 1)) (fun i => if i = p.toNat then v else g i) = fil p n G g := by
  funext i
  unfold fil
  dsimp only
  by_cases h : i = p.toNat
  · subst h
    rw [if_neg (by omega), if_pos rfl, if_pos (by omega), hv]
    congr 1
    omega
  · rw [if_neg h]
    by_cases h2 : p ≤ i ∧ i < p + n
    · rw [if_pos (by omega), if_pos h2]
      congr 1
      omega
    · rw [if_neg (by omega), if_neg h2]
section SSmall
variable {Y : Gl} {X : Cx} {e e2 : Nat} {iv av : IVt}
theorem l_X11_feed {x n : Int} (C : CX Y X RX11 "feed" cX11_feed 5 (some .int) (e + 1) 0 0) (hn : n ≤ 8) {P : PN} : ∀ (m j : Nat) (iv av : IVt), n - j = m → 0 ≤ iv 10 1 → iv 10 1 + m ≤ 1024 →
    (∀ r iv' av', r = iv 10 1 + m → iv' = up2 iv 10 1 (iv 10 1 + m) → av' = upA av 11 (fil (iv 10 1) m (fun i => bm8 (x / 2 ^ (8 * (j + i)))) (av 11)) → P r iv' av') → L_X11_feed_30 Y X P x n j iv av := by
  intro m
  induction m with
  | zero =>
    intro j iv av h1 h2 h3 hP
    refine w_X11_feed_30 C (by omega) (by omega) ⟨fun _ => OkN.mono (s_X2_count bk_10) ?_, fun h => absurd h (by omega)⟩
    rintro r iv' av' hR ⟨rfl, rfl, rfl⟩ hr
    exact hP _ _ _ (by simp) (by simp [up2_self]) (by rw [fil_0 _ _ _ _ (by omega), upA_self])
  | succ m ih =>
    intro j iv av h1 h2 h3 hP
    refine w_X11_feed_30 C (by omega) (by omega) ⟨fun h => absurd h (by omega), fun _ => ⟨by omega, OkN.mono (s_X2_add bk_10 h2 (by show iv 10 1 < ((1024 : Nat) : Int); omega)) ?_⟩⟩
    rintro r iv' av' hR ⟨rfl, rfl⟩
    rw [show (j : Int) + 1 = ((j + 1 : Nat) : Int) by omega]
    refine ih (j + 1) _ _ (by omega) (by rw [up2_eq]; omega) (by rw [up2_eq]; omega) ?_
    intro r iv' av' g0 g1 g2
    rw [up2_eq] at g0 g1 g2
    refine hP r iv' av' (by omega) (by rw [g1, up2_up2]; congr 1; omega) ?_
    rw [g2, up2_upA, upA_upA, upA_eq]
    congr 1
    rw [← fil_1 (p := iv 10 1) (n := ((m + 1 : Nat) : Int)) h2 (by omega) _ (byteL x (show j < 8 by omega))]
    rw [show ((m + 1 : Nat) : Int) - 1 = m by omega]
    congr 1
    funext i
    rw [show j + 1 + i = j + (i + 1) by omega]
/-- feed's answer -/
def fdR (c n : Int) : Int := if n < 1 ∨ 8 < n then -1 else if 1024 < c + n then -3 else c + n
theorem s_X11_feed {x n : Int} (hn : InR n) (h0 : 0 ≤ iv 10 1) (h1 : iv 10 1 ≤ 1024) : OkN Y (e + 1) mX11_feed [.ref (gl_b Y + 0), .long (i64 x), .int (i32 n)] RV iv av 116
    (fun r iv' av' => r = fdR (iv 10 1) n ∧ ((¬ (1 ≤ n ∧ n ≤ 8 ∧ iv 10 1 + n ≤ 1024) ∧ iv' = iv ∧ av' = av) ∨ ((1 ≤ n ∧ n ≤ 8 ∧ iv 10 1 + n ≤ 1024) ∧ iv' = up2 iv 10 1 (iv 10 1 + n) ∧ av' = upA av 11 (fil (iv 10 1) n (fun i => bm8 (x / 2 ^ (8 * i))) (av 11))))) := by
  unfold fdR
  refine o_X11_feed hn fun X C => ⟨fun h => ⟨by rw [if_pos (by omega)], Or.inl ⟨by omega, rfl, rfl⟩⟩, fun h => ⟨fun h8 => OkN.mono (s_X2_room bk_10 h0) ?_, fun h8 => ⟨by rw [if_pos (by omega)], Or.inl ⟨by omega, rfl, rfl⟩⟩⟩⟩
  rintro r iv' av' hR ⟨rfl, rfl, rfl⟩ hr
  have hk : ((kl (10 + 1) : Nat) : Int) = 1024 := rfl
  rw [hk]
  refine ⟨fun hle => ?_, fun hgt => ⟨by rw [if_neg (by omega), if_pos (by omega)], Or.inl ⟨by omega, rfl, rfl⟩⟩⟩
  refine l_X11_feed C h8 n.toNat 0 iv' av' (by omega) h0 (by omega) ?_
  intro r iv2 av2 g0 g1 g2
  rw [show (n.toNat : Int) = n by omega] at g0 g1 g2
  refine ⟨by rw [if_neg (by omega), if_neg (by omega), g0], Or.inr ⟨by omega, g1, ?_⟩⟩
  rw [g2]
  congr 2
  funext i
  rw [Nat.zero_add]
theorem l_X13_feed {x n : Int} (C : CX Y X RX13 "feed" cX13_feed 5 (some .int) e 0 0) (hx : InL x) (hn : n ≤ 8) {P : PN} : ∀ (m j : Nat) (iv av : IVt), n - j = m → 0 ≤ iv 73 0 → iv 73 0 + m ≤ 1024 →
    (∀ r iv' av', r = iv 73 0 + m → iv' = up2 iv 73 0 (iv 73 0 + m) → av' = upA av 74 (fil (iv 73 0) m (fun i => bm8 (x / 2 ^ (8 * (j + i)))) (av 74)) → P r iv' av') → L_X13_feed_31 Y X P x n j iv av := by
  intro m
  induction m with
  | zero =>
    intro j iv av h1 h2 h3 hP
    refine w_X13_feed_31 C hx (by omega) (by omega) ⟨fun _ _ => ?_, fun h => absurd h (by omega)⟩
    exact hP _ _ _ (by simp) (by simp [up2_self]) (by rw [fil_0 _ _ _ _ (by omega), upA_self])
  | succ m ih =>
    intro j iv av h1 h2 h3 hP
    refine w_X13_feed_31 C hx (by omega) (by omega) ⟨fun h => absurd h (by omega), fun _ _ => ⟨by omega, by omega, by omega, ?_⟩⟩
    rw [show (j : Int) + 1 = ((j + 1 : Nat) : Int) by omega]
    refine ih (j + 1) _ _ (by omega) (by rw [up2_eq]; omega) (by rw [up2_eq]; omega) ?_
    intro r iv' av' g0 g1 g2
    rw [up2_eq] at g0 g1 g2
    refine hP r iv' av' (by omega) (by rw [g1, up2_up2]; congr 1; omega) ?_
    rw [g2, up2_upA, upA_upA, upA_eq]
    congr 1
    have e1 : bm8 (bm8 (x / 2 ^ (8 * (j : Int)).toNat)) = bm8 (x / 2 ^ (8 * (j + 0))) := by
      rw [bm8_bm8, show (8 * (j : Int)).toNat = 8 * (j + 0) by omega]
    rw [← fil_1 (p := iv 73 0) (n := ((m + 1 : Nat) : Int)) h2 (by omega) _ e1]
    rw [show ((m + 1 : Nat) : Int) - 1 = m by omega]
    congr 1
    funext i
    rw [show j + 1 + i = j + (i + 1) by omega]
theorem s_X13_feed {x n : Int} (hx : InL x) (hn : InR n) (h0 : 0 ≤ iv 73 0) (h1 : iv 73 0 ≤ 1024) : OkN Y e mX13_feed [.ref (gl_b Y + 73), .long (i64 x), .int (i32 n)] RV iv av 116
    (fun r iv' av' => r = fdR (iv 73 0) n ∧ ((¬ (1 ≤ n ∧ n ≤ 8 ∧ iv 73 0 + n ≤ 1024) ∧ iv' = iv ∧ av' = av) ∨ ((1 ≤ n ∧ n ≤ 8 ∧ iv 73 0 + n ≤ 1024) ∧ iv' = up2 iv 73 0 (iv 73 0 + n) ∧ av' = upA av 74 (fil (iv 73 0) n (fun i => bm8 (x / 2 ^ (8 * i))) (av 74))))) := by
  unfold fdR
  refine o_X13_feed hn fun X C => ⟨fun h => ⟨by rw [if_pos (by omega)], Or.inl ⟨by omega, rfl, rfl⟩⟩, fun h => ⟨fun h8 _ => ⟨by omega, fun hle => ?_, fun hgt => ⟨by rw [if_neg (by omega), if_pos (by omega)], Or.inl ⟨by omega, rfl, rfl⟩⟩⟩, fun h8 => ⟨by rw [if_pos (by omega)], Or.inl ⟨by omega, rfl, rfl⟩⟩⟩⟩
  refine l_X13_feed C hx h8 n.toNat 0 iv av (by omega) h0 (by omega) ?_
  intro r iv2 av2 g0 g1 g2
  rw [show (n.toNat : Int) = n by omega] at g0 g1 g2
  refine ⟨by rw [if_neg (by omega), if_neg (by omega), g0], Or.inr ⟨by omega, g1, ?_⟩⟩
  rw [g2]
  congr 2
  funext i
  rw [Nat.zero_add]
end SSmall
