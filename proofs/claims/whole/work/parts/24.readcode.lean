/-! The class' reader of bits, and its codes for unpacking. -/
/-- outside of these keys nothing has changed -/
def Off (L : List Nat) (f g : IVt) : Prop := ∀ k, k ∉ L → g k = f k
theorem Off.rf (L : List Nat) (f : IVt) : Off L f f := fun _ _ => rfl
theorem Off.tr {L : List Nat} {f g h : IVt} (a : Off L f g) (b : Off L g h) : Off L f h := fun k hk => (b k hk).trans (a k hk)
theorem Off.mono {L L' : List Nat} {f g : IVt} (a : Off L f g) (h : ∀ k, k ∈ L → k ∈ L') : Off L' f g := fun k hk => a k fun hk' => hk (h k hk')
theorem Off.up {L : List Nat} {f g : IVt} (a : Off L f g) {k j : Nat} {v : Int} (hk : k ∈ L) : Off L f (up2 g k j v) := fun k' hk' => by
  rw [up2_ne (fun h => hk' (by rw [h]; exact hk))]
  exact a k' hk'
theorem Off.upA {L : List Nat} {f g : IVt} (a : Off L f g) {k : Nat} {G : Nat → Int} (hk : k ∈ L) : Off L f (upA g k G) := fun k' hk' => by
  rw [upA_ne (fun h => hk' (by rw [h]; exact hk))]
  exact a k' hk'
/-- the bits of a stretch of a row -/
def BB (g : Nat → Int) (fr N p : Nat) : Int := if p < N then g (fr + p / 8) / 2 ^ (p % 8) % 2 else 0
theorem BB_bit (g : Nat → Int) (fr N : Nat) : Bit (BB g fr N) := fun p => by
  unfold BB
  split <;> omega
theorem BB_out {g : Nat → Int} {fr N p : Nat} (h : N ≤ p) : BB g fr N p = 0 := if_neg (by omega)
theorem bit256 (x : Int) {j : Nat} (hj : j < 8) : x % 256 / 2 ^ j % 2 = x / 2 ^ j % 2 := by
  rcases (show j = 0 ∨ j = 1 ∨ j = 2 ∨ j = 3 ∨ j = 4 ∨ j = 5 ∨ j = 6 ∨ j = 7 by omega) with rfl | rfl | rfl | rfl | rfl | rfl | rfl | rfl
  · show x % 256 / 1 % 2 = x / 1 % 2; omega
  · show x % 256 / 2 % 2 = x / 2 % 2; omega
  · show x % 256 / 4 % 2 = x / 4 % 2; omega
  · show x % 256 / 8 % 2 = x / 8 % 2; omega
  · show x % 256 / 16 % 2 = x / 16 % 2; omega
  · show x % 256 / 32 % 2 = x / 32 % 2; omega
  · show x % 256 / 64 % 2 = x / 64 % 2; omega
  · show x % 256 / 128 % 2 = x / 128 % 2; omega
/-- the class' reader at place p of N bits; ms: whether bits were missing -/
def CS (iv : IVt) (fr N p : Nat) (ms : Int) : Prop := iv 72 1 = ((fr + p / 8 : Nat) : Int) ∧ iv 72 2 = ((fr + N / 8 : Nat) : Int) ∧ iv 72 3 = ((p % 8 : Nat) : Int) ∧ iv 72 4 = ms ∧ p ≤ N ∧ N % 8 = 0 ∧ fr + N / 8 ≤ 131072 ∧ (ms = 0 ∨ ms = 1)
theorem CS.of {iv iv' : IVt} {fr N p : Nat} {ms : Int} (h : CS iv fr N p ms) (e : iv' 72 = iv 72) : CS iv' fr N p ms := by
  unfold CS at *
  rw [e]
  exact h
section SBits
variable {Y : Gl} {X : Cx} {e : Nat} {iv av : IVt} {fr N p : Nat} {ms : Int}
theorem s_X1_begin (h : 8 * (N / 8) = N) (h2 : fr + N / 8 ≤ 131072) : OkN Y e mX1_begin [.ref (gl_b Y + 72), .int (i32 (fr : Int)), .int (i32 ((fr + N / 8 : Nat) : Int))] RV iv av 116 (fun r iv' av' => av' = av ∧ Off [72] iv iv' ∧ CS iv' fr N 0 0) := by
  refine o_X1_begin (by omega) (by omega) ⟨rfl, ((((Off.rf _ _).up (by decide)).up (by decide)).up (by decide)).up (by decide), ?_⟩
  refine ⟨?_, rfl, rfl, rfl, by omega, by omega, h2, Or.inl rfl⟩
  show (fr : Int) = ((fr + 0 / 8 : Nat) : Int)
  simp
theorem s_X1_isMissing (h : CS iv fr N p ms) : OkN Y e mX1_isMissing [.ref (gl_b Y + 72)] RV iv av 116 (Same iv av ms) := by
  refine o_X1_isMissing fun _ => ?_
  have h4 := h.2.2.2.1
  have h5 := h.2.2.2.2.2.2.2
  rw [h4]
  exact ⟨by omega, rfl, rfl, rfl⟩
theorem s_X1_bytesLeft (h : CS iv fr N p ms) : OkN Y e mX1_bytesLeft [.ref (gl_b Y + 72)] RV iv av 116 (Same iv av (((N / 8 : Nat) : Int) - ((p / 8 : Nat) : Int))) := by
  refine o_X1_bytesLeft fun _ _ => ?_
  obtain ⟨h1, h2, h3, h4, h5, h6, h7, h8⟩ := h
  rw [h1, h2]
  refine ⟨by omega, ?_, rfl, rfl⟩
  omega
theorem s_X1_endByte (h : CS iv fr N p ms) : OkN Y e mX1_endByte [.ref (gl_b Y + 72)] RV iv av 116 (fun r iv' av' => av' = av ∧ Off [72] iv iv' ∧ CS iv' fr N ((p + 7) / 8 * 8) ms) := by
  obtain ⟨h1, h2, h3, h4, h5, h6, h7, h8⟩ := h
  refine o_X1_endByte fun _ => ⟨fun h => ?_, fun h _ => ⟨by omega, rfl, ((Off.rf _ _).up (by decide)).up (by decide), ?_⟩⟩
  · refine ⟨rfl, Off.rf _ _, ?_⟩
    rw [show (p + 7) / 8 * 8 = p by omega]
    exact ⟨h1, h2, h3, h4, h5, h6, h7, h8⟩
  · refine ⟨?_, h2, ?_, h4, by omega, h6, h7, h8⟩
    · show iv 72 1 + 1 = _
      omega
    · show (0 : Int) = _
      omega
theorem s_X1_bit (h : CS iv fr N p ms) (hr : fr + N / 8 ≤ iv 12 1) : OkN Y (e + 1) mX1_bit [.ref (gl_b Y + 72)] RV iv av 116
    (fun r iv' av' => av' = av ∧ Off [72] iv iv' ∧ r = BB (av 13) fr N p ∧ CS iv' fr N (min (p + 1) N) (if p < N then ms else 1)) := by
  obtain ⟨h1, h2, h3, h4, h5, h6, h7, h8⟩ := h
  refine o_X1_bit fun _ _ => ⟨fun hlt => OkN.mono (s_X2_at bk_12 (by omega)) ?_, fun hge => ?_⟩
  · rintro r iv' av' hR ⟨rfl, rfl, rfl⟩ hr2 hr3
    have hp : p < N := by omega
    have e1 : b_at iv' av' 12 (iv' 72 1) / 2 ^ (iv' 72 3).toNat % 2 = BB (av' 13) fr N p := by
      have e2 : b_at iv' av' 12 (iv' 72 1) = av' 13 (iv' 72 1).toNat % 256 := if_pos ⟨by omega, by omega, by show iv' 72 1 < ((131072 : Nat) : Int); omega⟩
      unfold BB
      rw [e2, if_pos hp, h1, h3, Int.toNat_natCast, Int.toNat_natCast, bit256 _ (by omega)]
    refine ⟨by omega, by omega, fun hne => ?_, fun heq _ => ⟨by omega, ?_⟩⟩
    · refine ⟨rfl, (Off.rf _ _).up (by decide), e1, ?_⟩
      rw [if_pos hp]
      refine ⟨?_, h2, ?_, h4, by omega, h6, h7, h8⟩
      · show iv' 72 1 = _
        omega
      · show iv' 72 3 + 1 = _
        omega
    · refine ⟨rfl, (((Off.rf _ _).up (by decide)).up (by decide)).up (by decide), e1, ?_⟩
      rw [if_pos hp]
      refine ⟨?_, h2, ?_, h4, by omega, h6, h7, h8⟩
      · show iv' 72 1 + 1 = _
        omega
      · show (0 : Int) = _
        omega
  · have hp : ¬ p < N := by omega
    refine ⟨rfl, (Off.rf _ _).up (by decide), (BB_out (by omega)).symm, ?_⟩
    rw [if_neg hp]
    refine ⟨?_, h2, ?_, rfl, by omega, h6, h7, Or.inr rfl⟩
    · show iv 72 1 = _
      omega
    · show iv 72 3 = _
      omega
theorem l_X1_bits (C : CX Y X RX1 "bits" cX1_bits 4 (some .int) (e + 2) 0 0) {k : Nat} (hk : k ≤ 16) {iv0 : IVt} (hr : fr + N / 8 ≤ iv0 12 1) {P : PN} (hP : ∀ iv', Off [72] iv0 iv' → CS iv' fr N (min (p + k) N) (if p + k ≤ N then ms else 1) → P (nv (BB (av 13) fr N) p k) iv' av) :
    ∀ (m j : Nat) (iv : IVt), j + m = k → Off [72] iv0 iv → CS iv fr N (min (p + j) N) (if p + j ≤ N then ms else 1) → L_X1_bits_4 Y X P k (nv (BB (av 13) fr N) p j) j iv av := by
  have hnv : ∀ j, j ≤ 16 → 0 ≤ nv (BB (av 13) fr N) p j ∧ nv (BB (av 13) fr N) p j < 2 ^ j ∧ (2 : Int) ^ j ≤ 65536 := fun j hj => by
    have h1 := nv_in (BB_bit (av 13) fr N) p j
    have h2 := pwL (show j ≤ 16 by omega)
    have e : (2 : Int) ^ 16 = 65536 := rfl
    omega
  intro m
  induction m with
  | zero =>
    intro j iv h1 h2 h3
    have hj : j = k := by omega
    subst hj
    have := hnv j (by omega)
    exact w_X1_bits_4 C (by omega) (by omega) (by omega) ⟨fun _ => hP iv h2 h3, fun h => absurd h (by omega)⟩
  | succ m ih =>
    intro j iv h1 h2 h3
    have hj := hnv j (by omega)
    have hj1 := hnv (j + 1) (by omega)
    refine w_X1_bits_4 C (by omega) (by omega) (by omega) ⟨fun h => absurd h (by omega), fun _ => OkN.mono (s_X1_bit h3 (by rw [h2 12 (by decide)]; exact hr)) ?_⟩
    rintro r iv' av' hR ⟨rfl, g2, rfl, g4⟩ hr2
    have hb := BB_bit (av' 13) fr N (p + j)
    have eb : BB (av' 13) fr N (min (p + j) N) = BB (av' 13) fr N (p + j) := by
      by_cases hh : p + j ≤ N
      · rw [show min (p + j) N = p + j by omega]
      · rw [BB_out (show N ≤ min (p + j) N by omega), BB_out (show N ≤ p + j by omega)]
    have e1 : g_or (nv (BB (av' 13) fr N) p j) (BB (av' 13) fr N (min (p + j) N) * 2 ^ (j : Int).toNat) = nv (BB (av' 13) fr N) p (j + 1) := by
      have e2 : nv (BB (av' 13) fr N) p (j + 1) = nv (BB (av' 13) fr N) p j + BB (av' 13) fr N (p + j) * 2 ^ j := rfl
      rw [eb, Int.toNat_natCast, e2]
      exact g_or_add hj.1 hj.2.1 (by omega) (by omega)
    rw [e1, show (j : Int) + 1 = ((j + 1 : Nat) : Int) by omega]
    refine ⟨by omega, ih (j + 1) iv' (by omega) (h2.tr g2) ?_⟩
    have e3 : min (min (p + j) N + 1) N = min (p + (j + 1)) N := by omega
    rw [e3] at g4
    have e4 : (if min (p + j) N < N then (if p + j ≤ N then ms else 1) else 1) = (if p + (j + 1) ≤ N then ms else 1) := by
      by_cases hh : p + (j + 1) ≤ N
      · rw [if_pos (by omega), if_pos (by omega), if_pos hh]
      · rw [if_neg (by omega), if_neg hh]
    rw [e4] at g4
    exact g4
theorem s_X1_bits (h : CS iv fr N p ms) {k : Nat} (hk : k ≤ 16) (hr : fr + N / 8 ≤ iv 12 1) : OkN Y (e + 2) mX1_bits [.ref (gl_b Y + 72), .int (i32 (k : Int))] RV iv av 116
    (fun r iv' av' => av' = av ∧ Off [72] iv iv' ∧ r = nv (BB (av 13) fr N) p k ∧ CS iv' fr N (min (p + k) N) (if p + k ≤ N then ms else 1)) := by
  refine o_X1_bits fun X C => ?_
  have hp := h.2.2.2.2.1
  refine l_X1_bits (iv0 := iv) (p := p) (ms := ms) C hk hr (fun iv' g1 g2 => ⟨rfl, g1, rfl, g2⟩) k 0 iv (by omega) (Off.rf _ _) ?_
  rw [show min (p + 0) N = p by omega, if_pos (by omega)]
  exact h
end SBits
/-- how many symbols have codes up to a length -/
def bf (f : Nat → Int) (n : Nat) : Nat → Int
  | 0 => 0
  | l + 1 => bf f n l + cn f ((l : Int) + 1) n
theorem bf_mono (f : Nat → Int) (n l : Nat) : ∀ j, bf f n l ≤ bf f n (l + j) := by
  intro j
  induction j with
  | zero => exact Int.le_refl _
  | succ j ih =>
    show _ ≤ bf f n (l + j) + cn f (((l + j : Nat) : Int) + 1) n
    have := (cn_le f (((l + j : Nat) : Int) + 1) n).1
    omega
theorem bf_mono' (f : Nat → Int) (n : Nat) {l j : Nat} (h : l ≤ j) : bf f n l ≤ bf f n j := by
  have := bf_mono f n l (j - l)
  rwa [show l + (j - l) = j by omega] at this
theorem bf_succ (f : Nat → Int) (n : Nat) : ∀ l : Nat, bf f (n + 1) l = bf f n l + if 1 ≤ f n ∧ f n ≤ l then 1 else 0 := by
  intro l
  induction l with
  | zero => rw [if_neg (by omega)]; rfl
  | succ l ih =>
    have e1 : bf f (n + 1) (l + 1) = bf f (n + 1) l + (cn f ((l : Int) + 1) n + if f n = (l : Int) + 1 then 1 else 0) := rfl
    have e2 : bf f n (l + 1) = bf f n l + cn f ((l : Int) + 1) n := rfl
    rw [e1, e2, ih]
    by_cases h1 : 1 ≤ f n ∧ f n ≤ l
    · rw [if_pos h1, if_neg (by omega), if_pos (by omega)]
      omega
    · rw [if_neg h1]
      by_cases h2 : f n = (l : Int) + 1
      · rw [if_pos h2, if_pos (by omega)]
        omega
      · rw [if_neg h2, if_neg (by omega)]
        omega
theorem bf_le (f : Nat → Int) (l : Nat) : ∀ n, 0 ≤ bf f n l ∧ bf f n l ≤ n := by
  intro n
  induction n with
  | zero =>
    have : bf f 0 l = 0 := by
      induction l with
      | zero => rfl
      | succ l ih =>
        show bf f 0 l + 0 = 0
        omega
    omega
  | succ n ih =>
    rw [bf_succ]
    split <;> omega
/-- where a symbol stands among those that are sorted -/
def rk (f : Nat → Int) (n s : Nat) : Int := bf f n ((f s).toNat - 1) + cn f (f s) s
theorem rk_lt {f : Nat → Int} {n s : Nat} (hs : s < n) (h1 : 1 ≤ f s) : 0 ≤ rk f n s ∧ rk f n s < bf f n (f s).toNat := by
  unfold rk
  have h2 := (bf_le f ((f s).toNat - 1) n).1
  have h3 := (cn_le f (f s) s).1
  have h4 := cn_lt hs (rfl : f s = f s)
  obtain ⟨q, hq⟩ : ∃ q : Nat, (f s).toNat = q + 1 := ⟨(f s).toNat - 1, by omega⟩
  have e : bf f n (f s).toNat = bf f n q + cn f (f s) n := by
    rw [hq]
    show bf f n q + cn f ((q : Int) + 1) n = _
    rw [show (q : Int) + 1 = f s by omega]
  rw [e, hq]
  simp only [Nat.add_sub_cancel]
  rw [hq] at h2
  simp only [Nat.add_sub_cancel] at h2
  omega
theorem rk_ne {f : Nat → Int} {n s t : Nat} (hs : s < n) (ht : t < n) (h1 : 1 ≤ f s) (h2 : 1 ≤ f t) (hne : s ≠ t) : rk f n s ≠ rk f n t := by
  have key : ∀ s t, s < n → t < n → 1 ≤ f s → 1 ≤ f t → f s < f t → rk f n s < rk f n t := by
    intro s t hs ht h1 h2 hlt
    have a := (rk_lt hs h1).2
    have b := bf_mono' f n (show (f s).toNat ≤ (f t).toNat - 1 by omega)
    have c := (cn_le f (f t) t).1
    have d : rk f n t = bf f n ((f t).toNat - 1) + cn f (f t) t := rfl
    omega
  rcases Int.lt_trichotomy (f s) (f t) with h | h | h
  · have := key s t hs ht h1 h2 h
    omega
  · have d1 : rk f n t = bf f n ((f t).toNat - 1) + cn f (f t) t := rfl
    have d2 : rk f n s = bf f n ((f s).toNat - 1) + cn f (f s) s := rfl
    rcases Nat.lt_or_gt_of_ne hne with g | g
    · have := cn_lt g h
      rw [h] at d2
      omega
    · have := cn_lt g (rfl : f t = f t)
      rw [h] at d2
      omega
  · have := key t s ht hs h2 h1 h
    omega
/-- the class' code for unpacking -/
def RC (av : IVt) (k : Nat) (f : Nat → Int) (n : Nat) : Prop := n ≤ 288 ∧ (∀ l : Nat, 1 ≤ l → l ≤ 15 → av (k + 1) l = cn f l n) ∧ ∀ s : Nat, s < n → 1 ≤ f s → f s ≤ 15 → av (k + 2) (rk f n s).toNat = s
theorem RC.of {av av' : IVt} {k : Nat} {f : Nat → Int} {n : Nat} (h : RC av k f n) (e1 : av' (k + 1) = av (k + 1)) (e2 : av' (k + 2) = av (k + 2)) : RC av' k f n := by
  unfold RC at *
  rw [e1, e2]
  exact h
/-- how a symbol was read -/
def SymR (d : Option (Nat × Nat)) (ms r : Int) (p' : Nat) (ms' : Int) : Prop := (∃ s q, d = some (s, q) ∧ r = s ∧ p' = q ∧ ms' = ms) ∨ (d = none ∧ (ms' = 1 ∨ (r = -1 ∧ ms' = ms)))
section SReadCode
variable {Y : Gl} {X : Cx} {e : Nat} {iv av : IVt} {fr N p : Nat} {ms : Int} {k : Nat} {f : Nat → Int} {n : Nat}
theorem l_X9_symbol (C : CX Y X RX9 "symbol" cX9_symbol 7 (some .int) (e + 2) 0 0) (K : ReadCK k) (hc : RC av k f n) {q : Prop} (hok : okC f n q) (hpN : p ≤ N) {iv0 : IVt} (hr : fr + N / 8 ≤ iv0 12 1) {P : PN} :
    ∀ (m l : Nat) (iv : IVt), l + m = 15 → Off [72] iv0 iv → CS iv fr N (min (p + l) N) (if p + l ≤ N then ms else 1) → ac f n l ≤ cv (BB (av 13) fr N) p l →
    (∀ r iv' p' ms', Off [72] iv0 iv' → CS iv' fr N p' ms' → p ≤ p' → SymR (dec (BB (av 13) fr N) N f n p m l) ms r p' ms' → P r iv' av) → L_X9_symbol_10 Y X P k (2 * cv (BB (av 13) fr N) p l) (2 * ac f n l) (bf f n l) ((l : Int) + 1) iv av := by
  have hB := BB_bit (av 13) fr N
  intro m
  induction m with
  | zero =>
    intro l iv h1 h2 h3 h4 hP
    refine w_X9_symbol_10 C K (by omega) ⟨fun _ => ?_, fun h => absurd h (by omega)⟩
    by_cases hh : p + l ≤ N
    · rw [if_pos hh] at h3
      exact hP _ _ _ _ h2 h3 (by omega) (Or.inr ⟨rfl, Or.inr ⟨rfl, rfl⟩⟩)
    · rw [if_neg hh] at h3
      exact hP _ _ _ _ h2 h3 (by omega) (Or.inr ⟨rfl, Or.inl rfl⟩)
  | succ m ih =>
    intro l iv h1 h2 h3 h4 hP
    refine w_X9_symbol_10 C K (by omega) ⟨fun h => absurd h (by omega), fun _ => OkN.mono (s_X1_bit h3 (by rw [h2 12 (by decide)]; exact hr)) ?_⟩
    rintro r iv' av' hR ⟨rfl, g2, rfl, g4⟩ hr2
    have eb : BB (av' 13) fr N (min (p + l) N) = BB (av' 13) fr N (p + l) := by
      by_cases hh : p + l ≤ N
      · rw [show min (p + l) N = p + l by omega]
      · rw [BB_out (show N ≤ min (p + l) N by omega), BB_out (show N ≤ p + l by omega)]
    have ecv : cv (BB (av' 13) fr N) p (l + 1) = 2 * cv (BB (av' 13) fr N) p l + BB (av' 13) fr N (p + l) := rfl
    have hcv := cv_in hB p l
    have hpl := pwL (show l ≤ 15 by omega)
    have e15 : (2 : Int) ^ 15 = 32768 := rfl
    have hb := hB (p + l)
    have eor : g_or (2 * cv (BB (av' 13) fr N) p l) (BB (av' 13) fr N (min (p + l) N)) = cv (BB (av' 13) fr N) p (l + 1) := by
      have := g_or_add (a := BB (av' 13) fr N (p + l)) (c := cv (BB (av' 13) fr N) p l) (p := 1) (by omega) (by omega) hcv.1 (by omega)
      rw [eb, ecv]
      unfold g_or at this ⊢
      rw [Int32.or_comm]
      rw [show (2 : Int) ^ 1 = 2 from rfl, Int.mul_comm _ 2] at this
      rw [this]
      omega
    rw [eor]
    have eac : ac f n (l + 1) = 2 * ac f n l + cn f ((l : Int) + 1) n := rfl
    have hacle := hok.le (show l ≤ 15 by omega)
    have hacle1 := hok.le (show l + 1 ≤ 15 by omega)
    have hpl1 := pwL (show l + 1 ≤ 15 by omega)
    have hac0 := (ac_le f n l).1
    have hbf := bf_le f l n
    have hn := hc.1
    have ecn : av' (k + 1) ((l : Int) + 1).toNat = cn f ((l : Int) + 1) n := by
      rw [show ((l : Int) + 1).toNat = l + 1 by omega, hc.2.1 (l + 1) (by omega) (by omega)]
      rfl
    rw [ecn]
    have e3 : min (min (p + l) N + 1) N = min (p + (l + 1)) N := by omega
    have e4 : (if min (p + l) N < N then (if p + l ≤ N then ms else 1) else 1) = (if p + (l + 1) ≤ N then ms else 1) := by
      by_cases hh : p + (l + 1) ≤ N
      · rw [if_pos (by omega), if_pos (by omega), if_pos hh]
      · rw [if_neg (by omega), if_neg hh]
    rw [e3, e4] at g4
    have hcv1 := cv_in hB p (l + 1)
    refine ⟨by omega, fun _ => ⟨by omega, fun hle => ?_, fun hgt => ⟨by omega, fun h => absurd h (by omega), fun _ => ⟨fun h => ?_, fun h288 => ⟨by omega, fun _ => ?_⟩⟩⟩⟩⟩
    · have e5 : (2 * ac f n l + cn f ((l : Int) + 1) n) * 2 = 2 * ac f n (l + 1) := by omega
      have e6 : bf f n l + cn f ((l : Int) + 1) n = bf f n (l + 1) := rfl
      rw [e5, e6, Int.mul_comm _ 2, show (l : Int) + 1 + 1 = ((l + 1 : Nat) : Int) + 1 by omega]
      refine ih (l + 1) iv' (by omega) (h2.tr g2) g4 (by omega) ?_
      intro r iv2 p' ms' a1 a2 a3 a4
      refine hP r iv2 p' ms' a1 a2 a3 ?_
      by_cases hh : p + l < N
      · have : dec (BB (av' 13) fr N) N f n p (m + 1) l = dec (BB (av' 13) fr N) N f n p m (l + 1) := by
          rw [dec, if_pos hh, if_neg (by omega)]
        rw [this]
        exact a4
      · have h5 : dec (BB (av' 13) fr N) N f n p (m + 1) l = none := by rw [dec, if_neg hh]
        have h6 : dec (BB (av' 13) fr N) N f n p m (l + 1) = none := by
          cases m with
          | zero => rfl
          | succ m => rw [dec, if_neg (by omega)]
        rw [h6] at a4
        rw [h5]
        exact a4
    · exfalso
      have h1 := bf_le f (l + 1) n
      have h2 : bf f n (l + 1) = bf f n l + cn f ((l : Int) + 1) n := rfl
      omega
    · obtain ⟨s, s1, s2, s3⟩ := sy_ex (f := f) (l := (l : Int) + 1) (r := cv (BB (av' 13) fr N) p (l + 1) - 2 * ac f n l) (by omega) n (by omega)
      have s4 := sy_eq s2 n s1
      rw [s3] at s4
      have erk : rk f n s = bf f n l + (cv (BB (av' 13) fr N) p (l + 1) - 2 * ac f n l) := by
        unfold rk
        rw [s2, show ((l : Int) + 1).toNat - 1 = l by omega, s3]
      have hs := hc.2.2 s s1 (by omega) (by omega)
      rw [erk] at hs
      rw [hs]
      by_cases hh : p + (l + 1) ≤ N
      · rw [if_pos hh] at g4
        refine hP _ _ _ _ (h2.tr g2) g4 (by omega) (Or.inl ⟨s, p + l + 1, ?_, rfl, by omega, rfl⟩)
        rw [dec, if_pos (by omega), if_pos (by omega), s4]
      · rw [if_neg hh] at g4
        refine hP _ _ _ _ (h2.tr g2) g4 (by omega) (Or.inr ⟨?_, Or.inl rfl⟩)
        rw [dec, if_neg (by omega)]
theorem s_X9_symbol (K : ReadCK k) (h : CS iv fr N p ms) (hc : RC av k f n) {q : Prop} (hok : okC f n q) (hr : fr + N / 8 ≤ iv 12 1) : OkN Y (e + 2) mX9_symbol [.ref (gl_b Y + k), .ref (gl_b Y + 72)] RV iv av 116
    (fun r iv' av' => av' = av ∧ Off [72] iv iv' ∧ ∃ p' ms', CS iv' fr N p' ms' ∧ p ≤ p' ∧ SymR (sym (BB (av 13) fr N) N f n p) ms r p' ms') := by
  refine o_X9_symbol K fun X C => ?_
  have hp := h.2.2.2.2.1
  refine l_X9_symbol (ms := ms) (iv0 := iv) C K hc hok hp hr 15 0 iv (by omega) (Off.rf _ _) ?_ (Int.le_refl 0) ?_
  · rw [show min (p + 0) N = p by omega, if_pos (by omega)]
    exact h
  · intro r iv' p' ms' g1 g2 g3 g4
    exact ⟨rfl, g1, p', ms', g2, g3, g4⟩
end SReadCode
