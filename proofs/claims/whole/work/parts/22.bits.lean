/-! Bits, codes and how they are read: plain math. -/
def nv (b : Nat → Int) (p : Nat) : Nat → Int
  | 0 => 0
  | k + 1 => nv b p k + b (p + k) * 2 ^ k
def cv (b : Nat → Int) (p : Nat) : Nat → Int
  | 0 => 0
  | l + 1 => 2 * cv b p l + b (p + l)
abbrev Bit (b : Nat → Int) : Prop := ∀ p, b p = 0 ∨ b p = 1
theorem pw0 (k : Nat) : (0 : Int) < 2 ^ k := Int.pow_pos (by decide)
theorem pwS (k : Nat) : (2 : Int) ^ (k + 1) = 2 * 2 ^ k := by rw [Int.pow_succ]; omega
theorem pwL {a b : Nat} (h : a ≤ b) : (2 : Int) ^ a ≤ 2 ^ b := by
  have := Nat.pow_le_pow_right (show 0 < 2 by omega) h
  exact_mod_cast this
theorem pwA (a b : Nat) : (2 : Int) ^ (a + b) = 2 ^ a * 2 ^ b := Int.pow_add _ _ _
theorem nv_in {b : Nat → Int} (hb : Bit b) (p : Nat) : ∀ k, 0 ≤ nv b p k ∧ nv b p k < 2 ^ k := by
  intro k
  induction k with
  | zero => simp [nv]
  | succ k ih =>
    unfold nv
    rw [pwS]
    have := pw0 k
    rcases hb (p + k) with h | h <;> rw [h] <;> omega
theorem cv_in {b : Nat → Int} (hb : Bit b) (p : Nat) : ∀ k, 0 ≤ cv b p k ∧ cv b p k < 2 ^ k := by
  intro k
  induction k with
  | zero => simp [cv]
  | succ k ih =>
    unfold cv
    rw [pwS]
    have := pw0 k
    rcases hb (p + k) with h | h <;> rw [h] <;> omega
theorem cv_ge {b : Nat → Int} (hb : Bit b) (p l : Nat) : ∀ j, cv b p l * 2 ^ j ≤ cv b p (l + j) := by
  intro j
  induction j with
  | zero => simp
  | succ j ih =>
    show _ ≤ 2 * cv b p (l + j) + b (p + (l + j))
    rw [pwS, Int.mul_left_comm]
    rcases hb (p + (l + j)) with h | h <;> rw [h] <;> omega
theorem cn_mono (f : Nat → Int) (v : Int) (m : Nat) : ∀ j, cn f v m ≤ cn f v (m + j) := by
  intro j
  induction j with
  | zero => exact Int.le_refl _
  | succ j ih =>
    show _ ≤ cn f v (m + j) + _
    split <;> omega
theorem cn_mono' (f : Nat → Int) (v : Int) {m j : Nat} (h : m ≤ j) : cn f v m ≤ cn f v j := by
  have := cn_mono f v m (j - m)
  rwa [show m + (j - m) = j by omega] at this
theorem cn_lt {f : Nat → Int} {v : Int} {m j : Nat} (h : m < j) (hv : f m = v) : cn f v m < cn f v j := by
  have h1 := cn_mono' f v (show m + 1 ≤ j by omega)
  have h2 : cn f v (m + 1) = cn f v m + 1 := by
    show cn f v m + _ = _
    rw [if_pos hv]
  omega
theorem ac_ge (f : Nat → Int) (n m : Nat) : ∀ j, ac f n m * 2 ^ j ≤ ac f n (m + j) := by
  intro j
  induction j with
  | zero => simp
  | succ j ih =>
    show _ ≤ 2 * ac f n (m + j) + cn f ((m + j : Nat) + 1) n
    have := (cn_le f ((m + j : Nat) + 1) n).1
    rw [pwS, Int.mul_left_comm]
    omega
theorem ac_ge' (f : Nat → Int) (n : Nat) {m k : Nat} (h : m ≤ k) : ac f n m * 2 ^ (k - m) ≤ ac f n k := by
  have := ac_ge f n m (k - m)
  rwa [show m + (k - m) = k by omega] at this
theorem ac_0 (f : Nat → Int) : ∀ m, ac f 0 m = 0 := by
  intro m
  induction m with
  | zero => rfl
  | succ m ih =>
    show 2 * ac f 0 m + cn f (m + 1) 0 = 0
    rw [ih]
    rfl
theorem ac_succ (f : Nat → Int) (n : Nat) : ∀ m : Nat, ac f (n + 1) m = ac f n m + (if 1 ≤ f n ∧ f n ≤ m then 2 ^ ((m : Int) - f n).toNat else 0) := by
  intro m
  induction m with
  | zero =>
    rw [if_neg (by omega)]
    rfl
  | succ m ih =>
    have e1 : ac f (n + 1) (m + 1) = 2 * ac f (n + 1) m + (cn f (m + 1) n + if f n = (m : Int) + 1 then 1 else 0) := rfl
    have e2 : ac f n (m + 1) = 2 * ac f n m + cn f (m + 1) n := rfl
    rw [e1, e2, ih]
    by_cases h1 : 1 ≤ f n ∧ f n ≤ m
    · rw [if_pos h1, if_neg (by omega), if_pos (by omega), show (((m + 1 : Nat) : Int) - f n).toNat = ((m : Int) - f n).toNat + 1 by omega, pwS]
      omega
    · rw [if_neg h1]
      by_cases h2 : f n = (m : Int) + 1
      · rw [if_pos h2, if_pos (by omega), show (((m + 1 : Nat) : Int) - f n).toNat = 0 by omega]
        simp
        omega
      · rw [if_neg h2, if_neg (by omega)]
        omega
/-- how many symbols have a code -/
def us (f : Nat → Int) : Nat → Int
  | 0 => 0
  | m + 1 => us f m + if 0 < f m then 1 else 0
theorem us_nn (f : Nat → Int) : ∀ n, 0 ≤ us f n ∧ us f n ≤ n := by
  intro n
  induction n with
  | zero => exact ⟨Int.le_refl 0, Int.le_refl 0⟩
  | succ n ih =>
    unfold us
    split <;> omega
theorem us0 {f : Nat → Int} : ∀ n, us f n = 0 → (∀ m, ac f n m = 0) ∧ ∀ s, s < n → f s ≤ 0 := by
  intro n
  induction n with
  | zero => exact fun _ => ⟨ac_0 f, fun s hs => absurd hs (Nat.not_lt_zero _)⟩
  | succ n ih =>
    intro h
    have h0 := us_nn f n
    have e : us f (n + 1) = us f n + if 0 < f n then 1 else 0 := rfl
    by_cases hf : 0 < f n
    · rw [e, if_pos hf] at h
      omega
    · rw [e, if_neg hf] at h
      obtain ⟨i1, i2⟩ := ih (by omega)
      refine ⟨fun m => ?_, fun s hs => ?_⟩
      · rw [ac_succ, i1, if_neg (by omega)]
        rfl
      · by_cases hs2 : s = n
        · subst hs2; omega
        · exact i2 s (by omega)
theorem cn_none {f : Nat → Int} {v : Int} : ∀ n, (∀ s, s < n → f s ≠ v) → cn f v n = 0 := by
  intro n
  induction n with
  | zero => exact fun _ => rfl
  | succ n ih =>
    intro h
    show cn f v n + _ = 0
    rw [ih (fun s hs => h s (by omega)), if_neg (h n (by omega))]
    rfl
theorem us1 {f : Nat → Int} : ∀ n, us f n = 1 → ∃ s, s < n ∧ 1 ≤ f s ∧ (∀ m : Nat, ac f n m = if f s ≤ m then 2 ^ ((m : Int) - f s).toNat else 0) ∧ ∀ v : Int, 1 ≤ v → cn f v n = if f s = v then 1 else 0 := by
  intro n
  induction n with
  | zero =>
    intro h
    have e : us f 0 = 0 := rfl
    omega
  | succ n ih =>
    intro h
    have e : us f (n + 1) = us f n + if 0 < f n then 1 else 0 := rfl
    have e2 : ∀ v, cn f v (n + 1) = cn f v n + if f n = v then 1 else 0 := fun v => rfl
    by_cases hf : 0 < f n
    · rw [e, if_pos hf] at h
      obtain ⟨i1, i2⟩ := us0 n (show us f n = 0 by omega)
      refine ⟨n, by omega, by omega, fun m => ?_, fun v hv => ?_⟩
      · rw [ac_succ, i1]
        by_cases hm : f n ≤ m
        · rw [if_pos (by omega), if_pos hm]
          omega
        · rw [if_neg (by omega), if_neg hm]
          rfl
      · rw [e2, cn_none n (fun s hs => by have := i2 s hs; omega)]
        omega
    · rw [e, if_neg hf] at h
      obtain ⟨s, h1, h2, h3, h4⟩ := ih (by omega)
      refine ⟨s, by omega, h2, fun m => ?_, fun v hv => ?_⟩
      · rw [ac_succ, h3, if_neg (show ¬ (1 ≤ f n ∧ f n ≤ m) by omega)]
        omega
      · rw [e2, h4 v hv, if_neg (show ¬ f n = v by omega)]
        omega
/-- lengths that make codes -/
def okC (f : Nat → Int) (n : Nat) (q : Prop) : Prop := ac f n 15 = 32768 ∨ (us f n = 1 ∧ ac f n 15 = 16384) ∨ (us f n = 0 ∧ q)
theorem okC.ac15 {f : Nat → Int} {n : Nat} {q : Prop} (h : okC f n q) : ac f n 15 ≤ 32768 := by
  rcases h with h | h | h
  · omega
  · omega
  · rw [(us0 n h.1).1]
    omega
theorem okC.le {f : Nat → Int} {n : Nat} {q : Prop} (h : okC f n q) {m : Nat} (hm : m ≤ 15) : ac f n m ≤ 2 ^ m := by
  have h1 := h.ac15
  have h2 := ac_ge' f n hm
  have e : (32768 : Int) = 2 ^ m * 2 ^ (15 - m) := by
    rw [← pwA, show m + (15 - m) = 15 by omega]
    rfl
  exact Int.le_of_mul_le_mul_right (show ac f n m * 2 ^ (15 - m) ≤ 2 ^ m * 2 ^ (15 - m) by omega) (pw0 _)
theorem pw14 {k : Nat} (h : (2 : Int) ^ k = 16384) : k = 14 := by
  rcases Nat.lt_trichotomy k 14 with h1 | h1 | h1
  · have := pwL (show k ≤ 13 by omega)
    have e : (2 : Int) ^ 13 = 8192 := rfl
    omega
  · exact h1
  · have := pwL (show 15 ≤ k by omega)
    have e : (2 : Int) ^ 15 = 32768 := rfl
    omega
theorem okC_iff {f : Nat → Int} {n : Nat} {q : Prop} : okC f n q ↔ ac f n 15 = 32768 ∨ (us f n = 1 ∧ cn f 1 n = 1) ∨ (us f n = 0 ∧ q) := by
  unfold okC
  have key : us f n = 1 → (ac f n 15 = 16384 ↔ cn f 1 n = 1) := by
    intro h
    obtain ⟨s, h1, h2, h3, h4⟩ := us1 n h
    rw [h3, h4 1 (by omega)]
    constructor
    · intro g
      split at g
      · have := pw14 g
        rw [if_pos (by omega)]
      · omega
    · intro g
      split at g
      · rename_i hf
        rw [hf]
        rfl
      · omega
  constructor
  · rintro (h | ⟨h1, h2⟩ | h)
    · exact Or.inl h
    · exact Or.inr (Or.inl ⟨h1, (key h1).mp h2⟩)
    · exact Or.inr (Or.inr h)
  · rintro (h | ⟨h1, h2⟩ | h)
    · exact Or.inl h
    · exact Or.inr (Or.inl ⟨h1, (key h1).mpr h2⟩)
    · exact Or.inr (Or.inr h)
/-- the symbol with a length and a rank among those of this length -/
def sy (f : Nat → Int) (l : Int) (r : Int) : Nat → Nat
  | 0 => 0
  | m + 1 => if f m = l ∧ cn f l m = r then m else sy f l r m
theorem sy_eq {f : Nat → Int} {l : Int} {s : Nat} (hs : f s = l) : ∀ n, s < n → sy f l (cn f l s) n = s := by
  intro n
  induction n with
  | zero => exact fun h => absurd h (Nat.not_lt_zero _)
  | succ n ih =>
    intro h
    unfold sy
    by_cases h1 : n = s
    · subst h1
      rw [if_pos ⟨hs, rfl⟩]
    · rw [if_neg, ih (by omega)]
      rintro ⟨h2, h3⟩
      have := cn_lt (show s < n by omega) hs
      omega
theorem sy_ex {f : Nat → Int} {l r : Int} (h0 : 0 ≤ r) : ∀ n, r < cn f l n → ∃ s, s < n ∧ f s = l ∧ cn f l s = r := by
  intro n
  induction n with
  | zero =>
    intro h
    have e : cn f l 0 = 0 := rfl
    omega
  | succ n ih =>
    intro h
    have e : cn f l (n + 1) = cn f l n + if f n = l then 1 else 0 := rfl
    by_cases h1 : r < cn f l n
    · obtain ⟨s, g1, g2, g3⟩ := ih h1
      exact ⟨s, by omega, g2, g3⟩
    · split at e
      · rename_i hf
        exact ⟨n, by omega, hf, by omega⟩
      · omega
/-- the next symbol, and the place behind its code -/
def dec (b : Nat → Int) (N : Nat) (f : Nat → Int) (n p : Nat) : Nat → Nat → Option (Nat × Nat)
  | 0, _ => none
  | m + 1, l => if p + l < N then (if cv b p (l + 1) < ac f n (l + 1) then some (sy f ((l : Int) + 1) (cv b p (l + 1) - 2 * ac f n l) n, p + l + 1) else dec b N f n p m (l + 1)) else none
def sym (b : Nat → Int) (N : Nat) (f : Nat → Int) (n p : Nat) : Option (Nat × Nat) := dec b N f n p 15 0
theorem dec_some {b : Nat → Int} (hb : Bit b) {N : Nat} {f : Nat → Int} {n p : Nat} : ∀ (m l : Nat) {s p' : Nat}, ac f n l ≤ cv b p l → dec b N f n p m l = some (s, p') → s < n ∧ p < p' ∧ p' ≤ N ∧ p' ≤ p + l + m ∧ 1 ≤ f s ∧ f s ≤ l + m := by
  intro m
  induction m with
  | zero =>
    intro l s p' _ h
    simp [dec] at h
  | succ m ih =>
    intro l s p' hl h
    unfold dec at h
    split at h
    · split at h
      · rename_i h1 h2
        have h3 : ac f n (l + 1) = 2 * ac f n l + cn f ((l : Int) + 1) n := rfl
        have h4 : cv b p (l + 1) = 2 * cv b p l + b (p + l) := rfl
        have h5 := hb (p + l)
        obtain ⟨s', g1, g2, g3⟩ := sy_ex (f := f) (l := (l : Int) + 1) (r := cv b p (l + 1) - 2 * ac f n l) (by omega) n (by omega)
        have g4 := sy_eq g2 n g1
        rw [g3] at g4
        rw [g4] at h
        have h6 := Option.some.inj h
        have h7 := congrArg Prod.fst h6
        have h8 := congrArg Prod.snd h6
        dsimp only at h7 h8
        subst h7
        omega
      · rename_i h1 h2
        have := ih (l + 1) (by omega) h
        omega
    · simp at h
theorem sym_some {b : Nat → Int} (hb : Bit b) {N : Nat} {f : Nat → Int} {n p s p' : Nat} (h : sym b N f n p = some (s, p')) : s < n ∧ p < p' ∧ p' ≤ N ∧ p' ≤ p + 15 ∧ 1 ≤ f s ∧ f s ≤ 15 := by
  have := dec_some hb 15 0 (by show (0 : Int) ≤ 0; omega) h
  omega
theorem dec_none {b : Nat → Int} (hb : Bit b) {N : Nat} {f : Nat → Int} {n p : Nat} : ∀ (m l : Nat), l + m = 15 → ac f n 15 ≤ cv b p l * 2 ^ m → dec b N f n p m l = none := by
  intro m
  induction m with
  | zero => exact fun l _ _ => rfl
  | succ m ih =>
    intro l hl h
    unfold dec
    split
    · have h1 := cv_ge hb p l 1
      have h2 := ac_ge' f n (show l + 1 ≤ 15 by omega)
      have hp := pw0 m
      rw [show 15 - (l + 1) = m by omega] at h2
      have h3 : cv b p l * 2 ^ (m + 1) = (cv b p l * 2 ^ 1) * 2 ^ m := by
        rw [Int.mul_assoc, ← pwA]
        congr 2
        omega
      have h4 : (cv b p l * 2 ^ 1) * 2 ^ m ≤ cv b p (l + 1) * 2 ^ m := Int.mul_le_mul_of_nonneg_right h1 (by omega)
      have h5 : ac f n (l + 1) ≤ cv b p (l + 1) := Int.le_of_mul_le_mul_right (show ac f n (l + 1) * 2 ^ m ≤ cv b p (l + 1) * 2 ^ m by omega) hp
      rw [if_neg (by omega)]
      exact ih (l + 1) (by omega) (by omega)
    · rfl
