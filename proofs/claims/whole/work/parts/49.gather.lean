/-! Symbols of lengths and distances, counting tokens, the class's gathering. -/
def lgo (n : Nat) : Nat → Nat → Nat
  | 0, s => s
  | m + 1, s => if lbase (s + 1) ≤ n then lgo n m (s + 1) else s
/-- a length's symbol -/
def lsy (n : Nat) : Nat := if n = 258 then 285 else lgo n 27 257
def dgo (n : Nat) : Nat → Nat → Nat
  | 0, s => s
  | m + 1, s => if dbase (s + 1) ≤ n then dgo n m (s + 1) else s
/-- a distance's symbol -/
def dsy (n : Nat) : Nat := dgo n 29 0
theorem lgo_in (n : Nat) : ∀ m s, s ≤ lgo n m s ∧ lgo n m s ≤ s + m := by
  intro m
  induction m with
  | zero => intro s; exact ⟨Nat.le_refl _, Nat.le_refl _⟩
  | succ m ih =>
    intro s
    have := ih (s + 1)
    rw [lgo]
    split <;> omega
theorem lsy_in (n : Nat) : 257 ≤ lsy n ∧ lsy n ≤ 285 := by
  have := lgo_in n 27 257
  unfold lsy
  split <;> omega
theorem dgo_in (n : Nat) : ∀ m s, s ≤ dgo n m s ∧ dgo n m s ≤ s + m := by
  intro m
  induction m with
  | zero => intro s; exact ⟨Nat.le_refl _, Nat.le_refl _⟩
  | succ m ih =>
    intro s
    have := ih (s + 1)
    rw [dgo]
    split <;> omega
theorem dsy_in (n : Nat) : dsy n ≤ 29 := by
  have := dgo_in n 29 0
  unfold dsy
  omega
theorem dbase_mono : ∀ s, s < 30 → dbase s < dbase (s + 1) := by decide +kernel
theorem dgo_of {n t : Nat} (h1 : dbase t ≤ n) : ∀ (m s : Nat), s ≤ t → t ≤ s + m → (t = s + m ∨ n < dbase (t + 1)) → s + m ≤ 29 → dgo n m s = t := by
  have hm : ∀ d s, s + d ≤ 30 → dbase s ≤ dbase (s + d) := by
    intro d
    induction d with
    | zero => intro s _; exact Nat.le_refl _
    | succ d ih =>
      intro s h
      have a := ih s (by omega)
      have b := dbase_mono (s + d) (by omega)
      rw [show s + (d + 1) = s + d + 1 by omega]
      omega
  intro m
  induction m with
  | zero => intro s g1 g2 _ _; show s = t; omega
  | succ m ih =>
    intro s g1 g2 g3 g4
    rw [dgo]
    by_cases hst : s = t
    · rw [hst, if_neg ?_]
      have := g3
      omega
    · have := hm (t - (s + 1)) (s + 1) (by omega)
      rw [show s + 1 + (t - (s + 1)) = t by omega] at this
      rw [if_pos (by omega)]
      exact ih (s + 1) (by omega) (by omega) (by omega) (by omega)
/-- halvings -/
def hgo (x t : Nat) : Nat → Nat → Nat
  | 0, e => e
  | m + 1, e => if x / 2 ^ e < t then e else hgo x t m (e + 1)
theorem hgo_in (x t : Nat) : ∀ m e, e ≤ hgo x t m e ∧ hgo x t m e ≤ e + m := by
  intro m
  induction m with
  | zero => intro s; exact ⟨Nat.le_refl _, Nat.le_refl _⟩
  | succ m ih =>
    intro s
    have := ih (s + 1)
    rw [hgo]
    split <;> omega
theorem hgo_of (x t : Nat) : ∀ m e, x / 2 ^ (e + m) < t → x / 2 ^ hgo x t m e < t ∧ (hgo x t m e = e ∨ ∃ q, hgo x t m e = q + 1 ∧ t ≤ x / 2 ^ q) := by
  intro m
  induction m with
  | zero => intro e h; exact ⟨h, Or.inl rfl⟩
  | succ m ih =>
    intro e h
    rw [hgo]
    split
    · rename_i h2
      exact ⟨h2, Or.inl rfl⟩
    · rename_i h2
      obtain ⟨a, b⟩ := ih (e + 1) (by rw [show e + 1 + m = e + (m + 1) by omega]; exact h)
      refine ⟨a, Or.inr ?_⟩
      rcases b with b | b
      · exact ⟨e, b, by omega⟩
      · exact b
theorem lsy_half : ∀ n, n < 258 → 3 ≤ n → 257 + 4 * hgo (n - 3) 8 31 0 + (n - 3) / 2 ^ hgo (n - 3) 8 31 0 = lsy n := by decide +kernel
theorem dsy_half {n : Nat} (h1 : 1 ≤ n) (h2 : n ≤ 32768) : 2 * hgo (n - 1) 4 31 0 + (n - 1) / 2 ^ hgo (n - 1) 4 31 0 = dsy n := by
  obtain ⟨a, b⟩ := hgo_of (n - 1) 4 31 0 (by
    have : (n - 1) / 2 ^ (0 + 31) = 0 := Nat.div_eq_of_lt (by rw [show (2 : Nat) ^ (0 + 31) = 2147483648 from rfl]; omega)
    omega)
  generalize hgo (n - 1) 4 31 0 = e at a b ⊢
  have key : dbase (2 * e + (n - 1) / 2 ^ e) ≤ n ∧ n < dbase (2 * e + (n - 1) / 2 ^ e + 1) ∧ 2 * e + (n - 1) / 2 ^ e ≤ 29 := by
    rcases b with b | ⟨q, b, c⟩
    · subst b
      rw [Nat.pow_zero, Nat.div_one] at a ⊢
      have hn : n = 1 ∨ n = 2 ∨ n = 3 ∨ n = 4 := by omega
      rcases hn with rfl | rfl | rfl | rfl <;> decide
    · subst b
      have hq : q < 14 := by
        refine Nat.lt_of_not_le fun hq => ?_
        have := Nat.div_le_div_left (a := n - 1) (Nat.pow_le_pow_right (show 0 < 2 by omega) hq) (show 0 < 2 ^ 14 by decide)
        rw [show (2 : Nat) ^ 14 = 16384 from rfl] at this
        omega
      have e2 : (n - 1) / 2 ^ (q + 1) = (n - 1) / 2 ^ q / 2 := by rw [Nat.pow_succ, Nat.div_div_eq_div_mul]
      have hv : (n - 1) / 2 ^ (q + 1) = 2 ∨ (n - 1) / 2 ^ (q + 1) = 3 := by omega
      have hlo := Nat.div_mul_le_self (n - 1) (2 ^ (q + 1))
      have hhi := Nat.lt_mul_div_succ (n - 1) (b := 2 ^ (q + 1)) (Nat.pow_pos (by omega))
      have hp : 1 ≤ 2 ^ (q + 1) := Nat.pow_pos (by omega)
      generalize hV : (n - 1) / 2 ^ (q + 1) = V at *
      have db : ∀ u, u < 14 → dbase (2 * (u + 1) + 2) = 1 + 2 * 2 ^ (u + 1) ∧ dbase (2 * (u + 1) + 3) = 1 + 3 * 2 ^ (u + 1) ∧ dbase (2 * (u + 1) + 4) = 1 + 4 * 2 ^ (u + 1) := by decide +kernel
      obtain ⟨d1, d2, d3⟩ := db q hq
      have hq13 : q < 13 := by
        refine Nat.lt_of_not_le fun h13 => ?_
        rw [show q = 13 by omega, show (2 : Nat) ^ (13 + 1) = 16384 from rfl] at hlo
        omega
      rcases hv with rfl | rfl
      · rw [d1, show 2 * (q + 1) + 2 + 1 = 2 * (q + 1) + 3 from rfl, d2]
        omega
      · rw [d2, show 2 * (q + 1) + 3 + 1 = 2 * (q + 1) + 4 from rfl, d3]
        omega
  exact (dgo_of key.1 29 0 (Nat.zero_le _) (by have := key.2.2; omega) (Or.inr key.2.1) (by omega)).symm
