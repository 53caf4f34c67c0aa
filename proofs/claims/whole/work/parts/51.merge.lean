/-! Lengths of codes by lists of pairs: what they are. -/
/-- where a symbol comes among the first ones -/
def ipos (c : Nat → Int) (s : Nat) (R : Nat → Nat) : Nat → Nat
  | 0 => 0
  | k + 1 => if c s < c (R k) then ipos c s R k else k + 1
theorem ipos_le (c : Nat → Int) (s : Nat) (R : Nat → Nat) : ∀ m, ipos c s R m ≤ m := by
  intro m
  induction m with
  | zero => exact Nat.le_refl _
  | succ m ih => rw [ipos]; split <;> omega
def insR (c : Nat → Int) (s m : Nat) (R : Nat → Nat) : Nat → Nat := fun i => if i < ipos c s R m then R i else if i = ipos c s R m then s else if i ≤ m then R (i - 1) else R i
/-- the symbols with counts: by counts, then by numbers -/
def srt (c : Nat → Int) : Nat → Nat × (Nat → Nat)
  | 0 => (0, fun _ => 0)
  | s + 1 => if 0 < c s then ((srt c s).1 + 1, insR c s (srt c s).1 (srt c s).2) else srt c s
def SrtOK (c : Nat → Int) (n m : Nat) (R : Nat → Nat) : Prop := (∀ i, i < m → R i < n ∧ 0 < c (R i)) ∧ (∀ i j, i < m → j < m → R i = R j → i = j) ∧ (∀ s, s < n → 0 < c s → ∃ i, i < m ∧ R i = s) ∧ m ≤ n
theorem srt_ok (c : Nat → Int) : ∀ n, SrtOK c n (srt c n).1 (srt c n).2 := by
  intro n
  induction n with
  | zero => exact ⟨fun i hi => absurd hi (Nat.not_lt_zero _), fun i j hi => absurd hi (Nat.not_lt_zero _), fun s hs => absurd hs (Nat.not_lt_zero _), Nat.le_refl _⟩
  | succ s ih =>
    obtain ⟨h1, h2, h3, h4⟩ := ih
    rw [srt]
    by_cases hc : 0 < c s
    · rw [if_pos hc]
      generalize (srt c s).1 = m at *
      generalize (srt c s).2 = R at *
      have hk := ipos_le c s R m
      dsimp only
      have hi0 : ∀ i, i < m + 1 → (i < ipos c s R m ∧ insR c s m R i = R i) ∨ (i = ipos c s R m ∧ insR c s m R i = s) ∨ (ipos c s R m < i ∧ insR c s m R i = R (i - 1)) := by
        intro i hi
        unfold insR
        rcases Nat.lt_trichotomy i (ipos c s R m) with h | h | h
        · exact Or.inl ⟨h, if_pos h⟩
        · exact Or.inr (Or.inl ⟨h, by rw [if_neg (by omega), if_pos h]⟩)
        · exact Or.inr (Or.inr ⟨h, by rw [if_neg (by omega), if_neg (by omega), if_pos (by omega)]⟩)
      refine ⟨fun i hi => ?_, fun i j hi hj hij => ?_, fun t ht hct => ?_, by omega⟩
      · rcases hi0 i hi with ⟨a, b⟩ | ⟨a, b⟩ | ⟨a, b⟩
        · rw [b]
          have := h1 i (by omega)
          exact ⟨by omega, this.2⟩
        · rw [b]
          exact ⟨by omega, hc⟩
        · rw [b]
          have := h1 (i - 1) (by omega)
          exact ⟨by omega, this.2⟩
      · rcases hi0 i hi with ⟨a, b⟩ | ⟨a, b⟩ | ⟨a, b⟩ <;> rcases hi0 j hj with ⟨a', b'⟩ | ⟨a', b'⟩ | ⟨a', b'⟩
        · exact h2 i j (by omega) (by omega) (by omega)
        · have := h1 i (by omega); omega
        · have := h2 i (j - 1) (by omega) (by omega) (by omega); omega
        · have := h1 j (by omega); omega
        · omega
        · have := h1 (j - 1) (by omega); omega
        · have := h2 (i - 1) j (by omega) (by omega) (by omega); omega
        · have := h1 (i - 1) (by omega); omega
        · have := h2 (i - 1) (j - 1) (by omega) (by omega) (by omega); omega
      · by_cases hts : t = s
        · refine ⟨ipos c s R m, by omega, ?_⟩
          rcases hi0 (ipos c s R m) (by omega) with ⟨a, b⟩ | ⟨a, b⟩ | ⟨a, b⟩ <;> omega
        · obtain ⟨i, hi, hR⟩ := h3 t (by omega) hct
          by_cases hik : i < ipos c s R m
          · refine ⟨i, by omega, ?_⟩
            rcases hi0 i (by omega) with ⟨a, b⟩ | ⟨a, b⟩ | ⟨a, b⟩ <;> omega
          · refine ⟨i + 1, by omega, ?_⟩
            rcases hi0 (i + 1) (by omega) with ⟨a, b⟩ | ⟨a, b⟩ | ⟨a, b⟩
            · omega
            · omega
            · rw [b]
              exact hR
    · rw [if_neg hc]
      refine ⟨fun i hi => ?_, h2, fun t ht hct => h3 t (Nat.lt_of_le_of_ne (by omega) fun h => hc (by rw [h] at hct; exact hct)) hct, by omega⟩
      have := h1 i hi
      exact ⟨by omega, this.2⟩
theorem ipos_congr {c c' : Nat → Int} {s : Nat} {R : Nat → Nat} (hs : c s = c' s) : ∀ m, (∀ i, i < m → c (R i) = c' (R i)) → ipos c s R m = ipos c' s R m := by
  intro m
  induction m with
  | zero => intro _; rfl
  | succ m ih =>
    intro h
    rw [ipos, ipos, ih fun i hi => h i (by omega), hs, h m (by omega)]
theorem srt_congr {c c' : Nat → Int} : ∀ n, (∀ s, s < n → c s = c' s) → srt c n = srt c' n := by
  intro n
  induction n with
  | zero => intro _; rfl
  | succ s ih =>
    intro h
    have e := ih fun t ht => h t (by omega)
    have ok := (srt_ok c' s).1
    rw [srt, srt, h s (by omega), e]
    unfold insR
    rw [ipos_congr (h s (by omega)) (srt c' s).1 fun i hi => h _ (by have := ok i hi; omega)]
theorem srt_pad {c : Nat → Int} {n : Nat} (h : ∀ s, n ≤ s → c s ≤ 0) : ∀ j, srt c (n + j) = srt c n := by
  intro j
  induction j with
  | zero => rfl
  | succ j ih =>
    rw [← Nat.add_assoc, srt, if_neg (by have := h (n + j) (by omega); omega), ih]
/-- the next item is a symbol -/
abbrev isy (w : Nat → Int) (m P : Nat) (V : Nat → Int) (a b : Nat) : Prop := b = P ∨ (a < m ∧ w a ≤ V b)
/-- how many of the first k items are symbols -/
def ms (w : Nat → Int) (m P : Nat) (V : Nat → Int) : Nat → Nat
  | 0 => 0
  | k + 1 => if isy w m P V (ms w m P V k) (k - ms w m P V k) then ms w m P V k + 1 else ms w m P V k
theorem ms_le (w : Nat → Int) (m P : Nat) (V : Nat → Int) : ∀ k, ms w m P V k ≤ k := by
  intro k
  induction k with
  | zero => exact Nat.le_refl _
  | succ k ih => rw [ms]; split <;> omega
theorem ms_in (w : Nat → Int) (m P : Nat) (V : Nat → Int) : ∀ k, k ≤ m + P → ms w m P V k ≤ m ∧ k ≤ ms w m P V k + P := by
  intro k
  induction k with
  | zero => intro _; exact ⟨Nat.zero_le _, Nat.zero_le _⟩
  | succ k ih =>
    intro h
    have a := ih (by omega)
    have b := ms_le w m P V k
    rw [ms]
    split
    · rename_i hs
      rcases hs with hs | ⟨hs, _⟩ <;> omega
    · rename_i hs
      have : k - ms w m P V k ≠ P := fun h => hs (Or.inl h)
      omega
def wt (w : Nat → Int) (m P : Nat) (V : Nat → Int) (k : Nat) : Int := if isy w m P V (ms w m P V k) (k - ms w m P V k) then w (ms w m P V k) else V (k - ms w m P V k)
/-- how many pairs a list has, their weights -/
def Pn (m : Nat) : Nat → Nat
  | 0 => 0
  | l + 1 => (m + Pn m l) / 2
def Vw (w : Nat → Int) (m : Nat) : Nat → Nat → Int
  | 0 => fun _ => 0
  | l + 1 => fun b => wt w m (Pn m l) (Vw w m l) (2 * b) + wt w m (Pn m l) (Vw w m l) (2 * b + 1)
/-- of list l: the symbols among its first k items; is item k a symbol; its weight -/
abbrev mA (w : Nat → Int) (m l k : Nat) : Nat := ms w m (Pn m l) (Vw w m l) k
abbrev mS (w : Nat → Int) (m l k : Nat) : Prop := isy w m (Pn m l) (Vw w m l) (mA w m l k) (k - mA w m l k)
abbrev mW (w : Nat → Int) (m l k : Nat) : Int := wt w m (Pn m l) (Vw w m l) k
theorem Pn_le {m : Nat} : ∀ l, Pn m l ≤ m - 1 := by
  intro l
  induction l with
  | zero => exact Nat.zero_le _
  | succ l ih => rw [Pn]; omega
theorem Vw_le {w : Nat → Int} {m : Nat} {M : Int} (hw : ∀ a, 0 ≤ w a ∧ w a ≤ M) : ∀ l, (∀ b, 0 ≤ Vw w m l b ∧ Vw w m l b ≤ M * 2 ^ l) ∧ ∀ k, 0 ≤ mW w m l k ∧ mW w m l k ≤ M * 2 ^ l := by
  have hM : 0 ≤ M := by have := hw 0; omega
  have st : ∀ l, (∀ b, 0 ≤ Vw w m l b ∧ Vw w m l b ≤ M * 2 ^ l) → ∀ k, 0 ≤ mW w m l k ∧ mW w m l k ≤ M * 2 ^ l := by
    intro l h k
    have h1 : M ≤ M * 2 ^ l := by
      have : (1 : Int) ≤ 2 ^ l := Int.pow_pos (by omega)
      have := Int.mul_le_mul_of_nonneg_left this hM
      omega
    unfold mW wt
    split
    · have := hw (ms w m (Pn m l) (Vw w m l) k)
      omega
    · exact h _
  intro l
  induction l with
  | zero => exact ⟨fun b => ⟨Int.le_refl 0, by rw [Int.pow_zero, Int.mul_one]; exact hM⟩, st 0 fun b => ⟨Int.le_refl 0, by rw [Int.pow_zero, Int.mul_one]; exact hM⟩⟩
  | succ l ih =>
    have h1 : ∀ b, 0 ≤ Vw w m (l + 1) b ∧ Vw w m (l + 1) b ≤ M * 2 ^ (l + 1) := by
      intro b
      have a := ih.2 (2 * b)
      have c := ih.2 (2 * b + 1)
      unfold mW at a c
      rw [Vw, Int.pow_succ, ← Int.mul_assoc]
      dsimp only
      omega
    exact ⟨h1, st _ h1⟩
/-- how often each symbol is in the first W items of a list -/
def el (w : Nat → Int) (m : Nat) : Nat → Nat → Nat → Int
  | 0, W, a => if a < mA w m 0 W then 1 else 0
  | l + 1, W, a => (if a < mA w m (l + 1) W then 1 else 0) + el w m l (2 * (W - mA w m (l + 1) W)) a
/-- how often in one item -/
def tk (w : Nat → Int) (m : Nat) : Nat → Nat → Nat → Int
  | 0, i, a => if a = mA w m 0 i then 1 else 0
  | l + 1, i, a => if mS w m (l + 1) i then (if a = mA w m (l + 1) i then 1 else 0) else tk w m l (2 * (i - mA w m (l + 1) i)) a + tk w m l (2 * (i - mA w m (l + 1) i) + 1) a
theorem mA_zero (w : Nat → Int) (m : Nat) : ∀ k, mA w m 0 k = k := by
  intro k
  induction k with
  | zero => rfl
  | succ k ih =>
    show ms _ _ _ _ (k + 1) = _
    rw [ms, if_pos (Or.inl (by rw [show ms w m (Pn m 0) (Vw w m 0) k = k from ih]; exact Nat.sub_self k)), show ms w m (Pn m 0) (Vw w m 0) k = k from ih]
theorem mS_zero (w : Nat → Int) (m k : Nat) : mS w m 0 k := Or.inl (by rw [mA_zero, Nat.sub_self]; rfl)
theorem el_tk (w : Nat → Int) (m : Nat) : ∀ l W a, el w m l (W + 1) a = el w m l W a + tk w m l W a := by
  intro l
  induction l with
  | zero =>
    intro W a
    rw [el, el, tk, mA_zero, mA_zero]
    by_cases h : a = W
    · rw [if_pos (by omega), if_neg (by omega), if_pos h]
      rfl
    · rw [if_neg h]
      by_cases h2 : a < W
      · rw [if_pos (by omega), if_pos h2]
        rfl
      · rw [if_neg (by omega), if_neg h2]
        rfl
  | succ l ih =>
    intro W a
    have hle : mA w m (l + 1) W ≤ W := ms_le w m (Pn m (l + 1)) (Vw w m (l + 1)) W
    rw [el, el, tk]
    by_cases h : mS w m (l + 1) W
    · have e : mA w m (l + 1) (W + 1) = mA w m (l + 1) W + 1 := by
        show ms _ _ _ _ (W + 1) = _
        rw [ms, if_pos h]
      rw [e, if_pos h, show W + 1 - (mA w m (l + 1) W + 1) = W - mA w m (l + 1) W by omega]
      by_cases h2 : a = mA w m (l + 1) W
      · rw [if_pos (by omega), if_neg (by omega), if_pos h2]
        omega
      · rw [if_neg h2]
        by_cases h3 : a < mA w m (l + 1) W
        · rw [if_pos (by omega), if_pos h3]
          omega
        · rw [if_neg (by omega), if_neg h3]
          omega
    · have e : mA w m (l + 1) (W + 1) = mA w m (l + 1) W := by
        show ms _ _ _ _ (W + 1) = _
        rw [ms, if_neg h]
      rw [e, if_neg h, show 2 * (W + 1 - mA w m (l + 1) W) = 2 * (W - mA w m (l + 1) W) + 1 + 1 by omega, ih, ih]
      omega
theorem el_le (w : Nat → Int) (m : Nat) : ∀ l W a, 0 ≤ el w m l W a ∧ el w m l W a ≤ (l + 1 : Nat) := by
  intro l
  induction l with
  | zero => intro W a; rw [el]; split <;> omega
  | succ l ih =>
    intro W a
    have := ih (2 * (W - mA w m (l + 1) W)) a
    rw [el]
    split <;> omega
/-- where a symbol stands -/
def fo (R : Nat → Nat) (s : Nat) : Nat → Nat
  | 0 => 0
  | k + 1 => if R k = s then k else fo R s k
theorem fo_of {R : Nat → Nat} {i : Nat} : ∀ m, i < m → (∀ j, j < m → R j = R i → j = i) → fo R (R i) m = i := by
  intro m
  induction m with
  | zero => intro h; omega
  | succ m ih =>
    intro h1 h2
    rw [fo]
    split
    · rename_i h
      exact h2 m (by omega) h
    · rename_i h
      refine ih (Nat.lt_of_le_of_ne (by omega) fun h3 => h (by rw [h3])) fun j hj => h2 j (by omega)
/-- the lengths of codes for n counts with a limit -/
def lvl (c : Nat → Int) (n lim i : Nat) : Int := if (srt c n).1 = 1 then 1 else el (fun a => c ((srt c n).2 a)) (srt c n).1 (lim - 1) (2 * (srt c n).1 - 2) i
def lns (c : Nat → Int) (n lim s : Nat) : Int := if 0 < c s then lvl c n lim (fo (srt c n).2 s (srt c n).1) else 0
theorem lns_of (c : Nat → Int) (n lim : Nat) {i : Nat} (hi : i < (srt c n).1) : lns c n lim ((srt c n).2 i) = lvl c n lim i := by
  obtain ⟨h1, h2, _⟩ := srt_ok c n
  unfold lns
  rw [if_pos (h1 i hi).2, fo_of _ hi fun j hj h => h2 j i hj hi h]
theorem lns_le (c : Nat → Int) (n s : Nat) {lim : Nat} (hl : 1 ≤ lim) : 0 ≤ lns c n lim s ∧ lns c n lim s ≤ lim := by
  unfold lns lvl
  split
  · split
    · omega
    · have := el_le (fun a => c ((srt c n).2 a)) (srt c n).1 (lim - 1) (2 * (srt c n).1 - 2) (fo (srt c n).2 s (srt c n).1)
      omega
  · omega
theorem lns_all {c : Nat → Int} {n lim : Nat} {f : Nat → Int} (h1 : ∀ i, i < (srt c n).1 → f ((srt c n).2 i) = lvl c n lim i) (h2 : ∀ s, s < n → ¬ 0 < c s → f s = 0) {s : Nat} (hs : s < n) : f s = lns c n lim s := by
  by_cases hc : 0 < c s
  · obtain ⟨i, hi, hR⟩ := (srt_ok c n).2.2.1 s hs hc
    rw [← hR, h1 i hi, lns_of c n lim hi]
  · rw [h2 s hs hc]
    unfold lns
    rw [if_neg hc]
theorem Pn_15 : ∀ m, m < 300 → m ≤ Pn m 14 + 1 := by decide +kernel
theorem Pn_7 : ∀ m, m < 20 → m ≤ Pn m 6 + 1 := by decide +kernel
