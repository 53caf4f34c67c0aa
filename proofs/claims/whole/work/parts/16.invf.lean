/-! Both sides' files hold the same. -/
def InvF (iv av : IVt) : Prop := FI iv av ∧ iv 73 5 = iv 2 1 ∧ (∀ f : Nat, f < 64 → av 76 f = av 4 (f + 1) - av 4 f) ∧ (∀ f : Nat, f < 64 → 0 ≤ av 75 f ∧ av 75 f + av 76 f ≤ iv 2 1) ∧
  (∀ f g : Nat, f < 64 → g < 64 → f ≠ g → 0 < av 76 g → av 75 f + av 76 f ≤ av 75 g ∨ av 75 g + av 76 g ≤ av 75 f) ∧
  ∀ f : Nat, f < 64 → ∀ j : Nat, j < av 76 f → av 77 ((av 75 f).toNat + j) = av 3 ((av 4 f).toNat + j)
/-- new bytes at a place -/
def fil (p n : Int) (G g : Nat → Int) : Nat → Int := fun i => if p ≤ i ∧ i < p + n then G ((i : Int) - p).toNat else g i
theorem InvF.have0 {iv av : IVt} (h : InvF iv av) {f : Nat} (hf : f < 64) : 0 ≤ av 76 f := by
  have h3 := h.2.2.1 f hf
  have := h.1.2.1 f hf
  omega
theorem InvF.grow {iv av iv' av' : IVt} {f : Nat} {n : Int} {G : Nat → Int} (h : InvF iv av) (hf : f < 64) (hn : 0 ≤ n) (hn2 : iv 2 1 + n ≤ 65536)
    (e1 : iv' 2 1 = iv 2 1 + n) (e2 : iv' 73 5 = iv 73 5 + n)
    (e3 : av' 3 = fil (av 4 (f + 1)) n G (va_cpy (av 3) (av 3) (av 4 (f + 1)).toNat (av 4 (f + 1) + n).toNat (iv 2 1 - av 4 (f + 1)).toNat))
    (e4 : ∀ i : Nat, av' 4 i = if f + 1 ≤ i ∧ i < 65 then av 4 i + n else av 4 i)
    (e5 : ∀ k : Nat, av' 75 k = if k = f then rAt iv av f else if k < 64 ∧ rFrom iv av f ≤ av 75 k then av 75 k + n else av 75 k)
    (e6 : ∀ k : Nat, av' 76 k = if k = f then av 76 f + n else av 76 k)
    (e7 : av' 77 = fil (rFrom iv av f) n G (fun i => if rFrom iv av f + n ≤ i ∧ i < iv 73 5 + n then av 77 ((i : Int) - n).toNat else av 77 i)) : InvF iv' av' := by
  have hh := h
  obtain ⟨hFI, h2, h3, h4, h5, h6⟩ := h
  have b1 := hFI.bd (show f + 1 ≤ 64 by omega)
  have b2 := hFI.bd (show f ≤ 64 by omega)
  have hmono : av 4 f ≤ av 4 (f + 1) := hFI.2.1 f hf
  have hA : rAt iv av f = (if av 76 f = 0 then iv 73 5 else av 75 f) := rfl
  have hF : rFrom iv av f = rAt iv av f + av 76 f := rfl
  generalize rAt iv av f = A at *
  generalize rFrom iv av f = F at *
  have h3f := h3 f hf
  have h4f := h4 f hf
  have e4f : av' 4 f = av 4 f := by rw [e4, if_neg (by omega)]
  have e4f1 : av' 4 (f + 1) = av 4 (f + 1) + n := by rw [e4, if_pos (by omega)]
  refine ⟨⟨?_, ?_, ?_, by omega⟩, by omega, ?_, ?_, ?_, ?_⟩
  · rw [e4, if_neg (by omega)]
    exact hFI.1
  · intro i hi
    have := hFI.2.1 i hi
    rw [e4, e4]
    split <;> split <;> omega
  · have := hFI.2.2.1
    rw [e4, if_pos (by omega)]
    omega
  · intro k hk
    have := h3 k hk
    rw [e6, e4, e4]
    split
    · rename_i hkf
      subst hkf
      rw [if_pos (by omega), if_neg (by omega)]
      omega
    · split <;> split <;> omega
  · intro k hk
    have h4k := h4 k hk
    have hk0 := hh.have0 hk
    rw [e5, e6]
    by_cases hkf : k = f
    · subst hkf
      rw [if_pos rfl, if_pos rfl]
      split at hA <;> omega
    · rw [if_neg hkf, if_neg hkf]
      split <;> omega
  · intro k g hk hg hne hgp
    have hk0 := hh.have0 hk
    have hg0 := hh.have0 hg
    have h4k := h4 k hk
    have h4g := h4 g hg
    have h5kg := h5 k g hk hg hne
    have h5gk := h5 g k hg hk (Ne.symm hne)
    rw [e6] at hgp
    rw [e5, e6, e5, e6]
    by_cases hkf : k = f
    · subst hkf
      rw [if_pos rfl, if_pos rfl, if_neg (Ne.symm hne), if_neg (Ne.symm hne)]
      rw [if_neg (Ne.symm hne)] at hgp
      have := h5kg hgp
      split at hA
      · split <;> omega
      · split <;> omega
    · by_cases hgf : g = f
      · subst hgf
        rw [if_neg hkf, if_neg hkf, if_pos rfl, if_pos rfl]
        split at hA
        · split <;> omega
        · have := h5kg (by omega)
          split <;> omega
      · rw [if_neg hgf] at hgp
        rw [if_neg hkf, if_neg hkf, if_neg hgf, if_neg hgf]
        have := h5kg hgp
        -- where each lies against the place that grows
        have q1 : av 76 f = 0 ∨ av 76 f ≠ 0 := by omega
        have h5gf := h5 g f hg hf hgf
        have h5kf := h5 k f hk hf hkf
        rcases q1 with q1 | q1
        · rw [if_pos q1] at hA
          split <;> split <;> omega
        · rw [if_neg q1] at hA
          have := h5gf (by omega)
          have := h5kf (by omega)
          split <;> split <;> omega
  · intro k hk j hj
    have hk0 := hh.have0 hk
    have h4k := h4 k hk
    have b3 := hFI.bd (show k ≤ 64 by omega)
    have b4 := hFI.bd (show k + 1 ≤ 64 by omega)
    have h3k := h3 k hk
    rw [e6] at hj
    rw [e7, e3]
    by_cases hkf : k = f
    · subst hkf
      rw [if_pos rfl] at hj
      have e5k : av' 75 k = A := by rw [e5, if_pos rfl]
      rw [e5k, e4f]
      have hA0 : 0 ≤ A := by split at hA <;> omega
      by_cases hjn : (j : Int) < av 76 k
      · have g6 := h6 k hk j hjn
        have hne : ¬ av 76 k = 0 := by omega
        rw [if_neg hne] at hA
        unfold fil va_cpy
        dsimp only
        rw [if_neg (by omega), if_neg (by omega), if_neg (by omega), if_neg (by omega), hA]
        exact g6
      · unfold fil
        rw [if_pos (by omega), if_pos (by omega)]
        congr 1
        omega
    · rw [if_neg hkf] at hj
      have g6 := h6 k hk j hj
      have h5kf := h5 k f hk hf hkf
      have h5fk := h5 f k hf hk (Ne.symm hkf) (by omega)
      -- the class's side
      have c1 : fil (av 4 (f + 1)) n G (va_cpy (av 3) (av 3) (av 4 (f + 1)).toNat (av 4 (f + 1) + n).toNat (iv 2 1 - av 4 (f + 1)).toNat) ((av' 4 k).toNat + j) = av 3 ((av 4 k).toNat + j) := by
        rw [e4]
        by_cases hlt : k < f
        · have := hFI.le (show k + 1 ≤ f + 1 by omega) (by omega)
          rw [if_neg (by omega)]
          unfold fil va_cpy
          rw [if_neg (by omega), if_neg (by omega)]
        · have := hFI.le (show f + 1 ≤ k by omega) (by omega)
          have := hFI.2.2.1
          rw [if_pos (by omega)]
          unfold fil va_cpy
          rw [if_neg (by omega), if_pos (by omega)]
          congr 1
          omega
      rw [c1, ← g6, e5, if_neg hkf]
      by_cases hge : F ≤ av 75 k
      · rw [if_pos ⟨hk, hge⟩]
        unfold fil
        dsimp only
        split at hA
        · rw [if_neg (by omega), if_pos (by omega)]
          congr 1
          omega
        · rw [if_neg (by omega), if_pos (by omega)]
          congr 1
          omega
      · rw [if_neg (show ¬ (k < 64 ∧ F ≤ av 75 k) by omega)]
        unfold fil
        dsimp only
        split at hA
        · rw [if_neg (by omega), if_neg (by omega)]
        · rw [if_neg (by omega), if_neg (by omega)]
theorem InvF.less {iv av iv' av' : IVt} {f : Nat} (h : InvF iv av) (hf : f < 64)
    (e1 : iv' 2 1 = iv 2 1 - (av 4 (f + 1) - av 4 f)) (e2 : iv' 73 5 = iv 73 5 - av 76 f)
    (e3 : av' 3 = va_cpy (av 3) (av 3) (av 4 (f + 1)).toNat (av 4 f).toNat (iv 2 1 - av 4 (f + 1)).toNat)
    (e4 : ∀ i : Nat, av' 4 i = if f + 1 ≤ i ∧ i < 65 then av 4 i - (av 4 (f + 1) - av 4 f) else av 4 i)
    (e5 : ∀ k : Nat, av' 75 k = if k < 64 ∧ av 75 f < av 75 k then av 75 k - av 76 f else av 75 k)
    (e6 : ∀ k : Nat, av' 76 k = if k = f then 0 else av 76 k)
    (e7 : av' 77 = fun (i : Nat) => if av 75 f ≤ i ∧ i < iv 73 5 - av 76 f then av 77 ((i : Int) + av 76 f).toNat else av 77 i) : InvF iv' av' := by
  have hh := h
  obtain ⟨hFI, h2, h3, h4, h5, h6⟩ := h
  have b1 := hFI.bd (show f + 1 ≤ 64 by omega)
  have b2 := hFI.bd (show f ≤ 64 by omega)
  have hmono : av 4 f ≤ av 4 (f + 1) := hFI.2.1 f hf
  have hall := hFI.2.2.2
  have h3f := h3 f hf
  have h4f := h4 f hf
  have e4f : av' 4 f = av 4 f := by rw [e4, if_neg (by omega)]
  have e4f1 : av' 4 (f + 1) = av 4 f := by rw [e4, if_pos (by omega)]; omega
  refine ⟨⟨?_, ?_, ?_, by omega⟩, by omega, ?_, ?_, ?_, ?_⟩
  · rw [e4, if_neg (by omega)]
    exact hFI.1
  · intro i hi
    have := hFI.2.1 i hi
    rw [e4, e4]
    by_cases hif : i = f
    · subst hif
      rw [if_neg (by omega), if_pos (by omega)]
      omega
    · split <;> split <;> omega
  · have := hFI.2.2.1
    rw [e4, if_pos (by omega)]
    omega
  · intro k hk
    have := h3 k hk
    rw [e6, e4, e4]
    by_cases hkf : k = f
    · subst hkf
      rw [if_pos rfl, if_pos (by omega), if_neg (by omega)]
      omega
    · rw [if_neg hkf]
      split <;> split <;> omega
  · intro k hk
    have h4k := h4 k hk
    have hk0 := hh.have0 hk
    rw [e5, e6]
    by_cases hkf : k = f
    · subst hkf
      rw [if_neg (by omega), if_pos rfl]
      omega
    · rw [if_neg hkf]
      have h5kf := h5 k f hk hf hkf
      split
      · by_cases q : av 76 f = 0
        · omega
        · have := h5kf (by omega)
          omega
      · by_cases q : 0 < av 76 k
        · have := h5 f k hf hk (Ne.symm hkf) q
          omega
        · omega
  · intro k g hk hg hne hgp
    have hk0 := hh.have0 hk
    have hg0 := hh.have0 hg
    have hf0 := hh.have0 hf
    have h4k := h4 k hk
    have h4g := h4 g hg
    rw [e6] at hgp
    have hgf : g ≠ f := fun hgf => by subst hgf; rw [if_pos rfl] at hgp; omega
    rw [if_neg hgf] at hgp
    have q1 := h5 k g hk hg hne hgp
    have q2 := h5 f g hf hg (Ne.symm hgf) hgp
    have q4 := h5 g f hg hf hgf
    rw [e5, e6, e5, e6, if_neg hgf]
    by_cases hkf : k = f
    · subst hkf
      rw [if_pos rfl, if_neg (show ¬ (k < 64 ∧ av 75 k < av 75 k) by omega)]
      split <;> omega
    · have q3 := h5 k f hk hf hkf
      rw [if_neg hkf]
      by_cases q : av 76 f = 0
      · split <;> split <;> omega
      · have := q3 (by omega)
        have := q4 (by omega)
        split <;> split <;> omega
  · intro k hk j hj
    have hk0 := hh.have0 hk
    have hf0 := hh.have0 hf
    have h4k := h4 k hk
    have b3 := hFI.bd (show k ≤ 64 by omega)
    have b4 := hFI.bd (show k + 1 ≤ 64 by omega)
    have h3k := h3 k hk
    rw [e6] at hj
    have hkf : k ≠ f := fun hkf => by subst hkf; rw [if_pos rfl] at hj; omega
    rw [if_neg hkf] at hj
    have g6 := h6 k hk j hj
    have q1 := h5 k f hk hf hkf
    have q2 := h5 f k hf hk (Ne.symm hkf) (by omega)
    have c1 : va_cpy (av 3) (av 3) (av 4 (f + 1)).toNat (av 4 f).toNat (iv 2 1 - av 4 (f + 1)).toNat ((av' 4 k).toNat + j) = av 3 ((av 4 k).toNat + j) := by
      rw [e4]
      by_cases hlt : k < f
      · have := hFI.le (show k + 1 ≤ f by omega) (by omega)
        rw [if_neg (by omega)]
        unfold va_cpy
        rw [if_neg (by omega)]
      · have := hFI.le (show f + 1 ≤ k by omega) (by omega)
        have := hFI.2.2.1
        rw [if_pos (by omega)]
        unfold va_cpy
        rw [if_pos (by omega)]
        congr 1
        omega
    rw [e7, e3, c1, ← g6, e5]
    dsimp only
    by_cases hgt : av 75 f < av 75 k
    · rw [if_pos (show k < 64 ∧ av 75 f < av 75 k from ⟨hk, hgt⟩), if_pos (by omega)]
      congr 1
      omega
    · rw [if_neg (show ¬ (k < 64 ∧ av 75 f < av 75 k) by omega)]
      by_cases q : av 76 f = 0
      · by_cases hc : av 75 f ≤ (((av 75 k).toNat + j : Nat) : Int) ∧ (((av 75 k).toNat + j : Nat) : Int) < iv 73 5 - av 76 f
        · rw [if_pos hc]
          congr 1
          omega
        · rw [if_neg hc]
      · have := q1 (by omega)
        rw [if_neg (by omega)]
