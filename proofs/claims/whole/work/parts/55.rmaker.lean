/-! The reference makes lengths of codes. -/
section RMaker
variable {Y : Gl} {X : Cx} {e : Nat} {iv av : IVt} {f n : Nat} {c : Nat → Int}
theorem s_X13_rank (hfn : f + n ≤ 339) (hn : n ≤ 288) (hc : ∀ s, s < n → av 98 (f + s) = c s) : OkN Y e mX13_rank [.ref (gl_b Y + 73), .int (i32 (f : Int)), .int (i32 (n : Int))] RV iv av 116
    (fun r iv' av' => iv' = iv ∧ Off [101] av av' ∧ r = ((srt c n).1 : Nat) ∧ ∀ i, i < (srt c n).1 → av' 101 i = (srt c n).2 i) := by
  refine o_X13_rank fun X C => ?_
  have lp : ∀ (j s : Nat) (av1 : IVt), j + s = n → Off [101] av av1 → (∀ i, i < (srt c s).1 → av1 101 i = (srt c s).2 i) → L_X13_rank_5 Y X (fun r iv' av' => iv' = iv ∧ Off [101] av av' ∧ r = ((srt c n).1 : Nat) ∧ ∀ i, i < (srt c n).1 → av' 101 i = (srt c n).2 i) f n ((srt c s).1 : Nat) s iv av1 := by
    intro j
    induction j with
    | zero =>
      intro s av1 h1 h2 h3
      have es : s = n := by omega
      subst es
      have := (srt_ok c s).2.2.2
      exact w_X13_rank_5 C (by omega) (by omega) (by omega) ⟨fun _ => ⟨rfl, h2, rfl, h3⟩, fun g => absurd g (by omega)⟩
    | succ j ih =>
      intro s av1 h1 h2 h3
      obtain ⟨o1, o2, o3, o4⟩ := srt_ok c s
      have e98 : ∀ av2 : IVt, Off [101] av av2 → ∀ t, t < n → av2 98 (f + t) = c t := fun av2 h t ht => (congrFun (h 98 (by decide)) _).trans (hc t ht)
      refine w_X13_rank_5 C (by omega) (by omega) (by omega) ⟨fun g => absurd g (by omega), fun _ => ⟨by omega, ?_⟩⟩
      rw [show ((f : Int) + (s : Int)).toNat = f + s by omega, e98 av1 h2 s (by omega)]
      refine fun _ => ⟨fun hle => ?_, fun hgt => ?_⟩
      · have e : srt c (s + 1) = srt c s := by rw [srt, if_neg (by omega)]
        have := ih (s + 1) av1 (by omega) h2 (by rw [e]; exact h3)
        rw [e] at this
        rw [show (s : Int) + 1 = ((s + 1 : Nat) : Int) by omega]
        exact this
      · have e : srt c (s + 1) = ((srt c s).1 + 1, insR c s (srt c s).1 (srt c s).2) := by rw [srt, if_pos (by omega)]
        have nxt := fun av2 => ih (s + 1) av2 (by omega)
        rw [e] at nxt
        generalize hm : (srt c s).1 = m at *
        generalize (srt c s).2 = R at *
        have fin : ∀ (k : Nat) (av2 : IVt), k ≤ m → ipos c s R m = k → Off [101] av av2 → (∀ i, i < k → av2 101 i = R i) → (∀ i, k < i → i ≤ m → av2 101 i = R (i - 1)) → L_X13_rank_5 Y X (fun r iv' av' => iv' = iv ∧ Off [101] av av' ∧ r = ((srt c n).1 : Nat) ∧ ∀ i, i < (srt c n).1 → av' 101 i = (srt c n).2 i) f n ((m : Int) + 1) ((s : Int) + 1) iv (up2 av2 101 k s) := by
          intro k av2 g1 g2 g3 g4 g5
          have := nxt (up2 av2 101 k s) (g3.up (by decide)) fun i hi => by
            dsimp only at hi ⊢
            rw [up2_at]
            unfold insR
            rw [g2]
            rcases Nat.lt_trichotomy i k with h | h | h
            · rw [if_neg (by omega), if_pos h]
              exact g4 i h
            · rw [if_pos h, if_neg (by omega), if_pos h]
            · rw [if_neg (by omega), if_neg (by omega), if_neg (by omega), if_pos (by omega)]
              exact g5 i h (by omega)
          rw [show (s : Int) + 1 = ((s + 1 : Nat) : Int) by omega, show (m : Int) + 1 = ((m + 1 : Nat) : Int) by omega]
          exact this
        have lp2 : ∀ (k : Nat) (av2 : IVt), k ≤ m → ipos c s R m = ipos c s R k → Off [101] av av2 → (∀ i, i < k → av2 101 i = R i) → (∀ i, k < i → i ≤ m → av2 101 i = R (i - 1)) → L_X13_rank_26 Y X (fun r iv' av' => iv' = iv ∧ Off [101] av av' ∧ r = ((srt c n).1 : Nat) ∧ ∀ i, i < (srt c n).1 → av' 101 i = (srt c n).2 i) f n m s k iv av2 := by
          intro k
          induction k with
          | zero =>
            intro av2 g1 g2 g3 g4 g5
            exact w_X13_rank_26 C (by omega) (by omega) ⟨fun _ => ⟨by omega, fin 0 av2 g1 g2 g3 g4 g5⟩, fun g => absurd g (by omega)⟩
          | succ k ihk =>
            intro av2 g1 g2 g3 g4 g5
            have o := o1 k (by omega)
            refine w_X13_rank_26 C (by omega) (by omega) ⟨fun g => absurd g (by omega), fun _ => ⟨by omega, ?_⟩⟩
            rw [show (((k + 1 : Nat) : Int) - 1).toNat = k by omega, Int.toNat_natCast, g4 k (by omega), show ((f : Int) + (R k : Nat)).toNat = f + R k by omega, show ((f : Int) + (s : Int)).toNat = f + s by omega, e98 av2 g3 s (by omega), e98 av2 g3 (R k) (by omega)]
            refine fun _ => ⟨by omega, fun _ => ⟨by omega, fun _ => ⟨fun hle => ⟨by omega, ?_⟩, fun hgt => ⟨by omega, ?_⟩⟩⟩⟩
            · exact fin (k + 1) av2 g1 (by rw [g2, ipos, if_neg (by omega)]) g3 g4 g5
            · rw [show ((k + 1 : Nat) : Int) + (-1) = (k : Int) by omega]
              refine ihk _ (by omega) (by rw [g2, ipos, if_pos (by omega)]) (g3.up (by decide)) (fun i hi => ?_) fun i hi hi2 => ?_
              · rw [up2_nj (by omega)]
                exact g4 i (by omega)
              · rw [up2_at]
                by_cases h : i = k + 1
                · rw [if_pos h, h]
                  rfl
                · rw [if_neg h]
                  exact g5 i (by omega) hi2
        exact lp2 m av1 (Nat.le_refl _) rfl h2 h3 fun i g1 g2 => absurd g1 (by omega)
  exact lp n 0 av (by omega) (Off.rf _ _) fun i hi => absurd hi (Nat.not_lt_zero _)
/-- a list's items -/
def LsR (av : IVt) (w : Nat → Int) (m l : Nat) : Prop := ∀ k, k < m + Pn m l → av 104 (600 * l + k) = if mS w m l k then ((mA w m l k : Nat) : Int) else -1 - 2 * ((k - mA w m l k : Nat) : Int)
theorem s_X13_takeItem {w : Nat → Int} {m : Nat} {R : Nat → Nat} (hm : m ≤ 288) (hfn : f + n ≤ 339) (hR : ∀ a, a < m → R a < n) (hinj : ∀ a b, a < m → b < m → R a = R b → a = b) : ∀ (l i : Nat) (av : IVt), l < 15 → i < m + Pn m l → (∀ l', l' ≤ l → LsR av w m l') → (∀ a, a < m → av 101 a = R a) → (∀ a, a < m → 0 ≤ av 99 (f + R a) ∧ av 99 (f + R a) + tk w m l i a ≤ 1000) →
    OkN Y (e + l + 1) mX13_takeItem [.ref (gl_b Y + 73), .int (i32 (f : Int)), .int (i32 (l : Int)), .int (i32 (i : Int))] RV iv av 116
    (fun r iv' av' => iv' = iv ∧ Off [99] av av' ∧ (∀ a, a < m → av' 99 (f + R a) = av 99 (f + R a) + tk w m l i a) ∧ ∀ s, (∀ a, a < m → s ≠ f + R a) → av' 99 s = av 99 s) := by
  have tk0 : ∀ l i a, 0 ≤ tk w m l i a := by
    intro l
    induction l with
    | zero => intro i a; rw [tk]; split <;> omega
    | succ l ih =>
      intro i a
      have a1 := ih (2 * (i - mA w m (l + 1) i)) a
      have a2 := ih (2 * (i - mA w m (l + 1) i) + 1) a
      rw [tk]
      split
      · split <;> omega
      · omega
  intro l
  induction l with
  | zero =>
    intro i av h1 h2 h3 h4 h5
    have hP0 := Pn_le (m := m) 0
    have e1 := h3 0 (Nat.le_refl _) i h2
    rw [if_pos (mS_zero w m i), mA_zero] at e1
    have him : i < m := by have : Pn m 0 = 0 := rfl; omega
    have hRi := hR i him
    have h5i := h5 i him
    rw [tk, mA_zero, if_pos rfl] at h5i
    refine o_X13_takeItem (by omega) ⟨by omega, ?_⟩
    rw [show (600 * ((0 : Nat) : Int) + (i : Int)).toNat = 600 * 0 + i by omega, e1]
    refine fun _ => ⟨fun g => absurd g (by omega), fun _ => ⟨by omega, ?_⟩⟩
    rw [Int.toNat_natCast, h4 i him, show ((f : Int) + (R i : Nat)).toNat = f + R i by omega]
    refine fun _ => ⟨by omega, fun _ => ⟨by omega, rfl, (Off.rf _ _).up (by decide), fun a ha => ?_, fun s hs => ?_⟩⟩
    · rw [tk, mA_zero, up2_at]
      by_cases hai : a = i
      · rw [if_pos (by rw [hai]), if_pos hai, hai]
      · rw [if_neg (fun h => hai (hinj a i ha him (by omega))), if_neg hai, Int.add_zero]
    · rw [up2_at, if_neg (hs i him)]
  | succ l ih =>
    intro i av h1 h2 h3 h4 h5
    have hP0 := Pn_le (m := m) (l + 1)
    have hP1 := Pn_le (m := m) l
    have hPs : Pn m (l + 1) = (m + Pn m l) / 2 := rfl
    have ha1 : mA w m (l + 1) i ≤ i := ms_le _ _ _ _ _
    have ha2 : mA w m (l + 1) i ≤ m ∧ i ≤ mA w m (l + 1) i + Pn m (l + 1) := ms_in _ _ _ _ _ (by omega)
    have e1 := h3 (l + 1) (Nat.le_refl _) i h2
    have htk : ∀ a, tk w m (l + 1) i a = if mS w m (l + 1) i then (if a = mA w m (l + 1) i then 1 else 0) else tk w m l (2 * (i - mA w m (l + 1) i)) a + tk w m l (2 * (i - mA w m (l + 1) i) + 1) a := fun a => rfl
    refine o_X13_takeItem (by omega) ⟨by omega, ?_⟩
    rw [show (600 * ((l + 1 : Nat) : Int) + (i : Int)).toNat = 600 * (l + 1) + i by omega, e1]
    by_cases hS : mS w m (l + 1) i
    · have ham : mA w m (l + 1) i < m := by
        rcases hS with h | ⟨h, _⟩ <;> omega
      simp only [if_pos hS] at htk ⊢
      clear e1
      generalize mA w m (l + 1) i = A at *
      have hRi := hR A ham
      have h5i := h5 A ham
      rw [htk, if_pos rfl] at h5i
      refine fun _ => ⟨fun g => absurd g (by omega), fun _ => ⟨by omega, ?_⟩⟩
      rw [Int.toNat_natCast, h4 A ham, show ((f : Int) + (R A : Nat)).toNat = f + R A by omega]
      refine fun _ => ⟨by omega, fun _ => ⟨by omega, trivial, (Off.rf _ _).up (by decide), fun a ha => ?_, fun s hs => ?_⟩⟩
      · rw [htk, up2_at]
        by_cases hai : a = A
        · rw [if_pos (by rw [hai]), if_pos hai, hai]
        · rw [if_neg (fun h => hai (hinj a A ha ham (by omega))), if_neg hai, Int.add_zero]
      · rw [up2_at, if_neg (hs A ham)]
    · have hb : i - mA w m (l + 1) i ≠ Pn m (l + 1) := fun h => hS (Or.inl h)
      simp only [if_neg hS] at htk ⊢
      clear e1
      generalize mA w m (l + 1) i = A at *
      refine fun _ => ⟨fun _ => ⟨by omega, by omega, ?_⟩, fun g => absurd (show -1 - 2 * ((i - A : Nat) : Int) < 0 by omega) g⟩
      rw [show (((l + 1 : Nat) : Int) - 1) = (l : Int) by omega, show -1 - (-1 - 2 * ((i - A : Nat) : Int)) = ((2 * (i - A) : Nat) : Int) by omega, show -(-1 - 2 * ((i - A : Nat) : Int)) = ((2 * (i - A) + 1 : Nat) : Int) by omega]
      refine OkN.mono (ih (2 * (i - A)) av (by omega) (by omega) (fun l' hl' => h3 l' (by omega)) h4 fun a ha => ?_) ?_
      · have q := h5 a ha
        rw [htk] at q
        have := tk0 l (2 * (i - A) + 1) a
        omega
      · rintro r iv1 av1 hR1 ⟨rfl, g2, g3, g4⟩
        refine ⟨by omega, OkN.mono (ih (2 * (i - A) + 1) av1 (by omega) (by omega) (fun l' hl' k hk => (congrFun (g2 104 (by decide)) _).trans (h3 l' (by omega) k hk)) (fun a ha => (congrFun (g2 101 (by decide)) _).trans (h4 a ha)) fun a ha => ?_) ?_⟩
        · have q := h5 a ha
          rw [htk] at q
          have := tk0 l (2 * (i - A)) a
          rw [g3 a ha]
          omega
        · rintro r iv2 av2 hR2 ⟨rfl, q2, q3, q4⟩
          refine ⟨rfl, g2.tr q2, fun a ha => ?_, fun s hs => (q4 s hs).trans (g4 s hs)⟩
          rw [q3 a ha, g3 a ha, htk]
          omega
end RMaker
