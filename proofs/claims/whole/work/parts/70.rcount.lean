/-! The reference counts tokens, and leaves no count of lengths. -/
section SCount2
variable {Y : Gl} {X : Cx} {e : Nat} {iv av : IVt}
theorem l_X13_countTok2 (C : CX Y X RX13 "countTokens" cX13_countTokens 2 none (e + 3) 0 0) {g : Nat × (Nat → Int) × (Nat → Int)} (hg : TkR iv av g) (hok : TokOK g) (hn : g.1 ≤ 4096) {P : PN} (hP : ∀ av', Off [98] av av' → (∀ s, s < 288 → av' 98 s = cS g s) → (∀ s, s < 32 → av' 98 (288 + s) = cD g s) → (∀ s, s < 19 → av' 98 (320 + s) = 0) → P 0 iv av') : ∀ (m t : Nat) (av1 : IVt), m + t = g.1 → Off [98] av av1 → (∀ s, s < 288 → av1 98 s = cn (tsy g) s t + if s = 256 then 1 else 0) → (∀ s, s < 32 → av1 98 (288 + s) = cn (tds g) s t) → (∀ s, s < 19 → av1 98 (320 + s) = 0) → L_X13_countTokens_33 Y X P t iv av1 := by
  intro m
  induction m with
  | zero =>
    intro t av1 h1 h2 h3 h4 h5
    have e1 : t = g.1 := by omega
    subst e1
    exact w_X13_countTokens_33 C (by omega) fun _ => ⟨fun _ => hP av1 h2 h3 h4 h5, fun h => absurd h (by have := hg.1; omega)⟩
  | succ m ih =>
    intro t av1 h1 h2 h3 h4 h5
    have hgt := hg.2 t (by omega)
    have e96 : av1 96 t = g.2.1 t := (congrFun (h2 96 (by decide)) t).trans hgt.1
    have e97 : av1 97 t = g.2.2 t := (congrFun (h2 97 (by decide)) t).trans hgt.2
    have hcS : ∀ s : Nat, 0 ≤ cn (tsy g) s t ∧ cn (tsy g) s t ≤ t := fun s => cn_le _ _ _
    have hcD : ∀ s : Nat, 0 ≤ cn (tds g) s t ∧ cn (tds g) s t ≤ t := fun s => cn_le _ _ _
    refine w_X13_countTokens_33 C (by omega) fun _ => ⟨fun h => absurd h (by have := hg.1; omega), fun _ => ⟨by omega, ?_⟩⟩
    rw [Int.toNat_natCast, e96]
    refine fun _ => ⟨fun hne => ?_, fun hz => ?_⟩
    · obtain ⟨c1, c2, c3, c4⟩ := (hok t (by omega)).resolve_left (fun h => hne h.1)
      have hs : tsy g t = (lsy (g.2.1 t).toNat : Nat) := by unfold tsy; rw [if_neg hne]
      have hd : tds g t = (dsy (g.2.2 t).toNat : Nat) := by unfold tds; rw [if_neg hne]
      obtain ⟨a, ha⟩ := Int.eq_ofNat_of_zero_le (show 0 ≤ g.2.1 t by omega)
      obtain ⟨b, hb⟩ := Int.eq_ofNat_of_zero_le (show 0 ≤ g.2.2 t by omega)
      rw [ha] at hs ⊢
      rw [hb] at hd e97
      rw [Int.toNat_natCast] at hs hd
      have i1 := lsy_in a
      have i2 := dsy_in b
      refine OkN.mono (s_X13_lengthSymbol (n := a) (by omega)) ?_
      rintro r iv' av' hR ⟨rfl, rfl, rfl⟩ hr
      refine ⟨by omega, fun _ => ?_⟩
      rw [Int.toNat_natCast, h3 _ (by omega)]
      have q1 := hcS (lsy a)
      refine ⟨by split <;> omega, ?_⟩
      rw [e97]
      refine fun _ => OkN.mono (s_X13_distanceSymbol (n := b) (by omega)) ?_
      rintro r iv2 av2 hR2 ⟨rfl, rfl, rfl⟩ hr2
      rw [show (288 + (dsy b : Nat) : Int) = ((288 + dsy b : Nat) : Int) by omega]
      refine ⟨by omega, ?_⟩
      rw [Int.toNat_natCast, up2_nj (by omega), h4 _ (by omega)]
      have q2 := hcD (dsy b)
      refine fun _ => ⟨by omega, ?_⟩
      rw [show (t : Int) + 1 = ((t + 1 : Nat) : Int) by omega]
      refine ih (t + 1) _ (by omega) ((h2.up (by decide)).up (by decide)) (fun s hs' => ?_) (fun s hs' => ?_) fun s hs' => by rw [up2_nj (by omega), up2_nj (by omega)]; exact h5 s hs'
      · rw [up2_nj (by omega), up2_at, cn, hs]
        by_cases hsl : s = lsy a
        · subst hsl
          rw [if_pos rfl, if_pos rfl]
          omega
        · rw [if_neg hsl, if_neg (by omega), h3 s hs']
          omega
      · rw [up2_at, cn, hd]
        by_cases hsl : s = dsy b
        · subst hsl
          rw [if_pos rfl, if_pos rfl]
        · rw [if_neg (by omega), if_neg (by omega), up2_nj (by omega), h4 s hs']
          omega
    · obtain ⟨c1, c2, c3⟩ := (hok t (by omega)).resolve_right (fun h => by omega)
      have hs : tsy g t = g.2.2 t := by unfold tsy; rw [if_pos hz]
      have hd : tds g t = -1 := by unfold tds; rw [if_pos hz]
      obtain ⟨b, hb⟩ := Int.eq_ofNat_of_zero_le c2
      rw [hb] at hs e97
      rw [e97]
      refine fun _ => ⟨by omega, ?_⟩
      rw [Int.toNat_natCast, h3 _ (by omega)]
      have q1 := hcS b
      refine fun _ => ⟨by split <;> omega, ?_⟩
      rw [show (t : Int) + 1 = ((t + 1 : Nat) : Int) by omega]
      refine ih (t + 1) _ (by omega) (h2.up (by decide)) (fun s hs' => ?_) (fun s hs' => ?_) fun s hs' => by rw [up2_nj (by omega)]; exact h5 s hs'
      · rw [up2_at, cn, hs]
        by_cases hsl : s = b
        · subst hsl
          rw [if_pos rfl, if_pos rfl]
          omega
        · rw [if_neg hsl, if_neg (by omega), h3 s hs']
          omega
      · rw [up2_nj (by omega), cn, hd, if_neg (by omega), h4 s hs']
        omega
theorem s_X13_countTok2 {g : Nat × (Nat → Int) × (Nat → Int)} (hg : TkR iv av g) (hok : TokOK g) (hn : g.1 ≤ 4096) : OkN Y (e + 3) mX13_countTokens [.ref (gl_b Y + 73)] RV iv av 116
    (fun r iv' av' => iv' = iv ∧ Off [98] av av' ∧ (∀ s, s < 288 → av' 98 s = cS g s) ∧ (∀ s, s < 32 → av' 98 (288 + s) = cD g s) ∧ ∀ s, s < 19 → av' 98 (320 + s) = 0) := by
  refine o_X13_countTokens fun X C => ?_
  have lp : ∀ (m k : Nat) (av1 : IVt), m + k = 339 → Off [98] av av1 → (∀ i, i < k → av1 98 i = 0) → L_X13_countTokens_2 Y X (fun r iv' av' => iv' = iv ∧ Off [98] av av' ∧ (∀ s, s < 288 → av' 98 s = cS g s) ∧ (∀ s, s < 32 → av' 98 (288 + s) = cD g s) ∧ ∀ s, s < 19 → av' 98 (320 + s) = 0) k iv av1 := by
    intro m
    induction m with
    | zero =>
      intro k av1 h1 h2 h3
      refine w_X13_countTokens_2 C (by omega) ⟨fun _ => ?_, fun h => absurd h (by omega)⟩
      refine l_X13_countTok2 C hg hok hn (fun av' g1 g2 g3 g4 => ⟨rfl, g1, g2, g3, g4⟩) g.1 0 _ (by omega) (h2.up (by decide)) (fun s hs => ?_) (fun s hs => ?_) fun s hs => by rw [up2_nj (by omega)]; exact h3 _ (by omega)
      · rw [up2_at, cn]
        by_cases h : s = 256
        · rw [if_pos h, if_pos h]
          rfl
        · rw [if_neg h, if_neg h, h3 s (by omega)]
          rfl
      · rw [up2_nj (by omega), h3 _ (by omega)]
        rfl
    | succ m ih =>
      intro k av1 h1 h2 h3
      refine w_X13_countTokens_2 C (by omega) ⟨fun h => absurd h (by omega), fun _ => ⟨by omega, ?_⟩⟩
      rw [Int.toNat_natCast, show (k : Int) + 1 = ((k + 1 : Nat) : Int) by omega]
      refine ih (k + 1) _ (by omega) (h2.up (by decide)) fun i hi => ?_
      rw [up2_at]
      split
      · rfl
      · exact h3 i (by omega)
  exact lp 339 0 av rfl (Off.rf _ _) fun i hi => absurd hi (Nat.not_lt_zero _)
end SCount2
