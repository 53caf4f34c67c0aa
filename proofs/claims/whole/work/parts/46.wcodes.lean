/-! The reference's codes for packing. -/
theorem trn_bit (c : Int) : ∀ (l i : Nat), i < l → trn c l / 2 ^ i % 2 = c / 2 ^ (l - 1 - i) % 2 := by
  intro l
  induction l with
  | zero => intro i h; omega
  | succ l ih =>
    intro i hi
    have e : trn c (l + 1) = 2 * trn c l + c / 2 ^ l % 2 := rfl
    rw [e]
    have hb : c / 2 ^ l % 2 = 0 ∨ c / 2 ^ l % 2 = 1 := by omega
    cases i with
    | zero =>
      rw [show l + 1 - 1 - 0 = l by omega, show (2 : Int) ^ 0 = 1 from rfl]
      omega
    | succ i =>
      have h := ih i (by omega)
      rw [show l + 1 - 1 - (i + 1) = l - 1 - i by omega, ← h, pwS, ← Int.ediv_ediv_of_nonneg (show (0 : Int) ≤ 2 by omega), show (2 * trn c l + c / 2 ^ l % 2) / 2 = trn c l by omega]
section SWcodes
variable {Y : Gl} {X : Cx} {e : Nat} {iv av : IVt} {b : Bw} {a1 a n : Nat} {f : Nat → Int}
theorem cd_in (hn : n ≤ 288) {s : Nat} (hs : s ≤ n) (h1 : 1 ≤ f s) (h15 : f s ≤ 15) : 0 ≤ cd f n s ∧ cd f n s ≤ 20000000 := by
  unfold cd
  have h := ac_le15 f hn (show (f s).toNat - 1 ≤ 15 by omega)
  have h2 := cn_le f (f s) s
  omega
theorem s_X13_codeOf (Ka : ArrK 100 a1) (hl : Len av a1 a n f) {s : Nat} (hs : s < n) (h1 : 1 ≤ f s) : OkN Y e mX13_codeOf [.ref (gl_b Y + a1), .int (i32 (a : Int)), .int (i32 (n : Int)), .int (i32 (s : Int))] RV iv av 116 (Same iv av (cd f n s)) := by
  have hk := kl_le a1
  have ha := hl.1
  have hn := hl.2.1
  have hfs := hl.2.2 s hs
  refine o_X13_codeOf Ka fun X C => ?_
  have lp : ∀ (M l : Nat), l + M = (f s).toNat + 1 → 1 ≤ l → ∀ x : Int, x = (if l ≤ (f s).toNat then ac f n (l - 1) else cd f n s) → L_X13_codeOf_6 Y X (Same iv av (cd f n s)) a1 a n s x l iv av := by
    intro M
    induction M with
    | zero =>
      intro l h2 h3 x hx
      rw [if_neg (by omega)] at hx
      have hc := cd_in (f := f) hn (show s ≤ n by omega) h1 hfs.2.2
      refine w_X13_codeOf_6 C Ka (by omega) (by omega) ⟨by omega, ?_⟩
      rw [show ((a : Int) + s).toNat = a + s by omega, hfs.1]
      exact fun _ => ⟨fun _ => ⟨hx, rfl, rfl⟩, fun h => absurd h (by omega)⟩
    | succ M ih =>
      intro l h2 h3 x hx
      rw [if_pos (by omega)] at hx
      subst hx
      have hac := ac_le15 f hn (show l - 1 ≤ 15 by omega)
      refine w_X13_codeOf_6 C Ka (by omega) (by omega) ⟨by omega, ?_⟩
      rw [show ((a : Int) + s).toNat = a + s by omega, hfs.1]
      refine fun _ => ⟨fun h => absurd h (by omega), fun _ => ?_⟩
      have lp2 : ∀ (m k : Nat), k + m = n → L_X13_codeOf_25 Y X (Same iv av (cd f n s)) a1 a n s (2 * ac f n (l - 1) + (if (l : Int) < f s then cn f l k else cn f l (min k s))) l k iv av := by
        intro m
        induction m with
        | zero =>
          intro k g1
          have hkn : k = n := by omega
          subst hkn
          refine w_X13_codeOf_25 C Ka (by omega) (by omega) (by omega) (by omega) ⟨fun _ => ?_, fun h => absurd h (by omega)⟩
          rw [show (l : Int) + 1 = ((l + 1 : Nat) : Int) by omega]
          refine ih (l + 1) (by omega) (by omega) _ ?_
          by_cases hls : (l : Int) < f s
          · rw [if_pos hls, if_pos (by omega)]
            obtain ⟨l', rfl⟩ : ∃ l', l = l' + 1 := ⟨l - 1, by omega⟩
            rfl
          · rw [if_neg hls, if_neg (by omega), show min k s = s by omega]
            unfold cd
            rw [show f s = (l : Int) by omega, Int.toNat_natCast]
        | succ m ih2 =>
          intro k g1
          have hfk := hl.2.2 k (by omega)
          have ecn : cn f l (k + 1) = cn f l k + if f k = l then 1 else 0 := rfl
          refine w_X13_codeOf_25 C Ka (by omega) (by omega) (by omega) (by omega) ⟨fun h => absurd h (by omega), fun _ => ⟨by omega, ?_⟩⟩
          rw [show ((a : Int) + s).toNat = a + s by omega, hfs.1, show ((a : Int) + k).toNat = a + k by omega, hfk.1, show (k : Int) + 1 = ((k + 1 : Nat) : Int) by omega]
          have nx := ih2 (k + 1) (by omega)
          refine fun _ => ⟨fun hlt => ⟨by omega, fun _ => ⟨fun hne => ?_, fun heq => ?_⟩⟩, fun hge => ⟨fun hle => ⟨by omega, fun _ => ⟨fun hne => ?_, fun heq => ?_⟩⟩, fun hgt => ⟨by omega, fun _ => ⟨fun hne => ?_, fun heq => ?_⟩⟩⟩⟩
          · rw [if_pos hlt] at nx ⊢
            rw [ecn, if_neg hne, Int.add_zero] at nx
            exact nx
          · rw [if_pos hlt] at nx ⊢
            rw [ecn, if_pos heq, ← Int.add_assoc] at nx
            exact nx
          · rw [if_neg hge] at nx ⊢
            rw [show min (k + 1) s = min k s by omega] at nx
            exact nx
          · rw [if_neg hge] at nx ⊢
            rw [show min (k + 1) s = min k s by omega] at nx
            exact nx
          · rw [if_neg hge] at nx ⊢
            rw [show min (k + 1) s = k + 1 by omega, ecn, if_neg hne, Int.add_zero] at nx
            rw [show min k s = k by omega]
            exact nx
          · rw [if_neg hge] at nx ⊢
            rw [show min (k + 1) s = k + 1 by omega, ecn, if_pos heq, ← Int.add_assoc] at nx
            rw [show min k s = k by omega]
            exact nx
      have g := lp2 n 0 (by omega)
      have e0 : (if (l : Int) < f s then cn f l 0 else cn f l (min 0 s)) = 0 := by
        rw [Nat.zero_min]
        split <;> rfl
      rw [e0, Int.add_zero] at g
      exact g
  exact lp (f s).toNat 1 (by omega) (by omega) 0 (by rw [if_pos (by omega)]; rfl)
theorem s_X13_makeCodes (Ka : ArrK 100 a1) (h108 : a1 ≠ 108) (hl : Len av a1 a n f) (h339 : a + n ≤ 339) : OkN Y (e + 1) mX13_makeCodes [.ref (gl_b Y + 73), .ref (gl_b Y + a1), .int (i32 (a : Int)), .int (i32 (n : Int))] RV iv av 116
    (fun r iv' av' => iv' = iv ∧ Off [108] av av' ∧ (∀ s, s < n → av' 108 (a + s) = if 0 < f s then cd f n s else 0) ∧ ∀ j, (j < a ∨ a + n ≤ j) → av' 108 j = av 108 j) := by
  have hk := kl_le a1
  have ha := hl.1
  have hn := hl.2.1
  refine o_X13_makeCodes Ka fun X C => ?_
  have lp : ∀ (m k : Nat) (av1 : IVt), k + m = n → Off [108] av av1 → (∀ s, s < k → av1 108 (a + s) = if 0 < f s then cd f n s else 0) → (∀ j, (j < a ∨ a + n ≤ j) → av1 108 j = av 108 j) → L_X13_makeCodes_3 Y X (fun r iv' av' => iv' = iv ∧ Off [108] av av' ∧ (∀ s, s < n → av' 108 (a + s) = if 0 < f s then cd f n s else 0) ∧ ∀ j, (j < a ∨ a + n ≤ j) → av' 108 j = av 108 j) a1 a n k iv av1 := by
    intro m
    induction m with
    | zero =>
      intro k av1 h1 h2 h3 h4
      have : k = n := by omega
      subst this
      exact w_X13_makeCodes_3 C Ka (by omega) (by omega) (by omega) ⟨fun _ => ⟨rfl, h2, h3, h4⟩, fun h => absurd h (by omega)⟩
    | succ m ih =>
      intro k av1 h1 h2 h3 h4
      have hfk := hl.2.2 k (by omega)
      have hl1 : Len av1 a1 a n f := hl.of (h2 a1 (by simp [h108]))
      have next : ∀ v : Int, v = (if 0 < f k then cd f n k else 0) → L_X13_makeCodes_3 Y X (fun r iv' av' => iv' = iv ∧ Off [108] av av' ∧ (∀ s, s < n → av' 108 (a + s) = if 0 < f s then cd f n s else 0) ∧ ∀ j, (j < a ∨ a + n ≤ j) → av' 108 j = av 108 j) a1 a n ((k : Int) + 1) iv (up2 av1 108 ((a : Int) + k).toNat v) := by
        intro v hv
        rw [show (k : Int) + 1 = ((k + 1 : Nat) : Int) by omega, show ((a : Int) + k).toNat = a + k by omega]
        refine ih (k + 1) _ (by omega) (h2.up (by decide)) (fun s hs => ?_) fun j hj => ?_
        · rw [up2_at]
          by_cases hsk : s = k
          · rw [if_pos (by omega), hsk, hv]
          · rw [if_neg (by omega)]
            exact h3 s (by omega)
        · rw [up2_at, if_neg (by omega)]
          exact h4 j hj
      refine w_X13_makeCodes_3 C Ka (by omega) (by omega) (by omega) ⟨fun h => absurd h (by omega), fun _ => ⟨by omega, ?_⟩⟩
      rw [show ((a : Int) + k).toNat = a + k by omega, hl1.2.2 k (by omega) |>.1]
      refine fun _ => ⟨fun hle => ⟨by omega, ?_⟩, fun hgt => OkN.mono (s_X13_codeOf Ka hl1 (by omega) (by omega)) ?_⟩
      · have := next 0 (by rw [if_neg (by omega)])
        rw [show ((a : Int) + k).toNat = a + k by omega] at this
        exact this
      · rintro r iv2 av2 hR2 ⟨rfl, rfl, rfl⟩ hr
        refine ⟨by omega, ?_⟩
        have := next (cd f n k) (by rw [if_pos (by omega)])
        rw [show ((a : Int) + k).toNat = a + k by omega] at this
        exact this
  exact lp n 0 av (by omega) (Off.rf _ _) (fun s hs => absurd hs (Nat.not_lt_zero _)) fun _ _ => rfl
theorem s_X13_writeCode (Ka : ArrK 100 a1) (hka : kl a1 = 339) (h93 : a1 ≠ 93) (h : PK iv av b) {s : Nat} (hs : s < 339) {l : Nat} (hl : av a1 s = l) (hl15 : l ≤ 15) {c : Int} (hc : 0 < l → av 108 s = c) (hroom : b.1 + l ≤ 528000) : OkN Y (e + 1) mX13_writeCode [.ref (gl_b Y + 73), .ref (gl_b Y + a1), .int (i32 (s : Int))] RV iv av 116
    (fun r iv' av' => WrR iv av iv' av' (wr (trn c l) l b)) := by
  refine o_X13_writeCode Ka fun X C => ⟨by omega, ?_⟩
  rw [Int.toNat_natCast, hl]
  intro _
  have key : ∀ (m j : Nat) (iv1 av1 : IVt), j + m = l → WrR iv av iv1 av1 (wr (trn c l) j b) → L_X13_writeCode_6 Y X (fun r iv' av' => WrR iv av iv' av' (wr (trn c l) l b)) a1 s ((m : Int) - 1) iv1 av1 := by
    intro m
    induction m with
    | zero =>
      intro j iv1 av1 h1 h2
      have : j = l := by omega
      subst this
      exact w_X13_writeCode_6 C Ka (by omega) ⟨fun _ => h2, fun h => absurd h (by omega)⟩
    | succ m ih =>
      intro j iv1 av1 h1 h2
      refine w_X13_writeCode_6 C Ka (by omega) ⟨fun h => absurd h (by omega), fun _ => ⟨by omega, ?_⟩⟩
      rw [Int.toNat_natCast, h2.2.1 108 (by decide), hc (by omega), show ((m + 1 : Nat) : Int) - 1 = (m : Int) by omega, Int.toNat_natCast]
      refine fun _ => ⟨by omega, OkN.mono (s_X13_writeBit h2.2.2 (by omega) (by show b.1 + j < 528000; omega)) ?_⟩
      intro r iv2 av2 hR2 hw
      rw [show (m : Int) + -1 = (m : Int) - 1 by omega]
      refine ih (j + 1) iv2 av2 (by omega) ?_
      have e1 : c / 2 ^ m % 2 = trn c l / 2 ^ j % 2 := by
        rw [trn_bit c l j (by omega), show l - 1 - j = m by omega]
      rw [e1] at hw
      have := h2.tr hw
      exact ⟨this.1, this.2.1, this.2.2.congr (wr_S _ j b) (wr_bit h.1)⟩
  exact key l 0 iv av (by omega) ⟨OffM.rf _ _ _, Off.rf _ _, h.congr ⟨rfl, fun i hi => ((wr_0 _ b).2 i hi).symm⟩ (wr_bit h.1)⟩
end SWcodes
