/-! The reference tells the row of lengths. -/
section SRTold
variable {Y : Gl} {X : Cx} {e : Nat} {iv av : IVt}
/-- the reference's told row, and how often each symbol stands in it -/
def TdR (iv av : IVt) (q : Nat × (Nat → Int) × (Nat → Int)) : Prop := iv 73 45 = q.1 ∧ (∀ i, i < q.1 → av 106 i = q.2.1 i ∧ av 107 i = q.2.2 i) ∧ ∀ s : Nat, s < 19 → av 98 (320 + s) = cn q.2.1 s q.1
def TfR (iv av iv' av' : IVt) : Prop := OffM [] [45] iv iv' ∧ Off [98, 106, 107] av av' ∧ ∀ s, s < 320 → av' 98 s = av 98 s
theorem TfR.rf (iv av : IVt) : TfR iv av iv av := ⟨OffM.rf _ _ _, Off.rf _ _, fun _ _ => rfl⟩
theorem TfR.tr {a b c d x y : IVt} (h : TfR a b c d) (g : TfR c d x y) : TfR a b x y := ⟨h.1.tr g.1, h.2.1.tr g.2.1, fun s hs => (g.2.2 s hs).trans (h.2.2 s hs)⟩
theorem s_X13_tell {q : Nat × (Nat → Int) × (Nat → Int)} {x : Nat} {y : Int} (hx : x ≤ 18) (hy : InR y) (h : TdR iv av q) (hq : q.1 < 320) : OkN Y e mX13_tell [.ref (gl_b Y + 73), .int (i32 (x : Int)), .int (i32 y)] RV iv av 116 (fun r iv' av' => TfR iv av iv' av' ∧ TdR iv' av' (tap q x y)) := by
  have hc := h.2.2 x (by omega)
  have hcl := cn_le q.2.1 x q.1
  refine o_X13_tell (by omega) hy ?_
  rw [h.1, Int.toNat_natCast, show (320 + (x : Int)).toNat = 320 + x by omega, hc]
  refine fun _ => ⟨by omega, by omega, by omega, fun _ => ⟨by omega, ⟨(OffM.rf _ _ _).up (by decide), (((Off.rf _ _).up (by decide)).up (by decide)).up (by decide), fun s hs => ?_⟩, ?_, fun i hi => ?_, fun s hs => ?_⟩⟩
  · rw [up2_nj (by omega), up2_ne (by decide), up2_ne (by decide)]
  · rw [up2_eq]
    show _ = ((q.1 + 1 : Nat) : Int)
    omega
  · show up2 (up2 av 106 q.1 (x : Int)) 107 q.1 y 106 i = (if i = q.1 then (x : Int) else q.2.1 i) ∧ up2 (up2 av 106 q.1 (x : Int)) 107 q.1 y 107 i = if i = q.1 then y else q.2.2 i
    have hi' : i < q.1 + 1 := hi
    rw [up2_ne (by decide), up2_at, up2_at, up2_ne (by decide)]
    by_cases g : i = q.1
    · simp only [if_pos g, and_self]
    · simp only [if_neg g]
      exact h.2.1 i (by omega)
  · rw [tap_cn, up2_at]
    by_cases g : s = x
    · subst g
      rw [if_pos rfl, if_pos rfl]
    · rw [if_neg (by omega), if_neg (by omega), up2_ne (by decide), up2_ne (by decide), h.2.2 s hs, Int.add_zero]
theorem l_X13_tellRow {rw : Nat → Int} {n : Nat} (C : CX Y X RX13 "tellRow" cX13_tellRow 7 none (e + 1) 0 0) (hn : n ≤ 320) (hrow : ∀ i, i < n → 0 ≤ rw i ∧ rw i ≤ 15) {iv0 av0 : IVt} (h105 : ∀ i, i < n → av0 105 i = rw i) {P : PN} {k : Nat} (hk : k ≤ n) {T : Nat × (Nat → Int) × (Nat → Int)} (hT : T.1 ≤ k) (h7 : ∀ iv1 av1, TfR iv0 av0 iv1 av1 → TdR iv1 av1 T → L_X13_tellRow_7 Y X P n k iv1 av1) {v : Int} (hv : 0 ≤ v ∧ v ≤ 15) :
    (∀ (j : Nat) (q : Nat × (Nat → Int) × (Nat → Int)) (iv1 av1 : IVt), TfR iv0 av0 iv1 av1 → TdR iv1 av1 q → q.1 + j ≤ k → tP v j q = T → L_X13_tellRow_173 Y X P n k v j iv1 av1) ∧
    ∀ (fu j : Nat) (q : Nat × (Nat → Int) × (Nat → Int)) (iv1 av1 : IVt), j ≤ fu → TfR iv0 av0 iv1 av1 → TdR iv1 av1 q → q.1 + j ≤ k → tR v fu j q = T → L_X13_tellRow_67 Y X P n k v j iv1 av1 := by
  obtain ⟨vn, hvn⟩ := Int.eq_ofNat_of_zero_le hv.1
  subst hvn
  have l173 : ∀ (j : Nat) (q : Nat × (Nat → Int) × (Nat → Int)) (iv1 av1 : IVt), TfR iv0 av0 iv1 av1 → TdR iv1 av1 q → q.1 + j ≤ k → tP vn j q = T → L_X13_tellRow_173 Y X P n k vn j iv1 av1 := by
    intro j
    induction j with
    | zero =>
      intro q iv1 av1 h1 h2 h3 h4
      rw [tP] at h4
      subst h4
      exact w_X13_tellRow_173 C (by omega) (by omega) ⟨fun _ => h7 iv1 av1 h1 h2, fun g => absurd g (by omega)⟩
    | succ j ih =>
      intro q iv1 av1 h1 h2 h3 h4
      refine w_X13_tellRow_173 C (by omega) (by omega) ⟨fun g => absurd g (by omega), fun _ => OkN.mono (s_X13_tell (x := vn) (by omega) (by omega) h2 (by omega)) ?_⟩
      rintro r iv2 av2 hR2 ⟨g1, g2⟩
      rw [show ((j + 1 : Nat) : Int) + -1 = (j : Int) by omega]
      exact ih _ iv2 av2 (h1.tr g1) g2 (by show q.1 + 1 + j ≤ k; omega) h4
  refine ⟨l173, fun fu => ?_⟩
  induction fu with
  | zero =>
    intro j q iv1 av1 h0 h1 h2 h3 h4
    have go := l173 j q iv1 av1 h1 h2 h3 h4
    refine w_X13_tellRow_67 C (by omega) (by omega) ⟨fun hz => ⟨fun _ => ⟨fun _ => go, fun _ => ⟨fun _ => go, fun g => absurd g (by omega)⟩⟩, fun g => absurd g (by omega)⟩, fun hp => ⟨fun _ => ⟨fun _ => go, fun g => absurd g (by omega)⟩, fun g => absurd g (by omega)⟩⟩
  | succ fu ih =>
    intro j q iv1 av1 h0 h1 h2 h3 h4
    by_cases hz : vn = 0
    · subst hz
      by_cases h11 : 11 ≤ j
      · refine w_X13_tellRow_67 C (by omega) (by omega) ⟨fun _ => ⟨fun g => absurd g (by omega), fun _ => ⟨fun _ => ?_, fun g => absurd g (by omega)⟩⟩, fun g => absurd g (by omega)⟩
        have go : L_X13_tellRow_112 Y X P n k ((0 : Nat) : Int) j ((min j 138 : Nat) : Int) iv1 av1 := by
          refine w_X13_tellRow_112 C (by omega) ⟨fun _ => ⟨fun _ => ⟨by omega, ?_⟩, fun g => absurd g (by omega)⟩, fun g => absurd g (by omega)⟩
          rw [show ((min j 138 : Nat) : Int) - 11 = ((min j 138 - 11 : Nat) : Int) by omega]
          refine OkN.mono (s_X13_tell (x := 18) (by omega) (by omega) h2 (by omega)) ?_
          rintro r iv2 av2 hR2 ⟨g1, g2⟩
          refine w_X13_tellRow_140 C ?_
          rw [show (j : Int) - ((min j 138 : Nat) : Int) = ((j - min j 138 : Nat) : Int) by omega]
          refine ih _ _ iv2 av2 (by omega) (h1.tr g1) g2 (by show q.1 + 1 + (j - min j 138) ≤ k; omega) ?_
          rw [← h4, tR, if_neg (by omega), if_pos ⟨rfl, h11⟩]
          rfl
        refine w_X13_tellRow_96 C (by omega) (by omega) ⟨fun g => ?_, fun g => ?_⟩
        · rw [show min j 138 = 138 by omega] at go
          exact go
        · rw [show min j 138 = j by omega] at go
          exact go
      · by_cases h33 : 3 ≤ j
        · refine w_X13_tellRow_67 C (by omega) (by omega) ⟨fun _ => ⟨fun _ => ⟨fun g => absurd rfl g, fun _ => ⟨fun g => absurd g (by omega), fun _ => ⟨by omega, ?_⟩⟩⟩, fun g => absurd g (by omega)⟩, fun g => absurd g (by omega)⟩
          rw [show (j : Int) - 3 = ((j - 3 : Nat) : Int) by omega]
          refine OkN.mono (s_X13_tell (x := 17) (by omega) (by omega) h2 (by omega)) ?_
          rintro r iv2 av2 hR2 ⟨g1, g2⟩
          refine l173 0 _ iv2 av2 (h1.tr g1) g2 (by show q.1 + 1 + 0 ≤ k; omega) ?_
          rw [← h4, tR, if_neg (by omega), if_neg (by omega), if_pos ⟨rfl, h33⟩, tP]
          rfl
        · have go := l173 j q iv1 av1 h1 h2 h3 (by rw [← h4, tR, if_neg (by omega), if_neg (by omega), if_neg (by omega)])
          exact w_X13_tellRow_67 C (by omega) (by omega) ⟨fun _ => ⟨fun _ => ⟨fun g => absurd rfl g, fun _ => ⟨fun _ => go, fun g => absurd g (by omega)⟩⟩, fun g => absurd g (by omega)⟩, fun g => absurd g (by omega)⟩
    · by_cases h33 : 3 ≤ j
      · refine w_X13_tellRow_67 C (by omega) (by omega) ⟨fun g => absurd g (by omega), fun _ => ⟨fun g => absurd g (by omega), fun _ => ⟨fun g => absurd g (by omega), fun _ => ?_⟩⟩⟩
        have go : L_X13_tellRow_112 Y X P n k vn j ((min j 6 : Nat) : Int) iv1 av1 := by
          refine w_X13_tellRow_112 C (by omega) ⟨fun g => absurd g (by omega), fun _ => ⟨fun g => absurd g (by omega), fun _ => ⟨by omega, ?_⟩⟩⟩
          rw [show ((min j 6 : Nat) : Int) - 3 = ((min j 6 - 3 : Nat) : Int) by omega]
          refine OkN.mono (s_X13_tell (x := 16) (by omega) (by omega) h2 (by omega)) ?_
          rintro r iv2 av2 hR2 ⟨g1, g2⟩
          refine w_X13_tellRow_140 C ?_
          rw [show (j : Int) - ((min j 6 : Nat) : Int) = ((j - min j 6 : Nat) : Int) by omega]
          refine ih _ _ iv2 av2 (by omega) (h1.tr g1) g2 (by show q.1 + 1 + (j - min j 6) ≤ k; omega) ?_
          rw [← h4, tR, if_pos (by omega)]
          rfl
        refine w_X13_tellRow_96 C (by omega) (by omega) ⟨fun g => ?_, fun g => ?_⟩
        · rw [show min j 6 = 6 by omega] at go
          exact go
        · rw [show min j 6 = j by omega] at go
          exact go
      · have go := l173 j q iv1 av1 h1 h2 h3 (by rw [← h4, tR, if_neg (by omega), if_neg (by omega), if_neg (by omega)])
        exact w_X13_tellRow_67 C (by omega) (by omega) ⟨fun g => absurd g (by omega), fun _ => ⟨fun _ => ⟨fun _ => go, fun g => absurd g (by omega)⟩, fun g => absurd g (by omega)⟩⟩
theorem s_X13_tellRow {rw : Nat → Int} {n : Nat} (hn : n ≤ 320) (hrow : ∀ i, i < n → 0 ≤ rw i ∧ rw i ≤ 15) (h105 : ∀ i, i < n → av 105 i = rw i) (h98 : ∀ s, s < 19 → av 98 (320 + s) = 0) : OkN Y (e + 1) mX13_tellRow [.ref (gl_b Y + 73), .int (i32 (n : Int))] RV iv av 116 (fun r iv' av' => TfR iv av iv' av' ∧ TdR iv' av' (told rw n)) := by
  refine o_X13_tellRow fun X C => ?_
  have lp : ∀ (f k : Nat) (iv1 av1 : IVt), n ≤ k + f → k ≤ n → TfR iv av iv1 av1 → TdR iv1 av1 (trun (tst rw k).1 (tst rw k).2.1 (tst rw k).2.2) → (k < n → rw k ≠ (tst rw k).1) → L_X13_tellRow_7 Y X (fun r iv' av' => TfR iv av iv' av' ∧ TdR iv' av' (told rw n)) n k iv1 av1 := by
    intro f
    induction f with
    | zero =>
      intro k iv1 av1 h1 h2 h3 h4 h5
      have : k = n := by omega
      subst this
      exact w_X13_tellRow_7 C (by omega) (by omega) ⟨fun _ => ⟨h3, h4⟩, fun g => absurd g (by omega)⟩
    | succ f ih =>
      intro k iv1 av1 h1 h2 h3 h4 h5
      by_cases hkn : k = n
      · subst hkn
        exact w_X13_tellRow_7 C (by omega) (by omega) ⟨fun _ => ⟨h3, h4⟩, fun g => absurd g (by omega)⟩
      · have e105 : ∀ av2, Off [98, 106, 107] av av2 → ∀ i, i < n → av2 105 i = rw i := fun av2 h i hi => (congrFun (h 105 (by decide)) i).trans (h105 i hi)
        have hvk := hrow k (by omega)
        have hq := tst_cnt rw k
        have hqr := trun_cnt (tst rw k).1 (tst rw k).2.1 (tst rw k).2.2
        have st0 : tst rw (k + 1) = (rw k, 1, trun (tst rw k).1 (tst rw k).2.1 (tst rw k).2.2) := by rw [tst, if_neg (h5 (by omega))]
        refine w_X13_tellRow_7 C (by omega) (by omega) ⟨fun g => absurd g (by omega), fun _ => ⟨by omega, ?_⟩⟩
        rw [Int.toNat_natCast, e105 av1 h3.2.1 k (by omega)]
        refine fun _ => ?_
        generalize trun (tst rw k).1 (tst rw k).2.1 (tst rw k).2.2 = Q at *
        -- at the end of the stretch
        have fin : ∀ (L : Nat), 1 ≤ L → k + L ≤ n → tst rw (k + L) = (rw k, L, Q) → (k + L < n → rw (k + L) ≠ rw k) → ((rw k ≤ 0) → L_X13_tellRow_67 Y X (fun r iv' av' => TfR iv av iv' av' ∧ TdR iv' av' (told rw n)) n ((k : Int) + L) (rw k) L iv1 av1) ∧ ((¬ rw k ≤ 0) → OkN Y e mX13_tell [.ref (gl_b Y + 73), .int (i32 (rw k)), .int (i32 0)] RV iv1 av1 116 (fun r4 iv5 av6 => L_X13_tellRow_67 Y X (fun r iv' av' => TfR iv av iv' av' ∧ TdR iv' av' (told rw n)) n ((k : Int) + L) (rw k) ((L : Int) + (-1)) iv5 av6)) := by
          intro L g1 g2 g3 g4
          have l67 := (l_X13_tellRow (Y := Y) (X := X) (e := e) C hn hrow (iv0 := iv) (av0 := av) h105 (P := fun r iv' av' => TfR iv av iv' av' ∧ TdR iv' av' (told rw n)) (k := k + L) g2 (T := trun (rw k) L Q) (by have := trun_cnt (rw k) L Q; omega) (fun iv2 av2 u1 u2 => ih (k + L) iv2 av2 (by omega) g2 u1 (by rw [g3]; exact u2) (by rw [g3]; exact g4)) (v := rw k) hvk).2
          rw [show (k : Int) + (L : Int) = ((k + L : Nat) : Int) by omega]
          refine ⟨fun hle => l67 L L Q iv1 av1 (Nat.le_refl _) h3 h4 (by omega) ?_, fun hgt => ?_⟩
          · unfold trun
            rw [if_neg (by omega)]
          · obtain ⟨vn, hvn⟩ := Int.eq_ofNat_of_zero_le hvk.1
            have tl := s_X13_tell (Y := Y) (e := e) (x := vn) (y := 0) (by omega) (by omega) h4 (by omega)
            rw [← hvn] at tl
            refine OkN.mono tl ?_
            rintro r iv2 av2 hR2 ⟨u1, u2⟩
            rw [show (L : Int) + -1 = ((L - 1 : Nat) : Int) by omega]
            refine l67 (L - 1) (L - 1) _ iv2 av2 (Nat.le_refl _) (h3.tr u1) u2 (by show Q.1 + 1 + (L - 1) ≤ k + L; omega) ?_
            unfold trun
            rw [if_pos (by omega)]
        have lp2 : ∀ (M L : Nat), L + M = n - k → (L = 0 ∨ tst rw (k + L) = (rw k, L, Q)) → L_X13_tellRow_22 Y X (fun r iv' av' => TfR iv av iv' av' ∧ TdR iv' av' (told rw n)) n k (rw k) L iv1 av1 := by
          intro M
          induction M with
          | zero =>
            intro L g1 g2
            have hL := g2.resolve_left (by omega)
            refine w_X13_tellRow_22 C (by omega) (by omega) ⟨by omega, fun _ => fin L (by omega) (by omega) hL (fun g => absurd g (by omega)), fun g => absurd g (by omega)⟩
          | succ M ihM =>
            intro L g1 g2
            refine w_X13_tellRow_22 C (by omega) (by omega) ⟨by omega, fun g => absurd g (by omega), fun _ => ⟨by omega, ?_⟩⟩
            rw [show ((k : Int) + (L : Int)).toNat = k + L by omega, e105 av1 h3.2.1 (k + L) (by omega)]
            refine fun _ => ⟨fun hne => ?_, fun heq => ?_⟩
            · by_cases hL0 : L = 0
              · subst hL0
                exact absurd rfl hne
              · exact fin L (by omega) (by omega) (g2.resolve_left hL0) (fun _ => hne)
            · rw [show (L : Int) + 1 = ((L + 1 : Nat) : Int) by omega]
              refine ihM (L + 1) (by omega) (Or.inr ?_)
              rcases g2 with g | g
              · subst g
                exact st0
              · rw [← Nat.add_assoc, tst, g, if_pos heq]
        exact lp2 (n - k) 0 (by omega) (Or.inl rfl)
  refine lp n 0 _ av (by omega) (by omega) ⟨(OffM.rf _ _ _).up (by decide), Off.rf _ _, fun _ _ => rfl⟩ ⟨up2_eq _ _ _ _, fun i hi => absurd hi (Nat.not_lt_zero _), h98⟩ fun h => ?_
  have := hrow 0 h
  show rw 0 ≠ -1
  omega
end SRTold
