/-! The reference's unpacking: the head of a made part, and all of it. -/
section SRmade2
variable {Y : Gl} {X : Cx} {e : Nat} {iv av : IVt} {fr N p room : Nat} {w : Int} {o : Outp}
theorem l_X13_rm58_wrong (C : CX Y X RX13 "readMade" cX13_readMade 8 none (e + 2) 0 0) {iv0 av0 : IVt} {P : PN} (hP : ∀ iv' av', OffM LMi [56, 57] iv0 iv' → Off LMa av0 av' → (∃ q, RS iv' fr N q 1) → P 0 iv' av') {h d c : Nat} (hh : h ≤ 1000) (hd : d ≤ 1000) (hc : c ≤ 1000) : 
    ∀ (m k : Nat) (iv av : IVt) (q : Nat), k + m = 19 → OffM LMi [56, 57] iv0 iv → Off LMa av0 av → RS iv fr N q 1 → L_X13_readMade_58 Y X P h d c k iv av := by
  intro m
  induction m with
  | zero =>
    intro k iv av q h1 h2 h3 h4
    have h5 := h4.2.2.2.2.1
    refine w_X13_readMade_58 C (by omega) (by omega) ⟨fun _ _ => ⟨fun _ => ?_, fun h => absurd h (by omega)⟩, fun h => absurd h (by omega)⟩
    exact (l_X13_rm_wrong C hP hh hd (h2.up (by decide)) h3 (h4.wr (Or.inr rfl))).2.2.1 0 (by omega)
  | succ m ih =>
    intro k iv av q h1 h2 h3 h4
    have hio := inv_ord (show k < 19 by omega)
    refine w_X13_readMade_58 C (by omega) (by omega) ⟨fun h => absurd h (by omega), fun _ => OkN.mono (s_X13_smallOrder (by omega)) ?_⟩
    rintro r iv1 av1 hR1 ⟨rfl, rfl, rfl⟩ hr
    rw [show (k : Int) + 1 = ((k + 1 : Nat) : Int) by omega]
    refine ⟨fun _ => ⟨by omega, ih (k + 1) _ _ q (by omega) h2 (h3.up (by decide)) h4⟩, fun _ => OkN.mono (s_X13_readNumber 3 rfl h4 (by decide)) ?_⟩
    rintro r4 iv4 av4 hR4 ⟨rfl, g3, g4⟩ hr4
    rcases g4 with ⟨h10, _⟩ | ⟨_, b2, b3, q4, b4⟩
    · exact absurd h10 (by decide)
    · exact ⟨by omega, ih (k + 1) _ _ q4 (by omega) (h2.tr (g3.mono (by decide) (by decide))) (h3.up (by decide)) b4⟩
theorem madeC_some {h d p : Nat} {row : Nat → Int} : madeC h d (some (p, row)) = cif (codeC h d row) none (some (p, fSy h row, fDi h d row)) := rfl
theorem l_X13_rm58 (C : CX Y X RX13 "readMade" cX13_readMade 8 none (e + 2) 0 0) {iv0 av0 : IVt} {h d c : Nat} (hh : h ≤ 286) (hd : d ≤ 30) (hc : c ≤ 19) (eh : h = nn (BB (av0 89) fr N) p 5 + 257) (ed : d = nn (BB (av0 89) fr N) (p + 5) 5 + 1) (ec : c = nn (BB (av0 89) fr N) (p + 10) 4 + 4) {P : PN} 
    (hP : ∀ iv' av', RM iv0 av0 iv' av' fr N (madeF (BB (av0 89) fr N) N p) 0 → P 0 iv' av') :
    ∀ (m k : Nat) (iv av : IVt), k + m = 19 → OffM LMi [56, 57] iv0 iv → Off LMa av0 av → p + 14 + 3 * min k c ≤ N → RS iv fr N (p + 14 + 3 * min k c) 0 → (∀ s, s < 19 → oinv s < k → av 115 (320 + s) = zs (BB (av0 89) fr N) (p + 14) c s) → L_X13_readMade_58 Y X P h d c k iv av := by
  have hB := BB_bit (av0 89) fr N
  have hq0 : ((0 : Int) ≠ 0) ↔ False := ⟨fun h => h rfl, fun h => h.elim⟩
  have bad : headC (BB (av0 89) fr N) N p → ∀ iv' av', OffM LMi [56, 57] iv0 iv' → Off LMa av0 av' → (∃ q, RS iv' fr N q 1) → P 0 iv' av' := fun hd iv' av' c1 c2 c3 => hP iv' av' ⟨c1, c2, Or.inr ⟨Or.inr (by rw [madeF_eq, cif_pos hd]), c3⟩⟩
  have hN8 : ∀ {iv : IVt} {q : Nat}, RS iv fr N q 0 → q ≤ N := fun h => h.2.2.2.2.2.1
  intro m
  induction m with
  | zero =>
    intro k iv av h1 h2 h3 h4 h5 h6
    have hk : k = 19 := by omega
    subst hk
    rw [show min 19 c = c by omega] at h4 h5
    have hw := h5.2.2.2.2.1
    refine w_X13_readMade_58 C (by omega) (by omega) ⟨fun _ _ => ⟨fun h => absurd hw h, fun _ => ?_⟩, fun h => absurd h (by omega)⟩
    have hl : Len av 115 320 19 (zs (BB (av0 89) fr N) (p + 14) c) := ⟨by decide, by omega, fun s hs => by
      have g1 := h6 s hs (ord_inv hs).1
      have g2 := zs_in hB (p + 14) c s
      exact ⟨g1, g2.1, by omega⟩⟩
    refine OkN.mono (s_X12_make tk_113 ak_115 (by decide) (by omega) hl) ?_
    rintro r4 iv1 av1 hR1 ⟨b1, b2, b3⟩ hr1
    rw [okC_q hq0] at b3
    have f1 : OffM LMi [56, 57] iv0 iv1 := h2.tr (b1.mono (by decide) (by decide))
    have a1 : Off LMa av0 av1 := h3.tr (b2.mono (by decide))
    have r1 := h5.offm b1 (by decide)
    refine ⟨fun hnz => ?_, fun hz => ?_⟩
    · obtain ⟨_, b4, b5⟩ := b3.resolve_left (fun h => hnz h.1)
      have hhd : ¬ headC (BB (av0 89) fr N) N p := by
        rintro (g | g | g | g)
        · omega
        · omega
        · omega
        · rw [← ec] at g
          exact g b4
      have e89 : av1 89 = av0 89 := a1 89 (by decide)
      have go := l_X13_rm139 (iv0 := iv0) (av0 := av1) C hh hd (z := zs (BB (av0 89) fr N) (p + 14) c) b5 (P := P) 400 (p + 14 + 3 * c) 0 (fun _ => 0) (up2 iv1 73 57 0) av1 (by omega) (by omega) (f1.up (by decide)) (Off.rf _ _) rfl (r1.wr (Or.inl rfl)) (fun j hj => absurd hj (Nat.not_lt_zero _)) ?_
      · exact go
      · intro iv' av' c1 c2 c3
        rw [e89] at c3
        refine hP iv' av' ⟨c1, a1.tr c2, ?_⟩
        have espec : madeF (BB (av0 89) fr N) N p = madeC h d (rowF (BB (av0 89) fr N) N (zs (BB (av0 89) fr N) (p + 14) c) (h + d) 400 (p + 14 + 3 * c) 0 fun _ => 0) := by
          rw [madeF_eq, cif_neg hhd, ← eh, ← ed, ← ec]
        rw [espec]
        rcases c3 with ⟨c3, c4⟩ | ⟨p', row', c3, c4⟩
        · exact Or.inr ⟨Or.inr (by rw [c3]; rfl), c4⟩
        · rw [c3, madeC_some]
          rcases c4 with ⟨c4, c5⟩ | ⟨c4, c5, c6, c7⟩
          · exact Or.inr ⟨Or.inr (cif_pos c4), c5⟩
          · exact Or.inl ⟨rfl, p', _, _, cif_neg c4, c5, c6, c7⟩
    · refine (l_X13_rm_wrong C (bad (Or.inr (Or.inr (Or.inr ?_)))) (by omega) (by omega) (f1.up (by decide)) a1 (r1.wr (Or.inr rfl))).2.2.1 0 (by omega)
      rw [← ec]
      rcases b3 with ⟨_, b3⟩ | ⟨b3, _⟩
      · exact b3
      · omega
  | succ m ih =>
    intro k iv av h1 h2 h3 h4 h5 h6
    have hio := inv_ord (show k < 19 by omega)
    have hinv : ∀ s, s < 19 → oinv s < k + 1 → s ≠ ordN k → oinv s < k := by
      intro s hs hsk hne
      by_cases hh : oinv s = k
      · have := (ord_inv hs).2
        rw [hh] at this
        omega
      · omega
    refine w_X13_readMade_58 C (by omega) (by omega) ⟨fun h => absurd h (by omega), fun _ => OkN.mono (s_X13_smallOrder (by omega)) ?_⟩
    rintro r iv1 av1 hR1 ⟨rfl, rfl, rfl⟩ hr
    rw [show (k : Int) + 1 = ((k + 1 : Nat) : Int) by omega]
    have eidx : (320 + ((ordN k : Nat) : Int)).toNat = 320 + ordN k := by omega
    refine ⟨fun hck => ⟨by omega, ?_⟩, fun hck => OkN.mono (s_X13_readNumber 3 rfl h5 (by decide)) ?_⟩
    · rw [eidx]
      refine ih (k + 1) _ _ (by omega) h2 (h3.up (by decide)) (by omega) (by rw [show min (k + 1) c = min k c by omega]; exact h5) fun s hs hsk => ?_
      rw [up2_at]
      by_cases hso : s = ordN k
      · rw [if_pos (by omega), hso]
        unfold zs
        rw [hio.2.1, if_neg (by omega)]
      · rw [if_neg (by omega)]
        exact h6 s hs (hinv s hs hsk hso)
    · rintro r4 iv4 av4 hR4 ⟨rfl, g3, g4⟩ hr4
      have e89 : av4 89 = av0 89 := h3 89 (by decide)
      rw [e89] at g4
      rw [eidx]
      have hmk : min k c = k := by omega
      have hmk1 : min (k + 1) c = k + 1 := by omega
      rw [hmk] at h4 h5 g4
      have e3 : (2 : Int) ^ 3 = 8 := rfl
      rcases g4 with ⟨_, b1, rfl, b2⟩ | ⟨b1, b2, b3, q4, b4⟩
      · refine ⟨by omega, ih (k + 1) _ _ (by omega) (h2.tr (g3.mono (by decide) (by decide))) (h3.up (by decide)) (by omega) ?_ fun s hs hsk => ?_⟩
        · rw [hmk1, show p + 14 + 3 * (k + 1) = p + 14 + 3 * k + 3 by omega]
          exact b2
        · rw [up2_at]
          by_cases hso : s = ordN k
          · rw [if_pos (by omega), hso]
            unfold zs
            rw [hio.2.1, if_pos (by omega)]
          · rw [if_neg (by omega)]
            exact h6 s hs (hinv s hs hsk hso)
      · refine ⟨by omega, l_X13_rm58_wrong C (bad (Or.inl ?_)) (by omega) (by omega) (by omega) m (k + 1) _ _ q4 (by omega) (h2.tr (g3.mono (by decide) (by decide))) (h3.up (by decide)) b4⟩
        omega
theorem s_X13_readMade (h : RS iv fr N p w) : OkN Y (e + 2) mX13_readMade [.ref (gl_b Y + 73)] RV iv av 116
    (fun r iv' av' => RM iv av iv' av' fr N (madeF (BB (av 89) fr N) N p) w) := by
  have hB := BB_bit (av 89) fr N
  have e5 : (2 : Int) ^ 5 = 32 := rfl
  have e4 : (2 : Int) ^ 4 = 16 := rfl
  refine o_X13_readMade fun X C => OkN.mono (s_X13_readNumber 5 rfl h (by decide)) ?_
  rintro r1 iv1 av1 hR1 ⟨rfl, g1, g2⟩ hr1
  -- wrong: the three numbers are read all the same
  have wrongs : (w = 1 ∨ headC (BB (av1 89) fr N) N p) → ∀ (x1 x2 x3 : Int) (iv2 : IVt) (q : Nat), 0 ≤ x1 → x1 < 32 → 0 ≤ x2 → x2 < 32 → 0 ≤ x3 → x3 < 16 → OffM [] [56, 57] iv iv2 → RS iv2 fr N q 1 → L_X13_readMade_58 Y X (fun r iv' av' => RM iv av1 iv' av' fr N (madeF (BB (av1 89) fr N) N p) w) (x1 + 257) (x2 + 1) (x3 + 4) 0 (up2 iv2 73 57 1) av1 := by
    intro hd x1 x2 x3 iv2 q a1 a2 a3 a4 a5 a6 b1 b2
    have hd' : w = 1 ∨ madeF (BB (av1 89) fr N) N p = none := hd.imp id fun hd => by rw [madeF_eq, cif_pos hd]
    have := l_X13_rm58_wrong (iv0 := iv) (av0 := av1) C (P := fun r iv' av' => RM iv av1 iv' av' fr N (madeF (BB (av1 89) fr N) N p) w) (fun iv' av' c1 c2 c3 => ⟨c1, c2, Or.inr ⟨hd', c3⟩⟩) (h := (x1 + 257).toNat) (d := (x2 + 1).toNat) (c := (x3 + 4).toNat) (by omega) (by omega) (by omega) 19 0 (up2 iv2 73 57 1) av1 q (by omega) ((b1.mono (by decide) (by decide)).up (by decide)) (Off.rf _ _) (b2.wr (Or.inr rfl))
    rw [show (((x1 + 257).toNat : Nat) : Int) = x1 + 257 by omega, show (((x2 + 1).toNat : Nat) : Int) = x2 + 1 by omega, show (((x3 + 4).toNat : Nat) : Int) = x3 + 4 by omega] at this
    exact this
  rcases g2 with ⟨hw, a1, rfl, a2⟩ | ⟨a1, a2, a3, q, a4⟩
  rotate_left
  · refine OkN.mono (s_X13_readNumber 5 rfl a4 (by decide)) ?_
    rintro r2 iv2 av2 hR2 ⟨rfl, g3, g4⟩ hr2
    rcases g4 with ⟨h10, _⟩ | ⟨_, b2, b3, q2, b4⟩
    · exact absurd h10 (by decide)
    refine OkN.mono (s_X13_readNumber 4 rfl b4 (by decide)) ?_
    rintro r3 iv3 av3 hR3 ⟨rfl, g5, g6⟩ hr3
    rcases g6 with ⟨h10, _⟩ | ⟨_, c2, c3, q3, c4⟩
    · exact absurd h10 (by decide)
    have hw3 := c4.2.2.2.2.1
    refine fun _ => ⟨fun _ => wrongs ?_ _ _ _ _ q3 a2 (by omega) b2 (by omega) c2 (by omega) ((g1.tr g3).tr g5) c4, fun h => absurd h (by omega)⟩
    refine a1.imp id fun h => Or.inl (by omega)
  subst hw
  have n1 := nn_eq hB p 5
  have l1 : nn (BB (av1 89) fr N) p 5 < 32 := nn_lt hB p 5
  refine OkN.mono (s_X13_readNumber 5 rfl a2 (by decide)) ?_
  rintro r2 iv2 av2 hR2 ⟨rfl, g3, g4⟩ hr2
  rcases g4 with ⟨_, b1, rfl, b2⟩ | ⟨b1, b2, b3, q2, b4⟩
  rotate_left
  · refine OkN.mono (s_X13_readNumber 4 rfl b4 (by decide)) ?_
    rintro r3 iv3 av3 hR3 ⟨rfl, g5, g6⟩ hr3
    rcases g6 with ⟨h10, _⟩ | ⟨_, c2, c3, q3, c4⟩
    · exact absurd h10 (by decide)
    have hw3 := c4.2.2.2.2.1
    refine fun _ => ⟨fun _ => wrongs (Or.inr (Or.inl (by omega))) _ _ _ _ q3 (by omega) (by omega) b2 (by omega) c2 (by omega) ((g1.tr g3).tr g5) c4, fun h => absurd h (by omega)⟩
  have n2 := nn_eq hB (p + 5) 5
  have l2 : nn (BB (av2 89) fr N) (p + 5) 5 < 32 := nn_lt hB (p + 5) 5
  refine OkN.mono (s_X13_readNumber 4 rfl b2 (by decide)) ?_
  rintro r3 iv3 av3 hR3 ⟨rfl, g5, g6⟩ hr3
  rcases g6 with ⟨_, c1, rfl, c2⟩ | ⟨c1, c2, c3, q3, c4⟩
  rotate_left
  · have hw3 := c4.2.2.2.2.1
    refine fun _ => ⟨fun _ => wrongs (Or.inr (Or.inl (by omega))) _ _ _ _ q3 (by omega) (by omega) (by omega) (by omega) c2 (by omega) ((g1.tr g3).tr g5) c4, fun h => absurd h (by omega)⟩
  have n3 := nn_eq hB (p + 10) 4
  have l3 : nn (BB (av3 89) fr N) (p + 10) 4 < 16 := nn_lt hB (p + 10) 4
  rw [show p + 5 + 5 = p + 10 by omega] at c1 c2 hr3 ⊢
  have hw3 := c2.2.2.2.2.1
  have f3 : OffM [] [56, 57] iv iv3 := (g1.tr g3).tr g5
  rw [show p + 10 + 4 = p + 14 by omega] at c1 c2
  have bad : headC (BB (av3 89) fr N) N p → L_X13_readMade_58 Y X (fun r iv' av' => RM iv av3 iv' av' fr N (madeF (BB (av3 89) fr N) N p) 0) (nv (BB (av3 89) fr N) p 5 + 257) (nv (BB (av3 89) fr N) (p + 5) 5 + 1) (nv (BB (av3 89) fr N) (p + 10) 4 + 4) 0 (up2 iv3 73 57 1) av3 := by
    intro hd
    have hd' : (0 : Int) = 1 ∨ madeF (BB (av3 89) fr N) N p = none := Or.inr (by rw [madeF_eq, cif_pos hd])
    have := l_X13_rm58_wrong (iv0 := iv) (av0 := av3) C (P := fun r iv' av' => RM iv av3 iv' av' fr N (madeF (BB (av3 89) fr N) N p) 0) (fun iv' av' c1 c2 c3 => ⟨c1, c2, Or.inr ⟨hd', c3⟩⟩) (h := nn (BB (av3 89) fr N) p 5 + 257) (d := nn (BB (av3 89) fr N) (p + 5) 5 + 1) (c := nn (BB (av3 89) fr N) (p + 10) 4 + 4) (by omega) (by omega) (by omega) 19 0 (up2 iv3 73 57 1) av3 (p + 14) (by omega) ((f3.mono (by decide) (by decide)).up (by decide)) (Off.rf _ _) (c2.wr (Or.inr rfl))
    rw [n1, n2, n3]
    exact this
  refine fun _ => ⟨fun h => absurd hw3 h, fun _ => ⟨by omega, fun h286 => bad (Or.inr (Or.inl (by omega))), fun h286 => ⟨by omega, fun h30 => ?_, fun h30 => bad (Or.inr (Or.inr (Or.inl (by omega))))⟩⟩⟩
  have := l_X13_rm58 (iv0 := iv) (av0 := av3) (p := p) C (h := nn (BB (av3 89) fr N) p 5 + 257) (d := nn (BB (av3 89) fr N) (p + 5) 5 + 1) (c := nn (BB (av3 89) fr N) (p + 10) 4 + 4) (by omega) (by omega) (by omega) rfl rfl rfl (P := fun r iv' av' => RM iv av3 iv' av' fr N (madeF (BB (av3 89) fr N) N p) 0) (fun iv' av' hu => hu) 19 0 (up2 iv3 73 57 0) av3 (by omega) ((f3.mono (by decide) (by decide)).up (by decide)) (Off.rf _ _) (by omega) (by rw [show p + 14 + 3 * min 0 (nn (BB (av3 89) fr N) (p + 10) 4 + 4) = p + 14 by omega]; exact c2.wr (Or.inl rfl)) (fun s _ h => absurd h (Nat.not_lt_zero _))
  rw [n1, n2, n3]
  exact this
end SRmade2
