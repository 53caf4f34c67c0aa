/-! The reference's unpacking: symbols up to a part's end. -/
section SRsyms
variable {Y : Gl} {X : Cx} {e : Nat} {iv av : IVt} {fr N p room : Nat} {w : Int} {o : Outp}
theorem RB.wr {iv : IVt} {v : Int} (h : RB iv) : RB (up2 iv 73 57 v) := h
theorem RU.of {iv0 av0 iv' av' : IVt} {d d' : Option (Nat × Outp)} (h : RU iv0 av0 iv' av' fr N room d w) (e : d = d') : RU iv0 av0 iv' av' fr N room d' w := by rw [← e]; exact h
/-- what is wrong stays so: the reference's loop over symbols -/
theorem l_X13_rs_wrong (C : CX Y X RX13 "readSymbols" cX13_readSymbols 7 none (e + 2) 0 0) {x1 : Int} {iv0 av0 : IVt} {P : PN} (hP : ∀ iv' av', OffM [] LRj iv0 iv' → Off [92] av0 av' → (∃ q, RS iv' fr N q 1) → RB iv' → P 0 iv' av') {iv av : IVt} (hoff : OffM [] LRj iv0 iv) (ha : Off [92] av0 av) {q : Nat} (hRS : RS iv fr N q 1) (hb : RB iv) :
    (∀ x : Int, InR x → L_X13_readSymbols_9 Y X P x1 x iv av) ∧ (∀ x3 x5 x6 : Int, InR x3 → InR x6 → L_X13_readSymbols_174 Y X P x1 x3 x5 x6 iv av) := by
  have h9 : ∀ (iv1 : IVt) (q1 : Nat), OffM [] LRj iv0 iv1 → RS iv1 fr N q1 1 → RB iv1 → ∀ x : Int, InR x → L_X13_readSymbols_9 Y X P x1 x iv1 av := by
    intro iv1 q1 b1 b2 b3 x hx
    have h5 := b2.2.2.2.2.1
    refine w_X13_readSymbols_9 C hx ⟨fun _ => hP iv1 av b1 ha ⟨q1, b2⟩ b3, fun _ _ => ⟨fun _ => hP iv1 av b1 ha ⟨q1, b2⟩ b3, fun h => absurd h (by omega)⟩⟩
  refine ⟨h9 iv q hoff hRS hb, fun x3 x5 x6 hx3 hx6 => ?_⟩
  have h5 := hRS.2.2.2.2.1
  have sy : OkN Y (e + 1) mX13_readSymbol [.ref (gl_b Y + 73), .ref (gl_b Y + 109)] RV iv av 116 (fun r2 iv3 av4 => InR r2 → L_X13_readSymbols_9 Y X P x1 r2 iv3 av4) := by
    refine OkN.mono (s_X13_readSymbol (f := fxL) (n := 288) tk_109 (by omega) hRS fun h => absurd h (by decide)) ?_
    rintro r iv3 av3 hR3 ⟨rfl, g1, g2⟩ hr
    rcases g2 with ⟨h10, _⟩ | ⟨_, rfl, q3, g3⟩
    · exact absurd h10 (by decide)
    · exact h9 iv3 q3 (hoff.tr (g1.mono (by decide) (by decide))) g3 (hb.offm g1) 0 (by omega)
  exact w_X13_readSymbols_174 C hx3 hx6 (tk := 92) (by decide) rfl hb.1 ⟨fun _ => sy, fun _ _ => ⟨fun _ => sy, fun h => absurd h (by omega)⟩⟩
theorem l_X13_readSymbols (C : CX Y X RX13 "readSymbols" cX13_readSymbols 7 none (e + 2) 0 0) {win : Nat} (hwin : win ≤ 8388608) {iv0 av0 : IVt} {fS fD : Nat → Int} (hS : TR av0 109 fS 288) (hD : TR av0 111 fD 32) {P : PN} :
    ∀ (m p : Nat) (o : Outp) (r : Int) (iv av : IVt), N < p + m → OffM [] LRj iv0 iv → Off [92] av0 av → RdR iv fr N (sym (BB (av0 89) fr N) N fS 288 p) 0 r → RO iv av room o →
    (∀ iv' av', RU iv0 av0 iv' av' fr N room (symsF (BB (av0 89) fr N) N fS fD room win m p o) 0 → P 0 iv' av') → L_X13_readSymbols_9 Y X P win r iv av := by
  have hB := BB_bit (av0 89) fr N
  intro m
  induction m with
  | zero =>
    intro p o r iv av h1 h2 h3 h4
    rcases h4 with ⟨_, s, q, a1, _⟩ | ⟨a1, rfl, q, a2⟩
    · have := (sym_some hB a1)
      omega
    · intro hO hP
      have : ∀ iv' av', OffM [] LRj iv0 iv' → Off [92] av0 av' → (∃ q, RS iv' fr N q 1) → RB iv' → P 0 iv' av' := fun iv' av' c1 c2 c3 c4 => hP iv' av' ⟨c1, c2, Or.inr ⟨Or.inr rfl, c3, c4⟩⟩
      exact (l_X13_rs_wrong C this h2 h3 a2 hO.rb).1 0 (by omega)
  | succ m ih =>
    intro p o r iv av h1 h2 h3 h4 h5 hP
    have bad : symsF (BB (av0 89) fr N) N fS fD room win (m + 1) p o = none → ∀ iv' av', OffM [] LRj iv0 iv' → Off [92] av0 av' → (∃ q, RS iv' fr N q 1) → RB iv' → P 0 iv' av' := fun hd iv' av' c1 c2 c3 c4 => hP iv' av' ⟨c1, c2, Or.inr ⟨Or.inr hd, c3, c4⟩⟩
    rcases h4 with ⟨_, s, p1, a1, rfl, a2⟩ | ⟨a1, rfl, q, a2⟩
    rotate_left
    · refine (l_X13_rs_wrong C (bad ?_) h2 h3 a2 h5.rb).1 0 (by omega)
      rcases a1 with a1 | a1
      · exact absurd a1 (by decide)
      · rw [symsF, a1]
    have hs := sym_some hB a1
    have hw := a2.2.2.2.2.1
    have e89 : ∀ {av1 : IVt}, Off [92] av0 av1 → av1 89 = av0 89 := fun h => h 89 (by decide)
    have hSk : ∀ {av1 : IVt}, Off [92] av0 av1 → TR av1 109 fS 288 := fun h => hS.of (h 110 (by decide))
    have hDk : ∀ {av1 : IVt}, Off [92] av0 av1 → TR av1 111 fD 32 := fun h => hD.of (h 112 (by decide))
    refine w_X13_readSymbols_9 C (by omega) ⟨fun heq => ?_, fun hne _ => ⟨fun h => absurd hw h, fun _ => ⟨fun hge => ⟨fun hle => ?_, fun hgt => ?_⟩, fun hlt => ?_⟩⟩⟩
    · refine hP iv av ⟨h2, h3, Or.inl ⟨rfl, p1, o, ?_, a2, h5⟩⟩
      rw [symsF, a1]; dsimp only; rw [if_pos (by omega)]
    · -- a match
      have hlb := lbase_le (show 257 ≤ s by omega) (by omega)
      have hlk := lbits_le s
      have r0 := a2.wr (v := 0) (Or.inl rfl)
      have f0 : OffM [] LRj iv0 (up2 iv 73 57 0) := h2.up (by decide)
      have o0 : RO (up2 iv 73 57 0) av room o := h5
      refine OkN.mono (s_X13_lengthBase (by omega) (by omega)) ?_
      rintro r iv1 av1 hR1 ⟨rfl, rfl, rfl⟩ hr1
      refine OkN.mono (s_X13_lengthBits (by omega)) ?_
      rintro r iv1 av1 hR1 ⟨rfl, rfl, rfl⟩ hr2
      refine OkN.mono (s_X13_readNumber (lbits s) rfl r0 (by omega)) ?_
      rintro r15 iv2 av2 hR2 ⟨rfl, g1, g2⟩ hr3
      rw [e89 h3] at g2
      have f2 : OffM [] LRj iv0 iv2 := f0.tr (g1.mono (by decide) (by decide))
      have o2 := o0.offm g1
      have hlp := pwL hlk
      have e32 : (2 : Int) ^ 5 = 32 := rfl
      have hnone2 : N < p1 + lbits s → symsF (BB (av0 89) fr N) N fS fD room win (m + 1) p o = none := fun hN => by
        rw [symsF, a1]; dsimp only; rw [if_neg (by omega), if_neg (by omega), if_pos (Or.inr hN)]
      -- wrong from here on
      have wr112 : symsF (BB (av0 89) fr N) N fS fD room win (m + 1) p o = none → ∀ (x3 x4 : Int) (iv3 av3 : IVt) (q : Nat), InR x3 → InR x4 → OffM [] LRj iv0 iv3 → Off [92] av0 av3 → RS iv3 fr N q 1 → RB iv3 → L_X13_readSymbols_112 Y X P win x3 x4 iv3 av3 := by
        intro hd x3 x4 iv3 av3 q hx3 hx4 c1 c2 c3 c4
        have h5 := c3.2.2.2.2.1
        refine w_X13_readSymbols_112 C (by omega) hx4 fun _ => ⟨fun h => absurd h (by omega), fun _ => ⟨fun _ => ?_, fun h => absurd h (by omega)⟩⟩
        exact w_X13_readSymbols_171 C ((l_X13_rs_wrong C (bad hd) (c1.up (by decide)) c2 (c3.wr (Or.inr rfl)) c4).2 x3 0 0 hx3 (by omega))
      rcases g2 with ⟨_, b1, rfl, b2⟩ | ⟨b1, b2, b3, q, b4⟩
      rotate_left
      · refine OkN.mono (s_X13_readSymbol (f := fD) (n := 32) tk_111 (by omega) b4 fun h => absurd h (by decide)) ?_
        rintro r19 iv3 av3 hR3 ⟨rfl, g3, g4⟩ hr4
        rcases g4 with ⟨h10, _⟩ | ⟨_, rfl, q3, g4⟩
        · exact absurd h10 (by decide)
        have hw3 := g4.2.2.2.2.1
        refine fun _ => ⟨fun _ => ?_, fun h => absurd h (by omega)⟩
        exact wr112 (hnone2 (by omega)) _ _ _ _ _ (by omega) (by omega) ((f2.tr (g3.mono (by decide) (by decide))).up (by decide)) h3 (g4.wr (Or.inr rfl)) (o2.rb.offm g3).wr
      have hnn := nn_eq hB p1 (lbits s)
      have hnl := nn_lt hB p1 (lbits s)
      have hnl5 : nn (BB (av0 89) fr N) p1 (lbits s) < 32 := by
        have : 2 ^ lbits s ≤ 2 ^ 5 := Nat.pow_le_pow_right (by omega) hlk
        omega
      rw [hnn]
      refine OkN.mono (s_X13_readSymbol (f := fD) (n := 32) tk_111 (by omega) b2 fun _ => hDk h3) ?_
      rintro r19 iv3 av3 hR3 ⟨rfl, g3, g4⟩ hr4
      rw [e89 h3] at g4
      have f3 : OffM [] LRj iv0 iv3 := f2.tr (g3.mono (by decide) (by decide))
      have o3 := o2.offm g3
      have hnoneD : sym (BB (av0 89) fr N) N fD 32 (p1 + lbits s) = none → symsF (BB (av0 89) fr N) N fS fD room win (m + 1) p o = none := fun hN => by
        rw [symsF, a1]; dsimp only; rw [if_neg (by omega), if_neg (by omega), if_neg (by omega), hN]
      rcases g4 with ⟨_, d, p3, c1, rfl, c2⟩ | ⟨c1, rfl, q3, c2⟩
      rotate_left
      · have hw3 := c2.2.2.2.2.1
        refine fun _ => ⟨fun _ => ?_, fun h => absurd h (by omega)⟩
        refine wr112 (hnoneD ?_) _ _ _ _ _ (by omega) (by omega) (f3.up (by decide)) h3 (c2.wr (Or.inr rfl)) o3.rb
        rcases c1 with c1 | c1
        · exact absurd c1 (by decide)
        · exact c1
      have hw3 := c2.2.2.2.2.1
      have hds := sym_some hB c1
      have esp : symsF (BB (av0 89) fr N) N fS fD room win (m + 1) p o = (if 29 < d ∨ N < p3 + dbits d ∨ o.1 < dbase d + nn (BB (av0 89) fr N) p3 (dbits d) ∨ win < dbase d + nn (BB (av0 89) fr N) p3 (dbits d) ∨ room < o.1 + (lbase s + nn (BB (av0 89) fr N) p1 (lbits s)) then none
          else symsF (BB (av0 89) fr N) N fS fD room win m (p3 + dbits d) (o.1 + (lbase s + nn (BB (av0 89) fr N) p1 (lbits s)), cpyF (dbase d + nn (BB (av0 89) fr N) p3 (dbits d)) (lbase s + nn (BB (av0 89) fr N) p1 (lbits s)) o.1 o.2)) := by
        rw [symsF, a1]; dsimp only; rw [if_neg (by omega), if_neg (by omega), if_neg (by omega), c1]
      refine fun _ => ⟨fun h => absurd hw3 h, fun _ => ⟨fun hd29 => ?_, fun hd29 => ?_⟩⟩
      rotate_left
      · refine wr112 ?_ _ _ _ _ _ (by omega) (by omega) (f3.up (by decide)) h3 (c2.wr (Or.inr rfl)) o3.rb
        rw [esp, if_pos (by omega)]
      have hdk := dbits_le (show d ≤ 31 by omega)
      have hdb := dbase_le (show d ≤ 31 by omega)
      have r4 := c2.wr (v := 0) (Or.inl rfl)
      have f4 : OffM [] LRj iv0 (up2 iv3 73 57 0) := f3.up (by decide)
      have o4 : RO (up2 iv3 73 57 0) av3 room o := o3
      refine w_X13_readSymbols_112 C (by omega) (by omega) fun _ => ⟨fun _ => OkN.mono (s_X13_distanceBase (by omega)) ?_, fun h => absurd (up2_eq _ _ _ _) h⟩
      rintro r iv5 av5 hR5 ⟨rfl, rfl, rfl⟩ hr5
      refine OkN.mono (s_X13_distanceBits (by omega)) ?_
      rintro r iv5 av5 hR5 ⟨rfl, rfl, rfl⟩ hr6
      refine OkN.mono (s_X13_readNumber (dbits d) rfl r4 (by omega)) ?_
      rintro r11 iv5 av5 hR5 ⟨rfl, g5, g6⟩ hr7
      rw [e89 h3] at g6
      have f5 : OffM [] LRj iv0 iv5 := f4.tr (g5.mono (by decide) (by decide))
      have o5 := o4.offm g5
      have wr171 : symsF (BB (av0 89) fr N) N fS fD room win (m + 1) p o = none → ∀ (x3 x5 : Int) (q : Nat), InR x3 → RS iv5 fr N q 1 ∨ RS iv5 fr N q 0 → L_X13_readSymbols_171 Y X P win x3 x5 (up2 iv5 73 57 1) av5 := by
        intro hd x3 x5 q hx3 hq
        refine w_X13_readSymbols_171 C ((l_X13_rs_wrong C (bad hd) (f5.up (by decide)) h3 (q := q) ?_ o5.rb.wr).2 x3 x5 0 hx3 (by omega))
        rcases hq with hq | hq
        · exact hq.wr (Or.inr rfl)
        · exact hq.wr (Or.inr rfl)
      rcases g6 with ⟨_, d1, rfl, d2⟩ | ⟨d1, d2, d3, q5, d4⟩
      rotate_left
      · have hw5 := d4.2.2.2.2.1
        refine fun _ => ⟨fun _ => wr171 ?_ _ _ q5 (by omega) (Or.inl d4), fun h => absurd h (by omega)⟩
        rw [esp, if_pos (by omega)]
      have hnn2 := nn_eq hB p3 (dbits d)
      have hnl2 := nn_lt hB p3 (dbits d)
      have hnl14 : nn (BB (av0 89) fr N) p3 (dbits d) < 16384 := by
        have : 2 ^ dbits d ≤ 2 ^ 14 := Nat.pow_le_pow_right (by omega) hdk
        omega
      have hw5 := d2.2.2.2.2.1
      have hmade := o5.2.1
      rw [hnn2, show ((lbase s : Nat) : Int) + ((nn (BB (av0 89) fr N) p1 (lbits s) : Nat) : Int) = ((lbase s + nn (BB (av0 89) fr N) p1 (lbits s) : Nat) : Int) by omega, show ((dbase d : Nat) : Int) + ((nn (BB (av0 89) fr N) p3 (dbits d) : Nat) : Int) = ((dbase d + nn (BB (av0 89) fr N) p3 (dbits d) : Nat) : Int) by omega]
      refine fun _ => ⟨fun h => absurd hw5 h, fun _ _ => ⟨by omega, fun hlt => wr171 ?_ _ _ _ (by omega) (Or.inr d2), fun hge => ⟨fun hle2 => ?_, fun hgt2 => wr171 ?_ _ _ _ (by omega) (Or.inr d2)⟩⟩⟩
      · rw [esp, if_pos (by omega)]
      rotate_left
      · rw [esp, if_pos (by omega)]
      -- copying
      generalize hlen : lbase s + nn (BB (av0 89) fr N) p1 (lbits s) = len at *
      generalize hfar : dbase d + nn (BB (av0 89) fr N) p3 (dbits d) = far at *
      have lp : ∀ (m2 x n : Nat) (g : Nat → Int) (iv6 av6 : IVt), x + m2 = len → n + m2 = o.1 + len → cpyF far m2 n g = cpyF far len o.1 o.2 → far ≤ n → OffM [] LRj iv0 iv6 → Off [92] av0 av6 → RS iv6 fr N (p3 + dbits d) 0 → RO iv6 av6 room (n, g) → L_X13_readSymbols_174 Y X P win len far x iv6 av6 := by
        intro m2
        induction m2 with
        | zero =>
          intro x n g iv6 av6 c1 c2 c3 c4 c5 c6 c7 c8
          have hn : n = o.1 + len := by omega
          subst hn
          have hg : g = cpyF far len o.1 o.2 := c3
          subst hg
          refine w_X13_readSymbols_174 C (by omega) (by omega) (tk := 92) (by decide) rfl c8.1 ⟨fun _ => OkN.mono (s_X13_readSymbol (f := fS) (n := 288) tk_109 (by omega) c7 fun _ => hSk c6) ?_, fun h => absurd h (by omega)⟩
          rintro r7 iv7 av7 hR7 ⟨rfl, g7, g8⟩ hr8
          rw [e89 c6] at g8
          have hroom := c8.2.2.2.1
          dsimp only at hroom
          refine ih (p3 + dbits d) _ r7 iv7 av7 (by omega) (c5.tr (g7.mono (by decide) (by decide))) c6 g8 (c8.offm g7) ?_
          intro iv' av' hu
          refine hP iv' av' ?_
          rw [esp, if_neg (by omega)]
          exact hu
        | succ m2 ih2 =>
          intro x n g iv6 av6 c1 c2 c3 c4 c5 c6 c7 c8
          have hw6 := c7.2.2.2.2.1
          have hm6 := c8.2.1
          have hroom := c8.2.2.2.1
          have hroom2 := c8.2.2.2.2.1
          dsimp only at hm6 hroom
          have hk : ((kl 92 : Nat) : Int) = 65536 := rfl
          refine w_X13_readSymbols_174 C (by omega) (by omega) (tk := 92) (by decide) rfl c8.1 ⟨fun h => absurd h (by omega), fun _ _ => ⟨fun h => absurd hw6 h, fun _ _ => ⟨by omega, ?_⟩⟩⟩
          rw [show (iv6 73 59 - (far : Int)).toNat = n - far by omega]
          intro hby
          refine OkN.mono (s_X13_makeByte (room := room) c7 c8.rb fun _ => c8) ?_
          rintro r8 iv7 av7 hR7 ⟨b1, b2, b3⟩
          rw [show (x : Int) + 1 = ((x + 1 : Nat) : Int) by omega]
          have hcell : av6 92 (n - far) = g (n - far) := c8.2.2.2.2.2 (n - far) (by dsimp only; omega)
          rcases b3 with ⟨_, b3, b4, b5⟩ | ⟨b3, b4, b5⟩
          · refine ih2 (x + 1) (n + 1) (fun i => if i = n then g (n - far) else g i) iv7 av7 (by omega) (by omega) c3 (by omega) (c5.tr b1) (c6.tr b2) b4 ?_
            obtain ⟨z1, z2, z3, z4, z5, z6⟩ := b5
            refine ⟨z1, z2, z3, z4, z5, fun j hj => ?_⟩
            rw [z6 j hj]
            dsimp only
            rw [bm8_id hby, hcell]
          · refine (l_X13_rs_wrong C (bad ?_) (c5.tr b1) (c6.tr b2) b4 b5).2 _ _ _ (by omega) (by omega)
            dsimp only at b3
            rw [esp, if_pos (by omega)]
      refine w_X13_readSymbols_171 C ?_
      exact lp len 0 o.1 o.2 _ _ (by omega) rfl rfl (by omega) (f5.up (by decide)) h3 (d2.wr (Or.inl rfl)) o5
    · -- above 285
      have r1 := a2.wr (v := 1) (Or.inr rfl)
      have f1 : OffM [] LRj iv0 (up2 iv 73 57 1) := h2.up (by decide)
      have hb1 : RB (up2 iv 73 57 1) := h5.rb
      have hd : symsF (BB (av0 89) fr N) N fS fD room win (m + 1) p o = none := by
        rw [symsF, a1]; dsimp only; rw [if_neg (by omega), if_neg (by omega), if_pos (Or.inl (by omega))]
      refine OkN.mono (s_X13_readSymbol (f := fD) (n := 32) tk_111 (by omega) r1 fun h => absurd h (by decide)) ?_
      rintro r19 iv3 av3 hR3 ⟨rfl, g3, g4⟩ hr4
      rcases g4 with ⟨h10, _⟩ | ⟨_, rfl, q3, g4⟩
      · exact absurd h10 (by decide)
      have hw3 := g4.2.2.2.2.1
      refine fun _ => ⟨fun _ => ?_, fun h => absurd h (by omega)⟩
      have c3 := g4.wr (v := 1) (Or.inr rfl)
      have h5' := c3.2.2.2.2.1
      refine w_X13_readSymbols_112 C (by omega) (by omega) fun _ => ⟨fun h => absurd h (by omega), fun _ => ⟨fun _ => ?_, fun h => absurd h (by omega)⟩⟩
      exact w_X13_readSymbols_171 C ((l_X13_rs_wrong C (bad hd) (((f1.tr (g3.mono (by decide) (by decide))).up (by decide)).up (by decide)) h3 (c3.wr (Or.inr rfl)) (hb1.offm g3).wr.wr).2 0 0 0 (by omega) (by omega))
    · -- a byte
      have espec : symsF (BB (av0 89) fr N) N fS fD room win (m + 1) p o = (if room ≤ o.1 then none else symsF (BB (av0 89) fr N) N fS fD room win m p1 (o.1 + 1, fun i => if i = o.1 then bm8 s else o.2 i)) := by
        rw [symsF, a1]; dsimp only; rw [if_neg (by omega), if_pos (by omega)]
      refine OkN.mono (s_X13_makeByte (room := room) a2 h5.rb fun _ => h5) ?_
      rintro r8 iv7 av7 hR7 ⟨b1, b2, b3⟩
      rcases b3 with ⟨_, b3, b4, b5⟩ | ⟨b3, b4, b5⟩
      · refine OkN.mono (s_X13_readSymbol (f := fS) (n := 288) tk_109 (by omega) b4 fun _ => hSk (h3.tr b2)) ?_
        rintro r9 iv9 av9 hR9 ⟨rfl, g7, g8⟩ hr8
        rw [e89 (h3.tr b2)] at g8
        refine ih p1 _ r9 iv9 av9 (by omega) ((h2.tr b1).tr (g7.mono (by decide) (by decide))) (h3.tr b2) g8 (b5.offm g7) ?_
        intro iv' av' hu
        refine hP iv' av' ?_
        rw [espec, if_neg (by omega)]
        exact hu
      · refine OkN.mono (s_X13_readSymbol (f := fS) (n := 288) tk_109 (by omega) b4 fun h => absurd h (by decide)) ?_
        rintro r9 iv9 av9 hR9 ⟨rfl, g7, g8⟩ hr8
        rcases g8 with ⟨h10, _⟩ | ⟨_, rfl, q3, g8⟩
        · exact absurd h10 (by decide)
        refine (l_X13_rs_wrong C (bad ?_) ((h2.tr b1).tr (g7.mono (by decide) (by decide))) (h3.tr b2) g8 (b5.offm g7)).1 0 (by omega)
        rw [espec, if_pos]
        rcases b3 with b3 | b3
        · exact absurd b3 (by decide)
        · omega
theorem s_X13_readSymbols {win : Nat} (hwin : win ≤ 8388608) (h : RS iv fr N p w) (hb : RB iv) (hO : w = 0 → RO iv av room o) {fS fD : Nat → Int} (hS : w = 0 → TR av 109 fS 288) (hD : w = 0 → TR av 111 fD 32) : OkN Y (e + 2) mX13_readSymbols [.ref (gl_b Y + 73), .int (i32 (win : Int))] RV iv av 116
    (fun r iv' av' => RU iv av iv' av' fr N room (symsF (BB (av 89) fr N) N fS fD room win (N + 1) p o) w) := by
  refine o_X13_readSymbols fun X C => OkN.mono (s_X13_readSymbol (f := fS) (n := 288) tk_109 (by omega) h hS) ?_
  rintro r iv1 av1 hR1 ⟨rfl, g1, g2⟩ hr
  have f1 : OffM [] LRj iv iv1 := g1.mono (by decide) (by decide)
  rcases h.2.2.2.2.2.2.2.2 with rfl | rfl
  · exact l_X13_readSymbols C hwin (hS rfl) (hD rfl) (iv0 := iv) (N + 1) p o r iv1 av1 (by omega) f1 (Off.rf _ _) g2 ((hO rfl).offm g1) fun iv' av' hu => hu
  · rcases g2 with ⟨h10, _⟩ | ⟨_, rfl, q3, g4⟩
    · exact absurd h10 (by decide)
    · exact (l_X13_rs_wrong C (iv0 := iv) (av0 := av1) (fun iv' av' c1 c2 c3 c4 => ⟨c1, c2, Or.inr ⟨Or.inl rfl, c3, c4⟩⟩) f1 (Off.rf _ _) g4 (hb.offm g1)).1 0 (by omega)
end SRsyms
