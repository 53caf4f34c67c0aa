/-! The class' unpacking: the row of lengths, the codes, all parts. -/
section SUnall
variable {Y : Gl} {X : Cx} {e : Nat} {iv av : IVt} {fr N p most win : Nat} {ms : Int} {o : Outp}
theorem l_X10_readLengths (C : CX Y X RX10 "readLengths" cX10_readLengths 7 (some .boolean) (e + 3) 0 0) {iv0 av0 : IVt} (hr : fr + N / 8 ≤ iv0 12 1) {z : Nat → Int} (hz : RC av0 67 z 19) {q : Prop} (okz : okC z 19 q) {all : Nat} (hall : all ≤ 320) {P : PN} :
    ∀ (m p a : Nat) (row : Nat → Int) (iv av : IVt), all < a + m → a ≤ all → CS iv fr N p 0 → Off [72] iv0 iv → Off [71] av0 av → (∀ j, j < a → av 71 j = row j ∧ 0 ≤ row j ∧ row j ≤ 15) →
    (∀ r iv' av', Off [72] iv0 iv' → Off [71] av0 av' → (∃ p' ms', CS iv' fr N p' ms') → ((r = 0 ∧ rowF (BB (av0 13) fr N) N z all m p a row = none) ∨ (r = 1 ∧ ∃ p' row', rowF (BB (av0 13) fr N) N z all m p a row = some (p', row') ∧ CS iv' fr N p' 0 ∧ p ≤ p' ∧ ∀ j, j < all → av' 71 j = row' j ∧ 0 ≤ row' j ∧ row' j ≤ 15)) → P r iv' av') →
    L_X10_readLengths_12 Y X P all a iv av := by
  have hB := BB_bit (av0 13) fr N
  intro m
  induction m with
  | zero => intro p a row iv av h1 h2; omega
  | succ m ih =>
    intro p a row iv av h1 h2 h3 h4 h5 h6 hP
    have e13 : av 13 = av0 13 := h5 13 (by decide)
    have hpN := h3.2.2.2.2.1
    refine w_X10_readLengths_12 C (by omega) (by omega) ⟨fun hle => ?_, fun hlt => OkN.mono (s_X9_symbol rk_67 h3 (hz.of (h5 68 (by decide)) (h5 69 (by decide))) okz (by rw [h4 12 (by decide)]; exact hr)) ?_⟩
    · refine hP 1 iv av h4 h5 ⟨_, _, h3⟩ (Or.inr ⟨rfl, p, row, ?_, h3, Nat.le_refl _, fun j hj => h6 j (by omega)⟩)
      rw [rowF, if_pos (by omega)]
    rintro r iv1 av1 hR1 ⟨rfl, g1, p1, ms1, g2, g3, g4⟩ hr1
    rw [e13] at g4
    have f1 : Off [72] iv0 iv1 := h4.tr g1
    have fault : ∀ {iv5 : IVt} {p5 : Nat} {ms5 : Int}, Off [72] iv0 iv5 → CS iv5 fr N p5 ms5 → rowF (BB (av0 13) fr N) N z all (m + 1) p a row = none → P 0 iv5 av1 := fun b1 b2 b3 => hP 0 _ av1 b1 h5 ⟨_, _, b2⟩ (Or.inl ⟨rfl, b3⟩)
    -- behind the symbol
    have next : ∀ t : Nat, (t : Int) = stimes r.toNat → L_X10_readLengths_59 Y X P all a r t iv1 av1 := by
      intro t ht
      have hsb := sbits_le r.toNat
      refine w_X10_readLengths_59 C (by omega) hr1 (OkN.mono (s_X11_sizeBits hr1) ?_)
      rintro r2 iv2 av2 hR2 ⟨rfl, rfl, rfl⟩ hr2
      refine OkN.mono (s_X1_bits g2 (by omega) (by rw [f1 12 (by decide)]; exact hr)) ?_
      rintro r3 iv3 av3 hR3 ⟨rfl, g5, rfl, g6⟩ hr3
      rw [e13] at hr3 ⊢
      have f3 : Off [72] iv0 iv3 := f1.tr g5
      refine ⟨fun hneg => w_X10_readLengths_107 C (fault f3 g6 ?_), fun hnn => OkN.mono (s_X1_isMissing g6) ?_⟩
      · rw [rowF, if_neg (by omega)]
        rcases g4 with ⟨s, q, a1, a2, a3, a4⟩ | ⟨a1, a2⟩
        · omega
        · rw [a1]
      rintro r4 iv4 av4 hR4 ⟨rfl, rfl, rfl⟩ hr4
      by_cases hgood : ms1 = 0 ∧ p1 + sbits r.toNat ≤ N
      · obtain ⟨rfl, hle⟩ := hgood
        rw [if_pos hle] at g6 ⊢
        rw [show min (p1 + sbits r.toNat) N = p1 + sbits r.toNat by omega] at g6
        obtain ⟨s, rfl, a1, a4⟩ : ∃ s : Nat, r = s ∧ sym (BB (av0 13) fr N) N z 19 p = some (s, p1) ∧ s < 19 := by
          rcases g4 with ⟨s, q, a1, a2, a3, a4⟩ | ⟨a1, a2⟩
          · subst a3
            exact ⟨s, a2, a1, (sym_some hB a1).1⟩
          · omega
        rw [show ((s : Nat) : Int).toNat = s from rfl] at *
        have hnn2 := nn_eq hB p1 (sbits s)
        have hnl := nn_lt hB p1 (sbits s)
        have hnl7 : nn (BB (av0 13) fr N) p1 (sbits s) < 128 := by
          have : 2 ^ sbits s ≤ 2 ^ 7 := Nat.pow_le_pow_right (by omega) hsb
          omega
        have hst : stimes s ≤ 11 ∧ 1 ≤ stimes s := by unfold stimes; split <;> (try split) <;> (try split) <;> omega
        have hpp := (sym_some hB a1).2.1
        have esp : rowF (BB (av0 13) fr N) N z all (m + 1) p a row = if (s = 16 ∧ a = 0) ∨ N < p1 + sbits s ∨ all < a + (stimes s + nn (BB (av0 13) fr N) p1 (sbits s)) then none
            else rowF (BB (av0 13) fr N) N z all m (p1 + sbits s) (a + (stimes s + nn (BB (av0 13) fr N) p1 (sbits s))) (fun i => if a ≤ i ∧ i < a + (stimes s + nn (BB (av0 13) fr N) p1 (sbits s)) then rowV s a row else row i) := by
          rw [rowF, if_neg (by omega), a1]
        have go99 : ¬ (s = 16 ∧ a = 0) → L_X10_readLengths_99 Y X P all a s ((t : Int) + nv (BB (av0 13) fr N) p1 (sbits s)) iv4 av4 := by
          intro h16
          rw [hnn2, show ((t : Int)) + ((nn (BB (av0 13) fr N) p1 (sbits s) : Nat) : Int) = ((stimes s + nn (BB (av0 13) fr N) p1 (sbits s) : Nat) : Int) by omega]
          generalize hT : stimes s + nn (BB (av0 13) fr N) p1 (sbits s) = T at *
          -- copying
          have fill : ∀ v : Int, v = rowV s a row → 0 ≤ v ∧ v ≤ 15 → a + T ≤ all → L_X10_readLengths_151 Y X P all a T v iv4 av4 := by
            intro v hv hv15 hle2
            refine w_X10_readLengths_151 C ?_
            have lp : ∀ (m2 x : Nat) (av5 : IVt), x + m2 = T → Off [71] av0 av5 → (∀ j, j < a + x → av5 71 j = if a ≤ j ∧ j < a + T then rowV s a row else row j) → L_X10_readLengths_154 Y X P all a T v ((a + x : Nat) : Int) iv4 av5 := by
              intro m2
              induction m2 with
              | zero =>
                intro x av5 b1 b2 b3
                refine w_X10_readLengths_154 C (by omega) (by omega) ⟨by omega, fun _ => ?_, fun h => absurd h (by omega)⟩
                rw [show (a : Int) + T = ((a + T : Nat) : Int) by omega]
                refine ih (p1 + sbits s) (a + T) (fun i => if a ≤ i ∧ i < a + T then rowV s a row else row i) iv4 av5 (by omega) hle2 g6 f3 b2 (fun j hj => ?_) ?_
                · rw [b3 j (by omega)]
                  by_cases hja : a ≤ j ∧ j < a + T
                  · simp only [if_pos hja]
                    rw [← hv]
                    exact ⟨trivial, hv15.1, hv15.2⟩
                  · simp only [if_neg hja]
                    exact ⟨trivial, (h6 j (by omega)).2⟩
                · intro r iv' av' c1 c2 c3 c4
                  refine hP r iv' av' c1 c2 c3 ?_
                  rw [esp, if_neg (by omega)]
                  rcases c4 with c4 | ⟨c4, p', row', c5, c6, c7, c8⟩
                  · exact Or.inl c4
                  · exact Or.inr ⟨c4, p', row', c5, c6, by omega, c8⟩
              | succ m2 ih2 =>
                intro x av5 b1 b2 b3
                refine w_X10_readLengths_154 C (by omega) (by omega) ⟨by omega, fun h => absurd h (by omega), fun _ => ⟨fun h => absurd h (by omega), fun _ => ⟨by omega, ?_⟩⟩⟩
                rw [show ((a + x : Nat) : Int) + 1 = ((a + (x + 1) : Nat) : Int) by omega]
                refine ih2 (x + 1) _ (by omega) (b2.up (by decide)) fun j hj => ?_
                rw [up2_at]
                by_cases hjx : j = ((a + x : Nat) : Int).toNat
                · rw [if_pos hjx, if_pos (by omega), hv]
                · rw [if_neg hjx]
                  exact b3 j (by omega)
            have := lp T 0 av4 (by omega) h5 fun j hj => by
              rw [if_neg (by omega)]
              exact (h6 j (by omega)).1
            rw [Nat.add_zero] at this
            exact this
          refine w_X10_readLengths_99 C (by omega) (by omega) ⟨by omega, fun hle2 => ⟨fun h => ?_, fun h => ?_⟩, fun hgt => w_X10_readLengths_107 C (fault f3 g6 ?_)⟩
          · refine w_X10_readLengths_122 C (by omega) (by omega) ⟨fun hne => fill 0 ?_ (by omega) (by omega), fun heq => ⟨fun h0 => absurd h0 (by omega), fun _ => ⟨fun h => absurd h (by omega), fun _ => ⟨by omega, fun _ => fill _ ?_ ?_ (by omega)⟩⟩⟩⟩
            · unfold rowV
              rw [if_neg (by omega), if_neg (by omega)]
            · unfold rowV
              rw [if_neg (by omega), if_pos (by omega), show ((a : Int) - 1).toNat = a - 1 by omega]
              exact (h6 (a - 1) (by omega)).1
            · rw [show ((a : Int) - 1).toNat = a - 1 by omega]
              have := h6 (a - 1) (by omega)
              omega
          · refine w_X10_readLengths_122 C (by omega) (by omega) ⟨fun _ => fill s ?_ (by omega) (by omega), fun heq => absurd heq (by omega)⟩
            unfold rowV
            rw [if_pos (by omega)]
          · rw [esp, if_pos (by omega)]
        refine ⟨fun h => absurd rfl h, fun _ => ⟨fun hne => go99 (by omega), fun heq => ⟨fun h0 => w_X10_readLengths_107 C (fault f3 g6 ?_), fun h0 => go99 (by omega)⟩⟩⟩
        rw [esp, if_pos (by omega)]
      · have hms5 : ¬ (if p1 + sbits r.toNat ≤ N then ms1 else 1) = 0 := by
          intro h0
          refine hgood ?_
          split at h0
          · rename_i h00
            exact ⟨h0, h00⟩
          · omega
        refine ⟨fun _ => w_X10_readLengths_107 C (fault f3 g6 ?_), fun h => absurd h hms5⟩
        rw [rowF, if_neg (by omega)]
        rcases g4 with ⟨s, q, a1, a2, a3, a4⟩ | ⟨a1, a2⟩
        · rw [a1]
          dsimp only
          have : r.toNat = s := by omega
          rw [this] at hgood
          rw [if_pos (by omega)]
        · rw [a1]
    refine ⟨fun h => next 3 ?_, fun h => ⟨fun h17 => ⟨fun h18 => next 1 ?_, fun h18 => next 11 ?_⟩, fun h17 => next 3 ?_⟩⟩
    · rw [h]; rfl
    · unfold stimes
      rw [if_neg (by omega), if_neg (by omega), if_neg (by omega)]
    · rw [h18]; rfl
    · rw [h17]; rfl
theorem s_X10_readLengths (h : CS iv fr N p 0) (hr : fr + N / 8 ≤ iv 12 1) {z : Nat → Int} (hz : RC av 67 z 19) {q : Prop} (okz : okC z 19 q) {hh d : Nat} (h6 : iv 58 6 = (hh : Nat)) (h7 : iv 58 7 = (d : Nat)) (hall : hh + d ≤ 320) : OkN Y (e + 3) mX10_readLengths [.ref (gl_b Y + 58)] RV iv av 116
    (fun r iv' av' => Off [72] iv iv' ∧ Off [71] av av' ∧ (∃ p' ms', CS iv' fr N p' ms') ∧ ((r = 0 ∧ rowF (BB (av 13) fr N) N z (hh + d) 400 p 0 (fun _ => 0) = none) ∨ (r = 1 ∧ ∃ p' row', rowF (BB (av 13) fr N) N z (hh + d) 400 p 0 (fun _ => 0) = some (p', row') ∧ CS iv' fr N p' 0 ∧ p ≤ p' ∧ ∀ j, j < hh + d → av' 71 j = row' j ∧ 0 ≤ row' j ∧ row' j ≤ 15))) := by
  refine o_X10_readLengths fun X C _ _ => ?_
  rw [h6, h7, show (hh : Int) + d = ((hh + d : Nat) : Int) by omega]
  exact l_X10_readLengths (iv0 := iv) (av0 := av) C hr hz okz hall 400 p 0 (fun _ => 0) iv av (by omega) (by omega) h (Off.rf _ _) (Off.rf _ _) (fun j hj => absurd hj (Nat.not_lt_zero _)) fun r iv' av' a1 a2 a3 a4 => ⟨a1, a2, a3, a4⟩
/-- the codes of a made part are no fault -/
def codeC (h d : Nat) (row : Nat → Int) : Prop := fSy h row 256 = 0 ∨ ¬ okC (fSy h row) 288 False ∨ ¬ okC (fDi h d row) 32 True
theorem s_X10_makeCodes {hh d : Nat} (h6 : iv 58 6 = (hh : Nat)) (h7 : iv 58 7 = (d : Nat)) (hh1 : 257 ≤ hh) (hh2 : hh ≤ 286) (hd2 : d ≤ 30) {row : Nat → Int} (hrow : ∀ j, j < hh + d → av 71 j = row j ∧ 0 ≤ row j ∧ row j ≤ 15) : OkN Y (e + 3) mX10_makeCodes [.ref (gl_b Y + 58)] RV iv av 116
    (fun r iv' av' => iv' = iv ∧ Off [60, 61, 62, 64, 65, 66] av av' ∧ ((r = 0 ∧ codeC hh d row) ∨ (r = 1 ∧ ¬ codeC hh d row ∧ RC av' 59 (fSy hh row) 288 ∧ RC av' 63 (fDi hh d row) 32))) := by
  have e256 := hrow 256 (by omega)
  have ef : fSy hh row 256 = row 256 := if_pos (by omega)
  have hq0 : ((0 : Int) ≠ 0) ↔ False := ⟨fun h => h rfl, fun h => h.elim⟩
  have hq1 : ((1 : Int) ≠ 0) ↔ True := ⟨fun _ => trivial, fun _ => by decide⟩
  have pS : ∀ s, s < hh → fSy hh row s = row s := fun s hs => if_pos hs
  have zS : ∀ s, hh ≤ s → fSy hh row s = 0 := fun s hs => if_neg (by omega)
  have pD : ∀ s, s < d → fDi hh d row s = row (hh + s) := fun s hs => if_pos hs
  have zD : ∀ s, d ≤ s → fDi hh d row s = 0 := fun s hs => if_neg (by omega)
  have okS : okC row hh False ↔ okC (fSy hh row) 288 False := by
    have := okC_pad (q := False) pS zS (288 - hh)
    rw [show hh + (288 - hh) = 288 by omega] at this
    exact this.symm
  have okD : okC (fun s => row (hh + s)) d True ↔ okC (fDi hh d row) 32 True := by
    have := okC_pad (g := fun s => row (hh + s)) (q := True) pD zD (32 - d)
    rw [show d + (32 - d) = 32 by omega] at this
    exact this.symm
  refine o_X10_makeCodes fun _ => ⟨fun hle => ⟨rfl, Off.rf _ _, Or.inl ⟨rfl, Or.inl (by omega)⟩⟩, fun hpos _ => ?_⟩
  rw [h6]
  have hl1 : Len av 71 0 hh row := ⟨by show 0 + hh ≤ 320; omega, by omega, fun s hs => by rw [Nat.zero_add]; exact hrow s (by omega)⟩
  refine OkN.mono (s_X9_make rk_59 ak_71 (by decide) (by decide) (by decide) (by omega) hl1) ?_
  rintro r iv1 av1 hR1 ⟨rfl, g1, g2, g3⟩ hr1
  rw [okC_q hq0, okS] at g1
  refine ⟨fun h0 => ⟨rfl, g2.mono (by decide), Or.inl ⟨rfl, Or.inr (Or.inl ?_)⟩⟩, fun h0 _ _ => ?_⟩
  · rcases g1 with g1 | g1
    · exact g1.2
    · omega
  rw [h6, h7]
  have hl2 : Len av1 71 hh d (fun s => row (hh + s)) := ⟨by show hh + d ≤ 320; omega, by omega, fun s hs => by rw [g2 71 (by decide)]; exact hrow (hh + s) (by omega)⟩
  refine OkN.mono (s_X9_make rk_63 ak_71 (by decide) (by decide) (by decide) (by omega) hl2) ?_
  rintro r2 iv2 av2 hR2 ⟨rfl, g4, g5, g6⟩ hr2
  rw [okC_q hq1, okD] at g4
  have f5 : Off [60, 61, 62, 64, 65, 66] av av2 := (g2.mono (by decide)).tr (g5.mono (by decide))
  refine ⟨fun h0 => ⟨rfl, f5, Or.inl ⟨rfl, Or.inr (Or.inr ?_)⟩⟩, fun h0 => ⟨rfl, f5, Or.inr ⟨rfl, ?_, ?_, ?_⟩⟩⟩
  · rcases g4 with g4 | g4
    · exact g4.2
    · omega
  · rintro (g | g | g)
    · omega
    · rcases g1 with g1 | g1
      · omega
      · exact g g1.2
    · rcases g4 with g4 | g4
      · omega
      · exact g g4.2
  · have := (g3.of (av' := av2) (g5 60 (by decide)) (g5 61 (by decide))).pad pS zS (j := 288 - hh) (by omega)
    rw [show hh + (288 - hh) = 288 by omega] at this
    exact this
  · have := g6.pad (f := fDi hh d row) pD zD (j := 32 - d) (by omega)
    rw [show d + (32 - d) = 32 by omega] at this
    exact this
theorem madeF_eq {b : Nat → Int} : madeF b N p = cif (headC b N p) none (madeC (nn b p 5 + 257) (nn b (p + 5) 5 + 1) (rowF b N (zs b (p + 14) (nn b (p + 10) 4 + 4)) (nn b p 5 + 257 + (nn b (p + 5) 5 + 1)) 400 (p + 14 + 3 * (nn b (p + 10) 4 + 4)) 0 fun _ => 0)) := rfl
/-- a whole unpacking's end -/
def UE (iv0 av0 iv' av' : IVt) (most : Nat) (d : Option Outp) (r : Int) : Prop := Off LUi iv0 iv' ∧ Off LUa av0 av' ∧ 0 ≤ iv' 16 1 ∧ iv' 16 1 ≤ 65536 ∧ ((r = 1 ∧ ∃ o', d = some o' ∧ iv' 16 1 = o'.1 ∧ o'.1 ≤ most ∧ ∀ j : Nat, j < o'.1 → av' 17 j = o'.2 j) ∨ (r = 0 ∧ d = none))
theorem unpC_none {b : Nat → Int} : unpC b N none = none := rfl
theorem l_X10_unpack (C : CX Y X RX10 "unpack" cX10_unpack 8 (some .boolean) (e + 4) 0 0) {iv0 av0 : IVt} (hr : fr + N / 8 ≤ iv0 12 1) {P : PN} :
    ∀ (m p i : Nat) (o : Outp) (iv av : IVt), N < p + m → i + 16 ≤ p → CS iv fr N p 0 → US iv av most win o → Off LUi iv0 iv → Off LUa av0 av →
    (∀ r iv' av', UE iv0 av0 iv' av' most (unpC (BB (av0 13) fr N) N (unpF (BB (av0 13) fr N) N most win m p o)) r → P r iv' av') → L_X10_unpack_34 Y X P i iv av := by
  have hB := BB_bit (av0 13) fr N
  intro m
  induction m with
  | zero =>
    intro p i o iv av h1 h2 h3
    have := h3.2.2.2.2.1
    omega
  | succ m ih =>
    intro p i o iv av h1 h2 h3 h4 h5 h6 hP
    have hpN := h3.2.2.2.2.1
    have hN8 := h3.2.2.2.2.2.2.1
    have e13 : av 13 = av0 13 := h6 13 (by decide)
    refine w_X10_unpack_34 C (by omega) ⟨fun h => absurd h (by omega), fun _ => OkN.mono (s_X1_bit h3 (by rw [h5 12 (by decide)]; exact hr)) ?_⟩
    rintro r iv1 av1 hR1 ⟨rfl, g1, rfl, g2⟩ hr1
    rw [e13] at hr1 ⊢
    have f1 : Off LUi iv0 iv1 := h5.tr (g1.mono (by decide))
    have u1 := h4.of (g1 16 (by decide)) (g1 58 (by decide)) (rfl : av1 17 = av1 17)
    have bad : ∀ {iv5 av5 : IVt}, unpF (BB (av0 13) fr N) N most win (m + 1) p o = none → Off LUi iv0 iv5 → Off LUa av0 av5 → 0 ≤ iv5 16 1 ∧ iv5 16 1 ≤ 65536 → P 0 iv5 av5 := fun hd b1 b2 b3 => hP 0 _ _ ⟨b1, b2, b3.1, b3.2, Or.inr ⟨rfl, by rw [hd]; rfl⟩⟩
    -- behind the sort
    have go : ∀ last : Int, last = BB (av0 13) fr N p → L_X10_unpack_59 Y X P i last iv1 av1 := by
      intro last hlast
      refine w_X10_unpack_59 C (OkN.mono (s_X1_bitsK 2 rfl g2 (by decide) (by rw [f1 12 (by decide)]; exact hr)) ?_)
      rintro r iv2 av2 hR2 ⟨rfl, g3, rfl, g4⟩ hr2
      rw [e13] at hr2 ⊢
      have f2 : Off LUi iv0 iv2 := f1.tr (g3.mono (by decide))
      have u2 := u1.of (g3 16 (by decide)) (g3 58 (by decide)) (rfl : av2 17 = av2 17)
      have z1 : min (min (p + 1) N + 2) N = min (p + 3) N := by omega
      have z2 : (if min (p + 1) N + 2 ≤ N then (if p < N then (0 : Int) else 1) else 1) = (if p + 3 ≤ N then 0 else 1) := by
        by_cases hh : p + 3 ≤ N
        · rw [if_pos (by omega), if_pos (by omega), if_pos hh]
        · rw [if_neg hh]
          split
          · split
            · omega
            · rfl
          · rfl
      rw [z1, z2] at g4
      have hnv := nv_in hB (min (p + 1) N) 2
      have e2 : (2 : Int) ^ 2 = 4 := rfl
      have zero : ∀ {iv5 av5 : IVt}, unpF (BB (av0 13) fr N) N most win (m + 1) p o = none → Off LUi iv0 iv5 → Off LUa av0 av5 → 0 ≤ iv5 16 1 ∧ iv5 16 1 ≤ 65536 → L_X10_unpack_157 Y X P i last 0 iv5 av5 := fun hd b1 b2 b3 => by
        have hb := hB p
        exact w_X10_unpack_157 C (by omega) (by omega) ⟨fun _ => w_X10_unpack_172 C (bad hd b1 b2 b3), fun h => absurd rfl h⟩
      -- behind a part
      have fin : ∀ {r : Int} {iv5 av5 : IVt}, UR LUi LUa iv0 av0 iv5 av5 fr N most win (partF (BB (av0 13) fr N) N most win (nv (BB (av0 13) fr N) (p + 1) 2) (p + 3) o) (if p + 3 ≤ N then 0 else 1) r → (r = 0 ∨ r = 1) → (p + 3 ≤ N → ∀ p' o', partF (BB (av0 13) fr N) N most win (nv (BB (av0 13) fr N) (p + 1) 2) (p + 3) o = some (p', o') → p < p') → L_X10_unpack_157 Y X P i last r iv5 av5 := by
        intro r iv5 av5 hu hr01 hprog
        obtain ⟨b1, b2, p5, ms5, b3, b4⟩ := hu
        have hb := hB p
        have nospec : (partF (BB (av0 13) fr N) N most win (nv (BB (av0 13) fr N) (p + 1) 2) (p + 3) o = none ∨ (if p + 3 ≤ N then (0 : Int) else 1) = 1) → unpF (BB (av0 13) fr N) N most win (m + 1) p o = none := by
          intro hd
          rw [unpF]
          by_cases hh : p + 3 ≤ N
          · rw [if_neg (by omega)]
            rw [if_pos hh] at hd
            rcases hd with hd | hd
            · rw [hd]
            · omega
          · rw [if_pos (by omega)]
        rcases b4 with ⟨c1, rfl, rfl, o', c4, c5⟩ | ⟨c1, c2, c3, c4⟩
        · have hh : p + 3 ≤ N := by
            split at c1
            · assumption
            · omega
          have hpp := hprog hh p5 o' c4
          have espec : unpF (BB (av0 13) fr N) N most win (m + 1) p o = if BB (av0 13) fr N p = 1 then some (p5, o') else unpF (BB (av0 13) fr N) N most win m p5 o' := by
            rw [unpF, if_neg (by omega), c4]
          refine w_X10_unpack_157 C (by omega) (by omega) ⟨fun h => absurd h (by decide), fun _ => OkN.mono (s_X1_isMissing b3) ?_⟩
          rintro r6 iv6 av6 hR6 ⟨rfl, rfl, rfl⟩ hr6
          refine ⟨fun _ => ⟨fun h0 => ?_, fun h0 => OkN.mono (s_X10_readCheck b3 (by rw [b1 12 (by decide)]; exact hr) c5) ?_⟩, fun h => absurd rfl h⟩
          · rw [show (i : Int) + 1 = ((i + 1 : Nat) : Int) by omega]
            refine ih p5 (i + 1) o' iv6 av6 (by omega) (by omega) b3 c5 b1 b2 ?_
            intro r7 iv7 av7 hu7
            refine hP r7 iv7 av7 ?_
            rw [espec, if_neg (by omega)]
            exact hu7
          · rintro r7 iv7 av7 hR7 ⟨rfl, d1, d2⟩ hr7
            have e13' : av7 13 = av0 13 := b2 13 (by decide)
            rw [e13'] at d2
            have b1' : Off LUi iv0 iv7 := b1.tr (d1.mono (by decide))
            have u7 := c5.of (d1 16 (by decide)) (d1 58 (by decide)) (rfl : av7 17 = av7 17)
            have ub := u7.bd
            rcases d2 with ⟨rfl, d2⟩ | ⟨rfl, d2⟩
            · refine ⟨by decide, hP 1 iv7 av7 ⟨b1', b2, ub.1, ub.2, Or.inl ⟨rfl, o', ?_, u7.1, u7.2.2.2.1, u7.2.2.2.2.2.2⟩⟩⟩
              rw [espec, if_pos (by omega)]
              exact d2
            · refine ⟨by decide, hP 0 iv7 av7 ⟨b1', b2, ub.1, ub.2, Or.inr ⟨rfl, ?_⟩⟩⟩
              rw [espec, if_pos (by omega)]
              exact d2
        · rcases hr01 with rfl | rfl
          · exact zero (nospec c1) b1 b2 ⟨c3, c4⟩
          · refine w_X10_unpack_157 C (by omega) (by omega) ⟨fun h => absurd h (by decide), fun _ => OkN.mono (s_X1_isMissing b3) ?_⟩
            rintro r6 iv6 av6 hR6 ⟨rfl, rfl, rfl⟩ hr6
            exact ⟨fun h0 => by omega, fun _ => w_X10_unpack_172 C (bad (nospec c1) b1 b2 ⟨c3, c4⟩)⟩
      have progS : ∀ {fS fD : Nat → Int} {w : Nat} (m2 q : Nat) (o2 : Outp) (p' : Nat) (o' : Outp), symsF (BB (av0 13) fr N) N fS fD most w m2 q o2 = some (p', o') → q < p' := by
        intro fS fD w m2
        induction m2 with
        | zero => intro q o2 p' o' h; simp [symsF] at h
        | succ m2 ih2 =>
          intro q o2 p' o' h
          rw [symsF] at h
          cases hs : sym (BB (av0 13) fr N) N fS 288 q with
          | none => rw [hs] at h; simp at h
          | some v =>
            obtain ⟨s, q1⟩ := v
            rw [hs] at h
            dsimp only at h
            have hq1 := (sym_some hB hs).2.1
            split at h
            · have := congrArg Prod.fst (Option.some.inj h)
              dsimp only at this
              omega
            · split at h
              · split at h
                · simp at h
                · have := ih2 _ _ _ _ h
                  omega
              · split at h
                · simp at h
                · cases hs2 : sym (BB (av0 13) fr N) N fD 32 (q1 + lbits s) with
                  | none => rw [hs2] at h; simp at h
                  | some v2 =>
                    obtain ⟨d, q3⟩ := v2
                    rw [hs2] at h
                    dsimp only at h
                    have hq3 := (sym_some hB hs2).2.1
                    split at h
                    · simp at h
                    · have := ih2 _ _ _ _ h
                      omega
      by_cases hh : p + 3 ≤ N
      · have hq : min (p + 1) N = p + 1 := by omega
        have hq3 : min (p + 3) N = p + 3 := by omega
        rw [hq] at hnv hr2 ⊢
        rw [hq3, if_pos hh] at g4
        rw [if_pos hh] at fin
        refine ⟨fun h0 => ⟨fun h1 => ⟨fun h2 => ?_, fun h2 => OkN.mono (s_X10_readSizes g4 (by rw [f2 12 (by decide)]; exact hr) u2) ?_⟩, fun h1 => OkN.mono s_X10_makeFixed ?_⟩, fun h0 => OkN.mono (s_X10_readStored g4 (by rw [f2 12 (by decide)]; exact hr) u2) ?_⟩
        · refine zero ?_ f2 h6 u2.bd
          rw [unpF, if_neg (by omega), partF, if_neg h0, if_neg h1, if_neg h2]
        · rw [h2] at fin
          have espart : partF (BB (av0 13) fr N) N most win 2 (p + 3) o = partM (BB (av0 13) fr N) N most win o (madeF (BB (av0 13) fr N) N (p + 3)) := by
            rw [partF, if_neg (by decide), if_neg (by decide), if_pos rfl]
          have nonspec : madeF (BB (av0 13) fr N) N (p + 3) = none → unpF (BB (av0 13) fr N) N most win (m + 1) p o = none := by
            intro hd
            rw [unpF, if_neg (by omega), h2, espart, hd]
            rfl
          rintro r3 iv3 av3 hR3 ⟨b1, b2, b3, ⟨p', ms', b4⟩, b5⟩ hr3
          rw [e13] at b5
          have f3 : Off LUi iv0 iv3 := f2.tr (b1.mono (by decide))
          have fa3 : Off LUa av0 av3 := h6.tr (b2.mono (by decide))
          refine ⟨fun hz => w_X10_unpack_154 C (zero (nonspec ?_) f3 fa3 b3.bd), fun hz => ?_⟩
          · rcases b5 with ⟨_, b5⟩ | ⟨b5, _⟩
            · rw [madeF_eq, cif_pos b5]
            · omega
          obtain ⟨_, hh1, hcs, h6', h7', hrc⟩ := b5.resolve_left (fun h => hz h.1)
          have hokz : okC (zs (BB (av0 13) fr N) (p + 3 + 14) (nn (BB (av0 13) fr N) (p + 3 + 10) 4 + 4)) 19 False := by
            by_cases hk : okC (zs (BB (av0 13) fr N) (p + 3 + 14) (nn (BB (av0 13) fr N) (p + 3 + 10) 4 + 4)) 19 False
            · exact hk
            · exact absurd (Or.inr (Or.inr (Or.inr hk))) hh1
          have hbd : nn (BB (av0 13) fr N) (p + 3) 5 + 257 ≤ 286 ∧ nn (BB (av0 13) fr N) (p + 3 + 5) 5 + 1 ≤ 30 := by
            unfold headC at hh1
            omega
          refine OkN.mono (s_X10_readLengths hcs (by rw [f3 12 (by decide)]; exact hr) hrc hokz h6' h7' (by omega)) ?_
          rintro r4 iv4 av4 hR4 ⟨c1, c2, ⟨p4, ms4, c3⟩, c4⟩ hr4
          have e13'' : av3 13 = av0 13 := fa3 13 (by decide)
          rw [e13''] at c4
          have f4 : Off LUi iv0 iv4 := f3.tr (c1.mono (by decide))
          have fa4 : Off LUa av0 av4 := fa3.tr (c2.mono (by decide))
          have u4 := b3.of (c1 16 (by decide)) (c1 58 (by decide)) (c2 17 (by decide))
          refine ⟨fun hz => w_X10_unpack_154 C (zero (nonspec ?_) f4 fa4 u4.bd), fun hz => ?_⟩
          · rcases c4 with ⟨_, c4⟩ | ⟨c4, _⟩
            · rw [madeF_eq, cif_neg hh1, c4]
              rfl
            · omega
          obtain ⟨_, p5, row, c5, c6, c7, c8⟩ := c4.resolve_left (fun h => hz h.1)
          have h6'' : iv4 58 6 = ((nn (BB (av0 13) fr N) (p + 3) 5 + 257 : Nat) : Int) := by rw [c1 58 (by decide)]; exact h6'
          have h7'' : iv4 58 7 = ((nn (BB (av0 13) fr N) (p + 3 + 5) 5 + 1 : Nat) : Int) := by rw [c1 58 (by decide)]; exact h7'
          refine OkN.mono (s_X10_makeCodes h6'' h7'' (by omega) hbd.1 hbd.2 c8) ?_
          rintro r5 iv5 av5 hR5 ⟨rfl, d1, d2⟩ hr5
          have fa5 : Off LUa av0 av5 := fa4.tr (d1.mono (by decide))
          have u5 := u4.of (rfl : iv5 16 = iv5 16) rfl (d1 17 (by decide))
          have esmade : madeF (BB (av0 13) fr N) N (p + 3) = cif (codeC (nn (BB (av0 13) fr N) (p + 3) 5 + 257) (nn (BB (av0 13) fr N) (p + 3 + 5) 5 + 1) row) none (some (p5, fSy (nn (BB (av0 13) fr N) (p + 3) 5 + 257) row, fDi (nn (BB (av0 13) fr N) (p + 3) 5 + 257) (nn (BB (av0 13) fr N) (p + 3 + 5) 5 + 1) row)) := by
            rw [madeF_eq, cif_neg hh1, c5]
            rfl
          refine ⟨fun hz => w_X10_unpack_154 C (zero (nonspec ?_) f4 fa5 u5.bd), fun hz => ?_⟩
          · rcases d2 with ⟨_, d2⟩ | ⟨d2, _⟩
            · rw [esmade, cif_pos d2]
            · omega
          obtain ⟨_, d3, d4, d5⟩ := d2.resolve_left (fun h => hz h.1)
          rw [cif_neg d3] at esmade
          have okS : okC (fSy (nn (BB (av0 13) fr N) (p + 3) 5 + 257) row) 288 False := by
            by_cases hk : okC (fSy (nn (BB (av0 13) fr N) (p + 3) 5 + 257) row) 288 False
            · exact hk
            · exact absurd (Or.inr (Or.inl hk)) d3
          have okD : okC (fDi (nn (BB (av0 13) fr N) (p + 3) 5 + 257) (nn (BB (av0 13) fr N) (p + 3 + 5) 5 + 1) row) 32 True := by
            by_cases hk : okC (fDi (nn (BB (av0 13) fr N) (p + 3) 5 + 257) (nn (BB (av0 13) fr N) (p + 3 + 5) 5 + 1) row) 32 True
            · exact hk
            · exact absurd (Or.inr (Or.inr hk)) d3
          refine OkN.mono (s_X10_readSymbols c6 (by rw [f4 12 (by decide)]; exact hr) (by omega) d4 okS d5 okD u5) ?_
          rintro r6 iv6 av6 hR6 hu hr6
          rw [fa5 13 (by decide)] at hu
          have espart2 : partF (BB (av0 13) fr N) N most win 2 (p + 3) o = symsF (BB (av0 13) fr N) N (fSy (nn (BB (av0 13) fr N) (p + 3) 5 + 257) row) (fDi (nn (BB (av0 13) fr N) (p + 3) 5 + 257) (nn (BB (av0 13) fr N) (p + 3 + 5) 5 + 1) row) most win (N + 1) p5 o := by
            rw [espart, esmade]
            rfl
          rw [espart2] at fin
          have hu2 := hu.tr f4 fa5 (Li' := LUi) (La' := LUa) (by decide) (by decide)
          have hpr : ∀ p' o', symsF (BB (av0 13) fr N) N (fSy (nn (BB (av0 13) fr N) (p + 3) 5 + 257) row) (fDi (nn (BB (av0 13) fr N) (p + 3) 5 + 257) (nn (BB (av0 13) fr N) (p + 3 + 5) 5 + 1) row) most win (N + 1) p5 o = some (p', o') → p < p' := fun p' o' h => by
            have := progS _ _ _ _ _ h
            omega
          refine ⟨fun hz => w_X10_unpack_154 C ?_, fun hz => ?_⟩
          · rw [hz] at hu2
            exact fin hu2 (Or.inl rfl) fun _ => hpr
          · exact fin (hu2.one hz) (Or.inr rfl) fun _ => hpr
        · rw [h1] at fin
          rintro r3 iv3 av3 hR3 ⟨rfl, rfl, b2, b3, b4⟩ hr3
          have fa3 : Off LUa av0 av3 := h6.tr (b2.mono (by decide))
          have u3 := u2.of (rfl : iv3 16 = iv3 16) rfl (b2 17 (by decide))
          refine ⟨fun h => absurd h (by decide), fun _ => OkN.mono (s_X10_readSymbols g4 (by rw [f2 12 (by decide)]; exact hr) (by omega) b3 okF_S b4 okF_D u3) ?_⟩
          rintro r6 iv6 av6 hR6 hu hr6
          rw [fa3 13 (by decide)] at hu
          have espart2 : partF (BB (av0 13) fr N) N most win 1 (p + 3) o = symsF (BB (av0 13) fr N) N fxL (fun _ => 5) most win (N + 1) (p + 3) o := by
            rw [partF, if_neg (by decide), if_pos rfl]
          rw [espart2] at fin
          have hu2 := hu.tr f2 fa3 (Li' := LUi) (La' := LUa) (by decide) (by decide)
          have hpr : ∀ p' o', symsF (BB (av0 13) fr N) N fxL (fun _ => 5) most win (N + 1) (p + 3) o = some (p', o') → p < p' := fun p' o' h => by
            have := progS _ _ _ _ _ h
            omega
          refine ⟨fun hz => w_X10_unpack_110 C (w_X10_unpack_113 C ?_), fun hz => w_X10_unpack_113 C ?_⟩
          · rw [hz] at hu2
            exact fin hu2 (Or.inl rfl) fun _ => hpr
          · exact fin (hu2.one hz) (Or.inr rfl) fun _ => hpr
        · rw [h0] at fin
          rintro r6 iv6 av6 hR6 ⟨hu, hr01⟩ hr6
          rw [e13] at hu
          have espart2 : partF (BB (av0 13) fr N) N most win 0 (p + 3) o = storedF (BB (av0 13) fr N) N most (p + 3) o := by
            rw [partF, if_pos rfl]
          rw [espart2] at fin
          have hu2 := hu.tr f2 h6 (Li' := LUi) (La' := LUa) (by decide) (by decide)
          refine fin hu2 hr01 fun _ => ?_
          · intro p' o' h
            unfold storedF at h
            split at h
            · simp at h
            · have := congrArg Prod.fst (Option.some.inj h)
              dsimp only at this
              unfold toB at this
              omega
      · rw [if_neg hh] at g4 fin
        have hq3 : min (p + 3) N = N := by omega
        rw [hq3] at g4
        have hle1 : nv (BB (av0 13) fr N) (min (p + 1) N) 2 ≤ 1 := by
          have hb := hB (min (p + 1) N)
          show 0 + BB (av0 13) fr N (min (p + 1) N + 0) * 2 ^ 0 + BB (av0 13) fr N (min (p + 1) N + 1) * 2 ^ 1 ≤ 1
          rw [BB_out (show N ≤ min (p + 1) N + 1 by omega), Nat.add_zero]
          rcases hb with h | h <;> rw [h] <;> decide
        refine ⟨fun h0 => ⟨fun h1 => ⟨fun h2 => absurd h2 (by omega), fun h2 => absurd h2 (by omega)⟩, fun h1 => OkN.mono s_X10_makeFixed ?_⟩, fun h0 => OkN.mono (s_X10_readStored g4 (by rw [f2 12 (by decide)]; exact hr) u2) ?_⟩
        · rintro r3 iv3 av3 hR3 ⟨rfl, rfl, b2, b3, b4⟩ hr3
          have fa3 : Off LUa av0 av3 := h6.tr (b2.mono (by decide))
          have u3 := u2.of (rfl : iv3 16 = iv3 16) rfl (b2 17 (by decide))
          refine ⟨fun h => absurd h (by decide), fun _ => OkN.mono (s_X10_readSymbols g4 (by rw [f2 12 (by decide)]; exact hr) (by omega) b3 okF_S b4 okF_D u3) ?_⟩
          rintro r6 iv6 av6 hR6 hu hr6
          have hu2 := (hu.tr f2 fa3 (Li' := LUi) (La' := LUa) (by decide) (by decide)).any (d' := partF (BB (av0 13) fr N) N most win (nv (BB (av0 13) fr N) (p + 1) 2) (p + 3) o)
          refine ⟨fun hz => w_X10_unpack_110 C (w_X10_unpack_113 C ?_), fun hz => w_X10_unpack_113 C ?_⟩
          · rw [hz] at hu2
            exact fin hu2 (Or.inl rfl) fun h => absurd h hh
          · exact fin (hu2.one hz) (Or.inr rfl) fun h => absurd h hh
        · rintro r6 iv6 av6 hR6 ⟨hu, hr01⟩ hr6
          exact fin ((hu.tr f2 h6 (Li' := LUi) (La' := LUa) (by decide) (by decide)).any) hr01 fun h => absurd h hh
    have hb := hB p
    exact ⟨fun h => go 0 (by omega), fun h => go 1 h.symm⟩
theorem s_X10_unpack {k : Nat} (hN : N = 8 * k) (hr : fr + k ≤ iv 12 1) (hr2 : iv 12 1 ≤ 131072) (hm : most ≤ 65536) (hc : 0 ≤ iv 16 1) : OkN Y (e + 4) mX10_unpack [.ref (gl_b Y + 58), .int (i32 (fr : Int)), .int (i32 ((fr + k : Nat) : Int)), .int (i32 (most : Int))] RV iv av 116
    (fun r iv' av' => UE iv av iv' av' most (unpackF (BB (av 13) fr N) N most) r) := by
  have hB := BB_bit (av 13) fr N
  refine o_X10_unpack (by omega) (by omega) (by omega) fun X C => OkN.mono (s_X2_keep bk_16 (by omega)) ?_
  rintro r iv1 av1 hR1 ⟨rfl, rfl⟩
  have e1 : (if 0 ≤ (0 : Int) ∧ 0 < iv 16 1 then up2 iv 16 1 0 else iv) = up2 iv 16 1 0 := by
    split
    · rfl
    · rw [show (0 : Int) = iv 16 1 by omega, up2_self]
  rw [e1]
  have f1 : Off LUi iv (up2 (up2 iv 16 1 0) 58 8 most) := ((Off.rf _ _).up (by decide)).up (by decide)
  have hk : N / 8 = k := by omega
  have hbeg := s_X1_begin (Y := Y) (e := e + 3) (iv := up2 (up2 iv 16 1 0) 58 8 most) (av := av1) (fr := fr) (N := N) (by omega) (by omega)
  rw [hk] at hbeg
  refine OkN.mono hbeg ?_
  rintro r iv2 av2 hR2 ⟨rfl, g1, g2⟩
  have f2 : Off LUi iv iv2 := f1.tr (g1.mono (by decide))
  have hr3 : fr + N / 8 ≤ iv2 12 1 := by rw [f2 12 (by decide)]; omega
  refine OkN.mono (s_X10_readBeginning g2 hr3) ?_
  rintro r iv3 av3 hR3 ⟨rfl, g3, g4, g5⟩ hr4
  have f3 : Off LUi iv iv3 := f2.tr (g3.mono (by decide))
  have e16 : iv3 16 1 = 0 := by
    rw [g3 16 (by decide), g1 16 (by decide), up2_ne (by decide), up2_eq]
  have e8 : iv3 58 8 = most := by
    rw [g4, g1 58 (by decide), up2_eq]
  refine ⟨fun hz => ?_, fun hz => ⟨f3, Off.rf _ _, by omega, by omega, Or.inr ⟨rfl, ?_⟩⟩⟩
  · obtain ⟨_, h1, h2, h3⟩ := g5.resolve_right (fun h => hz h.1)
    have hx := nv_in hB 0 8
    have nnx := nn_eq hB 0 8
    have hwin : 256 * 2 ^ (nn (BB (av3 13) fr N) 0 8 / 16) ≤ 8388608 := by
      have l1 : nn (BB (av3 13) fr N) 0 8 < 256 := nn_lt hB 0 8
      have : 2 ^ (nn (BB (av3 13) fr N) 0 8 / 16) ≤ 2 ^ 15 := Nat.pow_le_pow_right (by omega) (by omega)
      omega
    refine l_X10_unpack (most := most) C (by omega) (N + 1) 16 0 (0, fun _ => 0) iv3 av3 (by omega) (by omega) h2 ⟨e16, e8, h3, by dsimp only; omega, hm, hwin, fun j hj => absurd hj (Nat.not_lt_zero _)⟩ f3 (Off.rf _ _) ?_
    intro r iv' av' hu
    unfold unpackF
    unfold begC at h1
    rw [if_neg h1]
    exact hu
  · rcases g5 with ⟨g5, _⟩ | ⟨_, g5⟩
    · omega
    · unfold unpackF
      unfold begC at g5
      rw [if_pos g5]
end SUnall
