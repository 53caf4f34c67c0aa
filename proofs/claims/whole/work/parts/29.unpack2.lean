/-! The class' unpacking: the check, the beginning, made parts. -/
section SUnpack2
variable {Y : Gl} {X : Cx} {e : Nat} {iv av : IVt} {fr N p most win : Nat} {ms : Int} {o : Outp}
theorem bm32_256 (x r : Int) : bm32 (bm32 x * 256 + r) = bm32 (x * 256 + r) := by
  apply bm32_eq
  have := bm32_mod x
  omega
theorem bm32_inj {x y : Int} (h0 : 0 ≤ x) (h1 : x < 4294967296) (g0 : 0 ≤ y) (g1 : y < 4294967296) (h : bm32 x = bm32 y) : x = y := by
  have a := bm32_mod x
  have b := bm32_mod y
  rw [h] at a
  omega
theorem ckq_in {b : Nat → Int} (hb : Bit b) (q : Nat) : 0 ≤ ckq b q 4 ∧ ckq b q 4 < 4294967296 := by
  have h : ∀ k, 0 ≤ nv b k 8 ∧ nv b k 8 < 256 := fun k => nv_in hb k 8
  have h1 := h (q + 8 * 0)
  have h2 := h (q + 8 * 1)
  have h3 := h (q + 8 * 2)
  have h4 := h (q + 8 * 3)
  have e4 : ckq b q 4 = (((0 * 256 + nv b (q + 8 * 0) 8) * 256 + nv b (q + 8 * 1) 8) * 256 + nv b (q + 8 * 2) 8) * 256 + nv b (q + 8 * 3) 8 := rfl
  omega
theorem s_X10_readCheck (h : CS iv fr N p 0) (hr : fr + N / 8 ≤ iv 12 1) (hU : US iv av most win o) : OkN Y (e + 3) mX10_readCheck [.ref (gl_b Y + 58)] RV iv av 116
    (fun r iv' av' => av' = av ∧ Off [72] iv iv' ∧ ((r = 1 ∧ unpC (BB (av 13) fr N) N (some (p, o)) = some o) ∨ (r = 0 ∧ unpC (BB (av 13) fr N) N (some (p, o)) = none))) := by
  have hB := BB_bit (av 13) fr N
  refine o_X10_readCheck fun X C => OkN.mono (s_X1_endByte h) ?_
  rintro r iv1 av1 hR1 ⟨rfl, g1, g2⟩
  rw [show (p + 7) / 8 * 8 = toB p from rfl] at g2
  have ht8 : toB p % 8 = 0 := by unfold toB; omega
  have hN8 := h.2.2.2.2.2.1
  refine OkN.mono (s_X1_bytesLeft g2) ?_
  rintro r iv2 av2 hR2 ⟨rfl, rfl, rfl⟩ hr2
  have htN := g2.2.2.2.2.1
  refine ⟨fun h4 => ?_, fun h4 => ⟨rfl, g1, Or.inr ⟨rfl, ?_⟩⟩⟩
  · have hq : toB p + 32 = N := by omega
    have key : ∀ (m j : Nat) (iv3 : IVt), j + m = 4 → Off [72] iv2 iv3 → CS iv3 fr N (toB p + 8 * j) 0 → L_X10_readCheck_24 Y X (fun r iv' av' => av' = av2 ∧ Off [72] iv iv' ∧ ((r = 1 ∧ unpC (BB (av2 13) fr N) N (some (p, o)) = some o) ∨ (r = 0 ∧ unpC (BB (av2 13) fr N) N (some (p, o)) = none))) (bm32 (ckq (BB (av2 13) fr N) (toB p) j)) j iv3 av2 := by
      intro m
      induction m with
      | zero =>
        intro j iv3 a1 a2 a3
        have : j = 4 := by omega
        subst this
        refine w_X10_readCheck_24 C (bm32_in _) (by omega) ⟨fun _ => OkN.mono (s_X2_count bk_16) ?_, fun h => absurd h (by omega)⟩
        rintro r iv4 av4 hR4 ⟨rfl, rfl, rfl⟩ hr4
        have f4 : Off [72] iv iv4 := g1.tr a2
        have u := hU.of (f4 16 (by decide)) (f4 58 (by decide)) (rfl : av4 17 = av4 17)
        have ub := u.bd
        rw [u.1] at ub ⊢
        have hco := s_X11_checkOf (Y := Y) (e := e + 1) (iv := iv4) (av := av4) bk_16 (f := 0) (n := o.1) (by rw [u.1]; omega) (by rw [u.1]; show _ ≤ ((65536 : Nat) : Int); omega)
        refine OkN.mono hco ?_
        rintro r iv5 av5 hR5 ⟨rfl, rfl, rfl⟩ hr5
        have ead : adl (fun j => av5 (16 + 1) (0 + j)) o.1 = adl o.2 o.1 := adl_eq _ fun j hj => by
          rw [Nat.zero_add]
          exact u.2.2.2.2.2.2 j hj
        rw [ead]
        have ha := adl_in o.2 o.1
        have hk := ckq_in hB (toB p)
        have espec : unpC (BB (av5 13) fr N) N (some (p, o)) = if toB p + 32 = N ∧ chk4 (BB (av5 13) fr N) (toB p) = 65536 * (adl o.2 o.1).2 + (adl o.2 o.1).1 then some o else none := rfl
        rw [← ckq_4] at espec
        refine ⟨fun hne => ⟨rfl, f4, Or.inr ⟨rfl, ?_⟩⟩, fun heq => ⟨rfl, f4, Or.inl ⟨rfl, ?_⟩⟩⟩
        · rw [espec, if_neg]
          rintro ⟨_, hh⟩
          rw [hh] at hne
          exact hne rfl
        · rw [espec, if_pos ⟨hq, bm32_inj hk.1 hk.2 (by omega) (by omega) heq⟩]
      | succ m ih =>
        intro j iv3 a1 a2 a3
        have f3 : Off [72] iv iv3 := g1.tr a2
        refine w_X10_readCheck_24 C (bm32_in _) (by omega) ⟨fun h => absurd h (by omega), fun _ => OkN.mono (s_X1_bitsK 8 rfl a3 (by decide) (by rw [f3 12 (by decide)]; exact hr)) ?_⟩
        rintro r iv4 av4 hR4 ⟨rfl, b1, rfl, b2⟩ hr4
        rw [show min (toB p + 8 * j + 8) N = toB p + 8 * (j + 1) by omega, if_pos (by omega)] at b2
        have hnv := nv_in hB (toB p + 8 * j) 8
        have eor := g_or_bm (c := bm32 (ckq (BB (av4 13) fr N) (toB p) j)) (a := nv (BB (av4 13) fr N) (toB p + 8 * j) 8) (p := 8) (by omega) hnv.1 hnv.2
        rw [show (2 : Int) ^ 8 = 256 from rfl, bm32_256] at eor
        rw [eor, show (j : Int) + 1 = ((j + 1 : Nat) : Int) by omega]
        exact ih (j + 1) iv4 (by omega) (a2.tr b1) b2
    exact key 4 0 iv2 (by omega) (Off.rf _ _) g2
  · show (if _ then _ else _) = _
    rw [if_neg]
    rintro ⟨hh, _⟩
    omega
theorem and32 {y : Int} (h0 : 0 ≤ y) (h1 : y < 256) : g_and y 32 = 0 ↔ ¬ y / 32 % 2 = 1 := by
  have : ∀ y : Nat, y < 256 → (g_and y 32 = 0 ↔ ¬ (y : Int) / 32 % 2 = 1) := by decide +kernel
  have h := this y.toNat (by omega)
  rwa [show ((y.toNat : Nat) : Int) = y by omega] at h
/-- a packed row's first two bytes -/
def begC (b : Nat → Int) (N : Nat) : Prop := N < 16 ∨ (256 * nv b 0 8 + nv b 8 8) % 31 ≠ 0 ∨ nv b 0 8 % 16 ≠ 8 ∨ 7 < nv b 0 8 / 16 ∨ nv b 8 8 / 32 % 2 = 1
theorem s_X10_readBeginning (h : CS iv fr N 0 0) (hr : fr + N / 8 ≤ iv 12 1) : OkN Y (e + 3) mX10_readBeginning [.ref (gl_b Y + 58)] RV iv av 116
    (fun r iv' av' => av' = av ∧ Off [58, 72] iv iv' ∧ iv' 58 8 = iv 58 8 ∧ ((r = 1 ∧ ¬ begC (BB (av 13) fr N) N ∧ CS iv' fr N 16 0 ∧ iv' 58 9 = ((256 * 2 ^ (nn (BB (av 13) fr N) 0 8 / 16) : Nat) : Int)) ∨ (r = 0 ∧ begC (BB (av 13) fr N) N))) := by
  have hB := BB_bit (av 13) fr N
  refine o_X10_readBeginning (OkN.mono (s_X1_bitsK 8 rfl h (by decide) hr) ?_)
  rintro r iv1 av1 hR1 ⟨rfl, g1, rfl, g2⟩ hr1
  refine OkN.mono (s_X1_bitsK 8 rfl g2 (by decide) (by rw [g1 12 (by decide)]; exact hr)) ?_
  rintro r iv2 av2 hR2 ⟨rfl, g3, rfl, g4⟩ hr2
  have f2 : Off [72] iv iv2 := g1.tr g3
  have n1 := nn_eq hB 0 8
  have l1 : nn (BB (av2 13) fr N) 0 8 < 256 := nn_lt hB 0 8
  have hx := nv_in hB 0 8
  have e256 : (2 : Int) ^ 8 = 256 := rfl
  have edv : (nv (BB (av2 13) fr N) 0 8 / 16).toNat = nn (BB (av2 13) fr N) 0 8 / 16 := by omega
  have hpw : (2 : Int) ^ (nn (BB (av2 13) fr N) 0 8 / 16) ≤ 2 ^ 15 := pwL (by omega)
  have hpw0 := pw0 (nn (BB (av2 13) fr N) 0 8 / 16)
  have e15 : (2 : Int) ^ 15 = 32768 := rfl
  rw [show (0 : Nat) + 8 = 8 from rfl] at g2 g4 ⊢
  rw [edv]
  refine ⟨by omega, by omega, ?_⟩
  have f3 : Off [58, 72] iv (up2 iv2 58 9 (256 * 2 ^ (nn (BB (av2 13) fr N) 0 8 / 16))) := (f2.mono (by decide)).up (by decide)
  have e8 : up2 iv2 58 9 (256 * 2 ^ (nn (BB (av2 13) fr N) 0 8 / 16)) 58 8 = iv 58 8 := by
    rw [up2_nj (by decide), f2 58 (by decide)]
  have g5 := g4.of (iv' := up2 iv2 58 9 (256 * 2 ^ (nn (BB (av2 13) fr N) 0 8 / 16))) (up2_ne (by decide))
  refine OkN.mono (s_X1_isMissing g5) ?_
  rintro r iv3 av3 hR3 ⟨rfl, rfl, rfl⟩ hr3
  by_cases hN : 16 ≤ N
  · rw [if_pos (show 8 ≤ N by omega), show min 8 N = 8 by omega, show min (8 + 8) N = 16 by omega, if_pos (show 8 + 8 ≤ N by omega)] at g5
    rw [if_pos (show 8 ≤ N by omega), show min 8 N = 8 by omega, if_pos (show 8 + 8 ≤ N by omega)]
    have hy := nv_in hB 8 8
    have key : ∀ hbad : begC (BB (av3 13) fr N) N, av3 = av3 ∧ Off [58, 72] iv (up2 iv2 58 9 (256 * 2 ^ (nn (BB (av3 13) fr N) 0 8 / 16))) ∧ up2 iv2 58 9 (256 * 2 ^ (nn (BB (av3 13) fr N) 0 8 / 16)) 58 8 = iv 58 8 ∧ (((0 : Int) = 1 ∧ ¬ begC (BB (av3 13) fr N) N ∧ CS (up2 iv2 58 9 (256 * 2 ^ (nn (BB (av3 13) fr N) 0 8 / 16))) fr N 16 0 ∧ (up2 iv2 58 9 (256 * 2 ^ (nn (BB (av3 13) fr N) 0 8 / 16))) 58 9 = ((256 * 2 ^ (nn (BB (av3 13) fr N) 0 8 / 16) : Nat) : Int)) ∨ ((0 : Int) = 0 ∧ begC (BB (av3 13) fr N) N)) := fun hbad => ⟨rfl, f3, e8, Or.inr ⟨rfl, hbad⟩⟩
    refine ⟨fun h => absurd rfl h, fun _ => ⟨by omega, by omega, fun h1 => key (Or.inr (Or.inl h1)), fun h1 => ⟨fun h2 => key (Or.inr (Or.inr (Or.inl h2))), fun h2 => ⟨fun h3 => key (Or.inr (Or.inr (Or.inr (Or.inl h3)))), fun h3 => ⟨fun h4 => key (Or.inr (Or.inr (Or.inr (Or.inr ?_)))), fun h4 => ⟨rfl, f3, e8, Or.inl ⟨rfl, ?_, g5, ?_⟩⟩⟩⟩⟩⟩⟩
    · have := and32 hy.1 hy.2
      by_cases h5 : nv (BB (av3 13) fr N) 8 8 / 32 % 2 = 1
      · exact h5
      · exact absurd (this.mpr h5) h4
    · have := (and32 hy.1 hy.2).mp h4
      unfold begC
      omega
    · rw [up2_eq]
      simp
  · have hms5 : ¬ (if min 8 N + 8 ≤ N then (if 8 ≤ N then (0 : Int) else 1) else 1) = 0 := by
      rw [if_neg (by omega)]
      decide
    exact ⟨fun _ => ⟨rfl, f3, e8, Or.inr ⟨rfl, Or.inl (by omega)⟩⟩, fun h => absurd h hms5⟩
theorem s_X10_makeFixed : OkN Y (e + 3) mX10_makeFixed [.ref (gl_b Y + 58)] RV iv av 116
    (fun r iv' av' => r = 1 ∧ iv' = iv ∧ Off [60, 61, 62, 64, 65, 66, 71] av av' ∧ RC av' 59 fxL 288 ∧ RC av' 63 (fun _ => 5) 32) := by
  refine o_X10_makeFixed fun X C => ?_
  have key : ∀ (m s : Nat) (av1 : IVt), s + m = 320 → Off [71] av av1 → (∀ j : Nat, j < s → av1 71 j = if j < 288 then fxL j else 5) → L_X10_makeFixed_2 Y X (fun r iv' av' => r = 1 ∧ iv' = iv ∧ Off [60, 61, 62, 64, 65, 66, 71] av av' ∧ RC av' 59 fxL 288 ∧ RC av' 63 (fun _ => 5) 32) s iv av1 := by
    intro m
    induction m with
    | zero =>
      intro s av1 h1 h2 h3
      have hs : s = 320 := by omega
      subst hs
      have hf : ∀ s : Nat, s < 288 → 0 ≤ fxL s ∧ fxL s ≤ 15 := fun s _ => by
        unfold fxL
        split
        · omega
        · split
          · omega
          · split <;> omega
      have hl1 : Len av1 71 0 288 fxL := ⟨by decide, by omega, fun s hs => ⟨by rw [Nat.zero_add, h3 s (by omega), if_pos hs], hf s hs⟩⟩
      refine w_X10_makeFixed_2 C (by omega) ⟨fun _ => OkN.mono (s_X9_make rk_59 ak_71 (by decide) (by decide) (by decide) (by omega) hl1) ?_, fun h => absurd h (by omega)⟩
      rintro r iv2 av2 hR2 ⟨rfl, g1, g2, g3⟩ hr2
      have hl2 : Len av2 71 288 32 (fun _ => 5) := ⟨by decide, by omega, fun s hs => ⟨by rw [g2 71 (by decide), h3 (288 + s) (by omega), if_neg (by omega)], by show (0 : Int) ≤ 5; decide, by show (5 : Int) ≤ 15; decide⟩⟩
      refine ⟨fun h0 => absurd okF_S ?_, fun _ => OkN.mono (s_X9_make rk_63 ak_71 (by decide) (by decide) (by decide) (by omega) hl2) ?_⟩
      · rcases g1 with ⟨_, g1⟩ | ⟨g1, _⟩
        · intro h
          exact g1 (Or.inl (by rcases h with h | h | h; exact h; exact absurd h.1 (by decide +kernel); exact absurd h.2 id))
        · omega
      rintro r iv3 av3 hR3 ⟨rfl, g4, g5, g6⟩ hr3
      refine ⟨fun h0 => absurd okF_D ?_, fun _ => ⟨rfl, rfl, ((h2.mono (by decide)).tr (g2.mono (by decide))).tr (g5.mono (by decide)), g3.of (g5 60 (by decide)) (g5 61 (by decide)), g6⟩⟩
      rcases g4 with ⟨_, g4⟩ | ⟨g4, _⟩
      · intro h
        exact g4 (Or.inl (by rcases h with h | h | h; exact h; exact absurd h.1 (by decide +kernel); exact absurd h.2 id))
      · omega
    | succ m ih =>
      intro s av1 h1 h2 h3
      refine w_X10_makeFixed_2 C (by omega) ⟨fun h => absurd h (by omega), fun _ => ⟨fun h288 => ⟨by omega, ?_⟩, fun h288 => OkN.mono (s_X11_fixedLength (by omega)) ?_⟩⟩
      · rw [show (s : Int) + 1 = ((s + 1 : Nat) : Int) by omega]
        refine ih (s + 1) _ (by omega) (h2.up (by decide)) fun j hj => ?_
        rw [up2_at]
        by_cases hjs : j = (s : Int).toNat
        · rw [if_pos hjs, if_neg (by omega)]
        · rw [if_neg hjs]
          exact h3 j (by omega)
      · rintro r iv2 av2 hR2 ⟨rfl, rfl, rfl⟩ hr2
        refine ⟨by omega, ?_⟩
        rw [show (s : Int) + 1 = ((s + 1 : Nat) : Int) by omega]
        refine ih (s + 1) _ (by omega) (h2.up (by decide)) fun j hj => ?_
        rw [up2_at]
        by_cases hjs : j = (s : Int).toNat
        · rw [if_pos hjs, if_pos (by omega), show j = s by omega]
        · rw [if_neg hjs]
          exact h3 j (by omega)
  exact key 320 0 av (by omega) (Off.rf _ _) fun j hj => absurd hj (Nat.not_lt_zero _)
end SUnpack2
