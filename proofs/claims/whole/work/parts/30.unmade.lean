/-! The class' unpacking: made parts, and all of it. -/
section SUnmade
variable {Y : Gl} {X : Cx} {e : Nat} {iv av : IVt} {fr N p most win : Nat} {ms : Int} {o : Outp}
theorem zs_in {b : Nat → Int} (hb : Bit b) (p c s : Nat) : 0 ≤ zs b p c s ∧ zs b p c s ≤ 7 := by
  unfold zs
  split
  · have := nv_in hb (p + 3 * oinv s) 3
    have e : (2 : Int) ^ 3 = 8 := rfl
    omega
  · omega
theorem US.of2 {iv' av' : IVt} (h : US iv av most win o) (e1 : iv' 16 = iv 16) (e2 : iv' 58 8 = iv 58 8) (e3 : iv' 58 9 = iv 58 9) (e4 : av' 17 = av 17) : US iv' av' most win o := by
  unfold US at *
  rw [e1, e2, e3, e4]
  exact h
/-- the head of a made part is no fault -/
def headC (b : Nat → Int) (N p : Nat) : Prop := N < p + 14 + 3 * (nn b (p + 10) 4 + 4) ∨ 286 < nn b p 5 + 257 ∨ 30 < nn b (p + 5) 5 + 1 ∨ ¬ okC (zs b (p + 14) (nn b (p + 10) 4 + 4)) 19 False
theorem okC_q {f : Nat → Int} {n : Nat} {q q' : Prop} (h : q ↔ q') : okC f n q ↔ okC f n q' := by unfold okC; rw [h]
theorem s_X10_readSizes (h : CS iv fr N p 0) (hr : fr + N / 8 ≤ iv 12 1) (hU : US iv av most win o) : OkN Y (e + 3) mX10_readSizes [.ref (gl_b Y + 58)] RV iv av 116
    (fun r iv' av' => Off [58, 72] iv iv' ∧ Off [68, 69, 70, 71] av av' ∧ US iv' av' most win o ∧ (∃ p' ms', CS iv' fr N p' ms') ∧
      ((r = 0 ∧ headC (BB (av 13) fr N) N p) ∨ (r = 1 ∧ ¬ headC (BB (av 13) fr N) N p ∧ CS iv' fr N (p + 14 + 3 * (nn (BB (av 13) fr N) (p + 10) 4 + 4)) 0 ∧
        iv' 58 6 = ((nn (BB (av 13) fr N) p 5 + 257 : Nat) : Int) ∧ iv' 58 7 = ((nn (BB (av 13) fr N) (p + 5) 5 + 1 : Nat) : Int) ∧ RC av' 67 (zs (BB (av 13) fr N) (p + 14) (nn (BB (av 13) fr N) (p + 10) 4 + 4)) 19))) := by
  have hB := BB_bit (av 13) fr N
  have hp := h.2.2.2.2.1
  refine o_X10_readSizes fun X C => OkN.mono (s_X1_bitsK 5 rfl h (by decide) hr) ?_
  rintro r iv1 av1 hR1 ⟨rfl, g1, rfl, g2⟩ hr1
  have n1 := nn_eq hB p 5
  have l1 : nn (BB (av1 13) fr N) p 5 < 32 := nn_lt hB p 5
  rw [n1]
  refine ⟨by omega, ?_⟩
  have g3 := g2.of (iv' := up2 iv1 58 6 (((nn (BB (av1 13) fr N) p 5 : Nat) : Int) + 257)) (up2_ne (by decide))
  have f3 : Off [58, 72] iv (up2 iv1 58 6 (((nn (BB (av1 13) fr N) p 5 : Nat) : Int) + 257)) := (g1.mono (by decide)).up (by decide)
  refine OkN.mono (s_X1_bitsK 5 rfl g3 (by decide) (by rw [f3 12 (by decide)]; exact hr)) ?_
  rintro r iv2 av2 hR2 ⟨rfl, g4, rfl, g5⟩ hr2
  generalize hp1 : min (p + 5) N = p1 at *
  have hb5 : nv (BB (av2 13) fr N) p1 5 = ((nn (BB (av2 13) fr N) p1 5 : Nat) : Int) := nn_eq hB p1 5
  have l2 : nn (BB (av2 13) fr N) p1 5 < 32 := nn_lt hB p1 5
  rw [hb5]
  refine ⟨by omega, ?_⟩
  have g6 := g5.of (iv' := up2 iv2 58 7 (((nn (BB (av2 13) fr N) p1 5 : Nat) : Int) + 1)) (up2_ne (by decide))
  have f6 : Off [58, 72] iv (up2 iv2 58 7 (((nn (BB (av2 13) fr N) p1 5 : Nat) : Int) + 1)) := (f3.tr (g4.mono (by decide))).up (by decide)
  refine OkN.mono (s_X1_bitsK 4 rfl g6 (by decide) (by rw [f6 12 (by decide)]; exact hr)) ?_
  rintro r iv3 av3 hR3 ⟨rfl, g7, rfl, g8⟩ hr3
  generalize hp2 : min (p1 + 5) N = p2 at *
  have hb4 : nv (BB (av3 13) fr N) p2 4 = ((nn (BB (av3 13) fr N) p2 4 : Nat) : Int) := nn_eq hB p2 4
  have l3 : nn (BB (av3 13) fr N) p2 4 < 16 := nn_lt hB p2 4
  rw [hb4]
  have f7 : Off [58, 72] iv iv3 := f6.tr (g7.mono (by decide))
  have e58 : iv3 58 = up2 iv2 58 7 (((nn (BB (av3 13) fr N) p1 5 : Nat) : Int) + 1) 58 := g7 58 (by decide)
  have e58' : iv2 58 = up2 iv1 58 6 (((nn (BB (av3 13) fr N) p 5 : Nat) : Int) + 257) 58 := g4 58 (by decide)
  have e7 : iv3 58 7 = ((nn (BB (av3 13) fr N) p1 5 : Nat) : Int) + 1 := by rw [e58, up2_eq]
  have e6 : iv3 58 6 = ((nn (BB (av3 13) fr N) p 5 : Nat) : Int) + 257 := by rw [e58, up2_nj (by decide), e58', up2_eq]
  have e8 : iv3 58 8 = iv 58 8 := by rw [e58, up2_nj (by decide), e58', up2_nj (by decide), g1 58 (by decide)]
  have e9 : iv3 58 9 = iv 58 9 := by rw [e58, up2_nj (by decide), e58', up2_nj (by decide), g1 58 (by decide)]
  have u3 : US iv3 av3 most win o := hU.of2 (f7 16 (by decide)) e8 e9 rfl
  generalize hc : nn (BB (av3 13) fr N) p2 4 + 4 = c at *
  have hc19 : c ≤ 19 := by omega
  -- where the loop stands
  have key : ∀ (m i : Nat) (iv4 av4 : IVt), i + m = 19 → Off [72] iv3 iv4 → Off [68, 69, 70, 71] av3 av4 → CS iv4 fr N (min (p2 + 4 + 3 * min i c) N) (if p + 14 + 3 * min i c ≤ N then 0 else 1) → (∀ s, s < 19 → oinv s < i → av4 71 s = zs (BB (av3 13) fr N) (p2 + 4) c s) → 
      L_X10_readSizes_43 Y X (fun r iv' av' => Off [58, 72] iv iv' ∧ Off [68, 69, 70, 71] av3 av' ∧ US iv' av' most win o ∧ (∃ p' ms', CS iv' fr N p' ms') ∧
      ((r = 0 ∧ headC (BB (av3 13) fr N) N p) ∨ (r = 1 ∧ ¬ headC (BB (av3 13) fr N) N p ∧ CS iv' fr N (p + 14 + 3 * (nn (BB (av3 13) fr N) (p + 10) 4 + 4)) 0 ∧
        iv' 58 6 = ((nn (BB (av3 13) fr N) p 5 + 257 : Nat) : Int) ∧ iv' 58 7 = ((nn (BB (av3 13) fr N) (p + 5) 5 + 1 : Nat) : Int) ∧ RC av' 67 (zs (BB (av3 13) fr N) (p + 14) (nn (BB (av3 13) fr N) (p + 10) 4 + 4)) 19))) c i iv4 av4 := by
    intro m
    induction m with
    | zero =>
      intro i iv4 av4 a1 a2 a3 a4 a5
      have hi : i = 19 := by omega
      subst hi
      rw [show min 19 c = c by omega] at a4
      have f8 : Off [58, 72] iv iv4 := f7.tr (a2.mono (by decide))
      have u4 : US iv4 av4 most win o := u3.of (a2 16 (by decide)) (a2 58 (by decide)) (a3 17 (by decide))
      refine w_X10_readSizes_43 C (by omega) (by omega) ⟨fun _ => OkN.mono (s_X1_isMissing a4) ?_, fun h => absurd h (by omega)⟩
      rintro r iv5 av5 hR5 ⟨rfl, rfl, rfl⟩ hr5
      have a4' := a4
      by_cases hN : p + 14 + 3 * c ≤ N
      · have q1 : p1 = p + 5 := by omega
        have q2 : p2 = p + 10 := by omega
        subst q1 q2
        rw [if_pos hN, show min (p + 10 + 4 + 3 * c) N = p + 14 + 3 * c by omega] at a4
        rw [if_pos hN]
        have fault : headC (BB (av3 13) fr N) N p → Off [58, 72] iv iv5 ∧ Off [68, 69, 70, 71] av3 av5 ∧ US iv5 av5 most win o ∧ (∃ p' ms', CS iv5 fr N p' ms') ∧
      (((0 : Int) = 0 ∧ headC (BB (av3 13) fr N) N p) ∨ ((0 : Int) = 1 ∧ ¬ headC (BB (av3 13) fr N) N p ∧ CS iv5 fr N (p + 14 + 3 * (nn (BB (av3 13) fr N) (p + 10) 4 + 4)) 0 ∧
        iv5 58 6 = ((nn (BB (av3 13) fr N) p 5 + 257 : Nat) : Int) ∧ iv5 58 7 = ((nn (BB (av3 13) fr N) (p + 5) 5 + 1 : Nat) : Int) ∧ RC av5 67 (zs (BB (av3 13) fr N) (p + 14) (nn (BB (av3 13) fr N) (p + 10) 4 + 4)) 19)) := fun hd => ⟨f8, a3, u4, ⟨_, _, a4⟩, Or.inl ⟨rfl, hd⟩⟩
        have e6' : iv5 58 6 = ((nn (BB (av3 13) fr N) p 5 : Nat) : Int) + 257 := by rw [a2 58 (by decide)]; exact e6
        have e7' : iv5 58 7 = ((nn (BB (av3 13) fr N) (p + 5) 5 : Nat) : Int) + 1 := by rw [a2 58 (by decide)]; exact e7
        refine ⟨fun h => absurd rfl h, fun _ _ => ⟨fun h => w_X10_readSizes_151 C (fault (Or.inr (Or.inl (by omega)))), fun h1 _ => ⟨fun h => w_X10_readSizes_151 C (fault (Or.inr (Or.inr (Or.inl (by omega))))), fun h2 => ?_⟩⟩⟩
        have hl : Len av5 71 0 19 (zs (BB (av3 13) fr N) (p + 10 + 4) c) := ⟨by decide, by omega, fun s hs => by
          have h1 := a5 s hs (ord_inv hs).1
          have h2 := zs_in hB (p + 10 + 4) c s
          rw [Nat.zero_add]
          exact ⟨h1, h2.1, by omega⟩⟩
        refine OkN.mono (s_X9_make rk_67 ak_71 (by decide) (by decide) (by decide) (by omega) hl) ?_
        rintro r iv6 av6 hR6 ⟨rfl, b1, b2, b3⟩ hr6
        have b1' : (r = 0 ∧ ¬ okC (zs (BB (av3 13) fr N) (p + 14) (nn (BB (av3 13) fr N) (p + 10) 4 + 4)) 19 False) ∨ (r = 1 ∧ okC (zs (BB (av3 13) fr N) (p + 14) (nn (BB (av3 13) fr N) (p + 10) 4 + 4)) 19 False) := by
          rw [hc]
          have : ((0 : Int) ≠ 0) ↔ False := ⟨fun h => h rfl, fun h => h.elim⟩
          rw [okC_q this] at b1
          exact b1
        have fa : Off [68, 69, 70, 71] av3 av6 := a3.tr (b2.mono (by decide))
        have u6 : US iv6 av6 most win o := u4.of rfl rfl (b2 17 (by decide))
        rcases b1' with ⟨rfl, b1'⟩ | ⟨rfl, b1'⟩
        · exact ⟨fun _ => w_X10_readSizes_151 C ⟨f8, fa, u6, ⟨_, _, a4⟩, Or.inl ⟨rfl, Or.inr (Or.inr (Or.inr b1'))⟩⟩, fun h => absurd rfl h⟩
        · refine ⟨fun h => absurd h (by decide), fun _ => ⟨f8, fa, u6, ⟨_, _, a4⟩, Or.inr ⟨rfl, ?_, ?_, by omega, by omega, ?_⟩⟩⟩
          · rintro (g | g | g | g)
            · omega
            · omega
            · omega
            · exact g b1'
          · rw [hc]; exact a4
          · rw [hc]; exact b3
      · rw [if_neg hN]
        refine ⟨fun _ => w_X10_readSizes_151 C ⟨f8, a3, u4, ⟨_, _, a4'⟩, Or.inl ⟨rfl, Or.inl ?_⟩⟩, fun h => absurd h (by decide)⟩
        by_cases q : p + 10 ≤ N
        · have q1 : p1 = p + 5 := by omega
          have q2 : p2 = p + 10 := by omega
          subst q1 q2
          omega
        · omega
    | succ m ih =>
      intro i iv4 av4 a1 a2 a3 a4 a5
      have hio := inv_ord (show i < 19 by omega)
      refine w_X10_readSizes_43 C (by omega) (by omega) ⟨fun h => absurd h (by omega), fun _ => OkN.mono (s_X11_ordered (by omega)) ?_⟩
      rintro r iv5 av5 hR5 ⟨rfl, rfl, rfl⟩ hr5
      refine ⟨fun hci => ?_, fun hci => OkN.mono (s_X1_bitsK 3 rfl a4 (by decide) (by rw [a2 12 (by decide), f7 12 (by decide)]; exact hr)) ?_⟩
      · refine w_X10_readSizes_73 C (by omega) (by omega) ⟨fun h => absurd h (by omega), fun _ => ⟨fun h => absurd h (by omega), fun _ => ⟨by omega, w_X10_readSizes_94 C ?_⟩⟩⟩
        rw [show (i : Int) + 1 = ((i + 1 : Nat) : Int) by omega]
        refine ih (i + 1) _ _ (by omega) a2 (a3.up (by decide)) (by rw [show min (i + 1) c = min i c by omega]; exact a4) fun s hs hsi => ?_
        rw [up2_at]
        by_cases hso : s = ((ordN i : Nat) : Int).toNat
        · rw [if_pos hso]
          have : s = ordN i := by omega
          subst this
          unfold zs
          rw [hio.2.1, if_neg (by omega)]
        · rw [if_neg hso]
          refine a5 s hs ?_
          by_cases hh : oinv s = i
          · have := (ord_inv hs).2
            rw [hh] at this
            omega
          · omega
      · rintro r iv6 av6 hR6 ⟨rfl, b1, rfl, b2⟩ hr6
        refine w_X10_readSizes_73 C (by omega) (by omega) ⟨fun h => absurd h (by omega), fun _ => ⟨fun h => absurd h (by omega), fun _ => ⟨by omega, w_X10_readSizes_94 C ?_⟩⟩⟩
        rw [show (i : Int) + 1 = ((i + 1 : Nat) : Int) by omega]
        have hmi : min i c = i := by omega
        have hmi1 : min (i + 1) c = i + 1 := by omega
        rw [hmi] at a4 b2 ⊢
        refine ih (i + 1) _ _ (by omega) (a2.tr b1) (a3.up (by decide)) ?_ fun s hs hsi => ?_
        · rw [hmi1]
          have z1 : min (min (p2 + 4 + 3 * i) N + 3) N = min (p2 + 4 + 3 * (i + 1)) N := by omega
          have z2 : (if min (p2 + 4 + 3 * i) N + 3 ≤ N then (if p + 14 + 3 * i ≤ N then (0 : Int) else 1) else 1) = (if p + 14 + 3 * (i + 1) ≤ N then 0 else 1) := by
            by_cases hh : p + 14 + 3 * (i + 1) ≤ N
            · rw [if_pos hh, if_pos (by omega), if_pos (by omega)]
            · rw [if_neg hh]
              split
              · split
                · omega
                · rfl
              · rfl
          rw [z1, z2] at b2
          exact b2
        · rw [up2_at]
          by_cases hso : s = ((ordN i : Nat) : Int).toNat
          · rw [if_pos hso]
            have : s = ordN i := by omega
            subst this
            unfold zs
            rw [hio.2.1, if_pos (by omega), a3 13 (by decide)]
            by_cases hh : p2 + 4 + 3 * i ≤ N
            · rw [show min (p2 + 4 + 3 * i) N = p2 + 4 + 3 * i by omega]
            · have hz : ∀ q, N ≤ q → nv (BB (av3 13) fr N) q 3 = 0 := fun q hq => by
                show 0 + BB (av3 13) fr N (q + 0) * 2 ^ 0 + BB (av3 13) fr N (q + 1) * 2 ^ 1 + BB (av3 13) fr N (q + 2) * 2 ^ 2 = 0
                rw [BB_out (by omega), BB_out (by omega), BB_out (by omega)]
                rfl
              rw [hz _ (by omega), hz _ (by omega)]
          · rw [if_neg hso]
            have hold := a5 s hs
            refine hold ?_
            by_cases hh : oinv s = i
            · have := (ord_inv hs).2
              rw [hh] at this
              omega
            · omega
  have := key 19 0 iv3 av3 (by omega) (Off.rf _ _) (Off.rf _ _) ?_ (fun s _ h => absurd h (by omega))
  · rw [← hc] at this
    rw [show ((nn (BB (av3 13) fr N) p2 4 : Nat) : Int) + 4 = ((nn (BB (av3 13) fr N) p2 4 + 4 : Nat) : Int) by omega]
    exact this
  · have z1 : min (p2 + 4) N = min (p2 + 4 + 3 * min 0 c) N := by omega
    have z2 : (if p2 + 4 ≤ N then (if p1 + 5 ≤ N then (if p + 5 ≤ N then (0 : Int) else 1) else 1) else 1) = (if p + 14 + 3 * min 0 c ≤ N then 0 else 1) := by
      by_cases hh : p + 14 ≤ N
      · rw [if_pos (by omega), if_pos (by omega), if_pos (by omega), if_pos (by omega)]
      · rw [if_neg (show ¬ p + 14 + 3 * min 0 c ≤ N by omega)]
        split
        · split
          · split
            · omega
            · rfl
          · rfl
        · rfl
    rw [z1, z2] at g8
    exact g8
end SUnmade
