/-! What holds of both sides between two calls; the calls that need no more than that. -/
/-- both tapes -/
def InvT (iv av : IVt) : Prop := iv 73 0 = iv 10 1 ∧ 0 ≤ iv 10 1 ∧ iv 10 1 ≤ 1024 ∧ ∀ j : Nat, j < iv 10 1 → av 74 j = av 11 j
/-- both packed rows -/
def InvR (iv av : IVt) : Prop := iv 73 23 = iv 12 1 ∧ 0 ≤ iv 12 1 ∧ iv 12 1 ≤ 131072 ∧ ∀ j : Nat, j < iv 12 1 → av 89 j = av 13 j
/-- both stretches that were read -/
def InvO (iv av : IVt) : Prop := iv 73 25 = iv 20 1 ∧ 0 ≤ iv 20 1 ∧ iv 20 1 ≤ 4096 ∧ ∀ j : Nat, j < iv 20 1 → av 90 j = av 21 j
def InvK (iv : IVt) : Prop := iv 73 28 = iv 0 10
/-- bytes of a block -/
def bkS (iv : IVt) : Int := 2 ^ (iv 5 4).toNat
/-- bytes of block k of a file of n bytes -/
def due (iv : IVt) (n k : Int) : Int := min (bkS iv) (n - k * bkS iv)
/-- what was put of file f -/
def LF (iv av : IVt) (f : Nat) : Prop := (av 78 f = av 6 (8 * f + 1) ∧ av 79 f = av 6 (8 * f + 2) ∧ av 81 f = av 6 (8 * f + 3) ∧ av 82 f = av 6 (8 * f + 4) ∧ av 83 f = av 6 (8 * f + 5) ∧ av 84 f = av 6 (8 * f + 6) ∧ av 80 f = av 6 (8 * f + 7)) ∧
  (0 ≤ av 6 (8 * f + 1) ∧ av 6 (8 * f + 1) ≤ 65536 ∧ 0 ≤ av 6 (8 * f + 2) ∧ av 6 (8 * f + 2) ≤ 131072 ∧ 0 ≤ av 6 (8 * f + 3) ∧ 0 ≤ av 6 (8 * f + 7) ∧ av 6 (8 * f + 7) + av 6 (8 * f + 3) ≤ iv 5 5 ∧ 0 ≤ av 6 (8 * f + 5)) ∧
  ((av 6 (8 * f + 4) = -2 ∧ av 6 (8 * f + 3) = (av 6 (8 * f + 1) + bkS iv - 1) / bkS iv) ∨
   (0 ≤ av 6 (8 * f + 4) ∧ av 6 (8 * f + 4) ≤ iv 5 6 ∧ av 6 (8 * f + 3) = av 6 (8 * f + 1) / bkS iv ∧ 0 < av 6 (8 * f + 1) % bkS iv ∧ av 6 (8 * f + 5) + av 6 (8 * f + 1) % bkS iv ≤ bkS iv ∧
     (av 6 (8 * f + 4) = iv 5 6 → av 6 (8 * f + 5) + av 6 (8 * f + 1) % bkS iv ≤ iv 14 1) ∧
     (av 6 (8 * f + 4) < iv 5 6 → 16777216 ≤ av 9 (av 6 (8 * f + 4)).toNat → av 6 (8 * f + 5) + av 6 (8 * f + 1) % bkS iv ≤ av 9 (av 6 (8 * f + 4)).toNat - 16777216))) ∧
  ∀ k : Nat, k < av 6 (8 * f + 3) → 16777216 ≤ av 7 ((av 6 (8 * f + 7)).toNat + k) → av 7 ((av 6 (8 * f + 7)).toNat + k) - 16777216 = due iv (av 6 (8 * f + 1)) k
/-- what was put -/
def InvL0 (iv av : IVt) : Prop := (12 ≤ iv 5 4 ∧ iv 5 4 ≤ 16 ∧ iv 73 6 = bkS iv) ∧ (iv 73 16 = iv 5 5 ∧ 0 ≤ iv 5 5 ∧ iv 5 5 ≤ 80) ∧ (iv 73 18 = iv 5 6 ∧ 0 ≤ iv 5 6 ∧ iv 5 6 ≤ 64) ∧
  (∀ j : Nat, j < iv 5 5 → av 85 j = av 7 j ∧ 0 ≤ av 7 j ∧ av 7 j ≤ 16842752) ∧
  (∀ j : Nat, j < iv 5 6 → av 86 j = av 8 j ∧ av 87 j = av 9 j ∧ 0 ≤ av 8 j ∧ av 8 j ≤ 131072 ∧ 0 < av 9 j ∧ av 9 j ≤ 16842752)
def InvL (iv av : IVt) : Prop := InvL0 iv av ∧ ∀ f : Nat, f < 64 → LF iv av f
/-- the length of a symbol's code in a fixed part -/
def fxL (s : Nat) : Int := if s < 144 then 8 else if s < 256 then 9 else if s < 280 then 7 else 8
/-- the class' packer between two rows -/
def InvP (E : Int) (iv av : IVt) : Prop := (iv 57 1 = 0 ∧ iv 57 2 = 0) ∧ (1 ≤ iv 23 2 ∧ 0 ≤ iv 23 3 ∧ iv 23 3 ≤ iv 23 4 ∧ iv 23 4 ≤ 65536 ∧ iv 23 2 + (iv 23 4 - iv 23 3) ≤ E) ∧ (∀ h : Nat, h < 32768 → 0 ≤ av 24 h ∧ av 24 h < iv 23 2 + (iv 23 4 - iv 23 3)) ∧
  (∀ s : Nat, s < 288 → av 47 s = fxL s ∧ av 48 s = trn (cd (av 47) 288 s) (av 47 s).toNat) ∧ (∀ s : Nat, s < 32 → av 51 s = 5 ∧ av 52 s = trn (cd (av 51) 32 s) (av 51 s).toNat) ∧ ∀ i : Nat, i < 576 → av 32 i = 0
def InvB (iv : IVt) : Prop := iv 14 1 = 0 ∧ iv 73 22 = 0 ∧ (0 ≤ iv 16 1 ∧ iv 16 1 ≤ 65536) ∧ 0 ≤ iv 18 1 ∧ iv 18 1 ≤ 4096
def Inv (c : Nat) (iv av : IVt) : Prop := InvF iv av ∧ InvT iv av ∧ InvR iv av ∧ InvO iv av ∧ InvK iv ∧ InvL iv av ∧ InvP (1 + 65536 * c) iv av ∧ InvB iv
section Pairs
variable {Y : Gl} {X : Cx} {e e' : Nat} {iv av : IVt} {c : Nat}
theorem InvP.mono {E E' : Int} (h : InvP E iv av) (hE : E ≤ E') : InvP E' iv av := by
  obtain ⟨h1, h2, h3⟩ := h
  exact ⟨h1, by omega, h3⟩
theorem InvP.up (h : InvP (1 + 65536 * c) iv av) : InvP (1 + 65536 * (c + 1 : Nat)) iv av := h.mono (by omega)
theorem Inv.up (h : Inv c iv av) : Inv (c + 1) iv av := by
  obtain ⟨hF, hT, hR, hO, hK, hL, hP, hB⟩ := h
  exact ⟨hF, hT, hR, hO, hK, hL, hP.up, hB⟩
/-- behind the class' call comes the reference's, which answers the same -/
def Thn (Y : Gl) (d : Nat) (m : MT) (as : List Value) (c : Nat) : PN := fun r iv av => OkN Y d m as RV iv av 116 (fun r' iv' av' => r' = r ∧ Inv (c + 1) iv' av')
theorem p_feed {x n : Int} (h : Inv c iv av) (hx : InL x) (hn : InR n) : OkN Y (e + 1) mX11_feed [.ref (gl_b Y + 0), .long (i64 x), .int (i32 n)] RV iv av 116 (Thn Y e' mX13_feed [.ref (gl_b Y + 73), .long (i64 x), .int (i32 n)] c) := by
  obtain ⟨hF, hT, hR, hO, hK, hL, hP, hB⟩ := h
  refine OkN.mono (s_X11_feed hn hT.2.1 hT.2.2.1) ?_
  rintro r iv1 av1 hR1 ⟨rfl, (⟨hc, rfl, rfl⟩ | ⟨hc, rfl, rfl⟩)⟩
  · have hT1 := hT.1
    refine OkN.mono (s_X13_feed hx hn (by rw [hT1]; exact hT.2.1) (by rw [hT1]; exact hT.2.2.1)) ?_
    rintro r iv2 av2 hR2 ⟨rfl, (⟨hc2, rfl, rfl⟩ | ⟨hc2, rfl, rfl⟩)⟩
    · exact ⟨by rw [hT1], hF, hT, hR, hO, hK, hL, hP.up, hB⟩
    · omega
  · have hT1 : up2 iv 10 1 (iv 10 1 + n) 73 0 = iv 10 1 := hT.1
    have hT2 := hT.2.1
    have hT3 := hT.2.2.1
    refine OkN.mono (s_X13_feed hx hn (by rw [hT1]; exact hT.2.1) (by rw [hT1]; exact hT.2.2.1)) ?_
    rintro r iv2 av2 hR2 ⟨rfl, (⟨hc2, rfl, rfl⟩ | ⟨hc2, rfl, rfl⟩)⟩
    · omega
    · refine ⟨by rw [hT1], hF, ⟨?_, ?_, ?_, ?_⟩, hR, hO, hK, hL, hP.up, hB⟩
      · show up2 iv 10 1 (iv 10 1 + n) 73 0 + n = up2 iv 10 1 (iv 10 1 + n) 10 1
        rw [hT1, up2_eq]
      · show 0 ≤ up2 iv 10 1 (iv 10 1 + n) 10 1
        rw [up2_eq]
        omega
      · show up2 iv 10 1 (iv 10 1 + n) 10 1 ≤ 1024
        rw [up2_eq]
        omega
      · intro j hj
        have hj' : j < iv 10 1 + n := hj
        show fil (up2 iv 10 1 (iv 10 1 + n) 73 0) n (fun i => bm8 (x / 2 ^ (8 * i))) (av 74) j = fil (iv 10 1) n (fun i => bm8 (x / 2 ^ (8 * i))) (av 11) j
        rw [hT1]
        unfold fil
        by_cases hi : iv 10 1 ≤ j ∧ j < iv 10 1 + n
        · rw [if_pos hi, if_pos hi]
        · rw [if_neg hi, if_neg hi]
          exact hT.2.2.2 j (by omega)
theorem InvF.rf (h : InvF iv av) : RF iv av := by
  have b := h.1.bd (Nat.le_refl 64)
  have b4 := h.1.2.2.2
  have h5 := h.2.1
  refine ⟨by omega, by omega, fun f hf => ?_⟩
  have := h.have0 hf
  have := h.2.2.2.1 f hf
  omega
theorem p_write {f t : Int} (h : Inv c iv av) (hf : InR f) (ht : InR t) : OkN Y (e + 4) mX11_write [.ref (gl_b Y + 0), .int (i32 f), .int (i32 t)] RV iv av 116 (Thn Y (e' + 1) mX13_write [.ref (gl_b Y + 73), .int (i32 f), .int (i32 t)] c) := by
  obtain ⟨hF, hT, hR, hO, hK, hL, hP, hB⟩ := h
  have hT1 := hT.1
  have hT2 := hT.2.1
  have hT3 := hT.2.2.1
  have hF5 := hF.2.1
  have hFI := hF.1
  have h0 : ∀ iv1 av1 : IVt, Rng iv1 av1 → iv1 73 0 = iv 73 0 ∧ iv1 73 5 = iv 73 5 ∧ av1 75 = av 75 ∧ av1 76 = av 76 → OkN Y (e' + 1) mX13_write [.ref (gl_b Y + 73), .int (i32 f), .int (i32 t)] RV iv1 av1 116 (fun r iv' av' => (wrBad f t ∧ r = -1 ∧ iv' = up2 iv1 73 0 0 ∧ av' = av1) ∨ (¬ wrBad f t ∧ 65536 < iv1 73 5 + iv1 73 0 * t ∧ r = -3 ∧ iv' = up2 iv1 73 0 0 ∧ av' = av1) ∨
      (¬ wrBad f t ∧ iv1 73 5 + iv1 73 0 * t ≤ 65536 ∧ r = av1 76 f.toNat + iv1 73 0 * t ∧ iv' = exI (up2 iv1 73 0 0) (iv1 73 0 * t) ∧ av' = upA (exA iv1 av1 f.toNat (iv1 73 0 * t)) 77 (fil (rFrom iv1 av1 f.toNat) (iv1 73 0 * t) (fun j => av1 74 (j % (iv1 73 0).toNat)) (exA iv1 av1 f.toNat (iv1 73 0 * t) 77)))) := by
    intro iv1 av1 hR1 ⟨g1, g2, g3, g4⟩
    refine s_X13_write hf ht ?_ (by omega)
    have := hF.rf
    unfold RF at *
    rw [g2, g3, g4]
    exact this
  have z0 : InvT (up2 (up2 iv 10 1 0) 73 0 0) av := ⟨rfl, Int.le_refl 0, (by decide : (0:Int) ≤ 1024), fun j hj => absurd (show (j : Int) < 0 from hj) (by omega)⟩
  refine OkN.mono (s_X11_write hf ht hF.1 ⟨hT2, hT3⟩) ?_
  rintro r iv1 av1 hR1 (⟨hc, rfl, rfl, rfl⟩ | ⟨hc, hc1, rfl, rfl, rfl⟩ | ⟨hc, hc1, rfl, rfl, rfl⟩)
  · refine OkN.mono (h0 _ _ hR1 ⟨rfl, rfl, rfl, rfl⟩) ?_
    rintro r iv2 av2 hR2 (⟨hd, rfl, rfl, rfl⟩ | ⟨hd, hd1, rfl, rfl, rfl⟩ | ⟨hd, hd1, rfl, rfl, rfl⟩)
    · exact ⟨rfl, hF, z0, hR, hO, hK, hL, hP.up, hB⟩
    · exact absurd hc hd
    · exact absurd hc hd
  · have e1 : up2 iv 10 1 0 73 0 = iv 10 1 := hT1
    have e2 : up2 iv 10 1 0 73 5 = iv 2 1 := hF5
    refine OkN.mono (h0 _ _ hR1 ⟨rfl, rfl, rfl, rfl⟩) ?_
    rintro r iv2 av2 hR2 (⟨hd, rfl, rfl, rfl⟩ | ⟨hd, hd1, rfl, rfl, rfl⟩ | ⟨hd, hd1, rfl, rfl, rfl⟩)
    · exact absurd hd hc
    · exact ⟨rfl, hF, z0, hR, hO, hK, hL, hP.up, hB⟩
    · rw [e1, e2] at hd1
      omega
  · have e1 : up2 (fOpenI iv (iv 10 1 * t)) 10 1 0 73 0 = iv 10 1 := hT1
    have e2 : up2 (fOpenI iv (iv 10 1 * t)) 10 1 0 73 5 = iv 2 1 := hF5
    refine OkN.mono (h0 _ _ hR1 ⟨rfl, rfl, rfl, rfl⟩) ?_
    rintro r iv2 av2 hR2 (⟨hd, rfl, rfl, rfl⟩ | ⟨hd, hd1, rfl, rfl, rfl⟩ | ⟨hd, hd1, rfl, rfl, rfl⟩)
    · exact absurd hd hc
    · rw [e1, e2] at hd1
      omega
    · have hft : 0 ≤ f ∧ f < 64 ∧ 1 ≤ t ∧ t ≤ 64 := by unfold wrBad at hc; omega
      have hm := mul_in hT2 hT3 (show 0 ≤ t by omega) (show t ≤ 64 by omega)
      rw [e1]
      generalize hn : iv 10 1 * t = n at *
      refine ⟨?_, ?_, z0, hR, hO, hK, hL, hP.up, hB⟩
      · show av 76 f.toNat + n = _
        rw [hF.2.2.1 f.toNat (by omega)]
      · refine InvF.grow (n := n) (f := f.toNat) (G := fun j => av 11 (j % (iv 10 1).toNat)) hF (by omega) hm.1 (by omega) ?_ ?_ ?_ ?_ ?_ ?_ ?_
        · rfl
        · rfl
        · rfl
        · intro i
          exact fOpenA_4 (iv := iv) f.toNat n i
        · intro k
          rfl
        · intro k
          rfl
        · show fil (rFrom iv av f.toNat) n (fun j => av 74 (j % (iv 10 1).toNat)) _ = fil (rFrom iv av f.toNat) n _ _
          unfold fil
          funext i
          by_cases hi : rFrom iv av f.toNat ≤ (i : Int) ∧ (i : Int) < rFrom iv av f.toNat + n
          · rw [if_pos hi, if_pos hi]
            dsimp only
            refine hT.2.2.2 _ ?_
            have h10 : 0 < iv 10 1 := by
              by_cases h : 0 < iv 10 1
              · exact h
              · have : iv 10 1 = 0 := by omega
                rw [this] at hn
                omega
            have := Nat.mod_lt ((i : Int) - rFrom iv av f.toNat).toNat (show 0 < (iv 10 1).toNat by omega)
            omega
          · rw [if_neg hi, if_neg hi]
            rfl
theorem p_fill {f k b n : Int} (h : Inv c iv av) (hf : InR f) (hk : InR k) (hb : InR b) (hn : InR n) : OkN Y (e + 3) mX11_fill [.ref (gl_b Y + 0), .int (i32 f), .int (i32 k), .int (i32 b), .int (i32 n)] RV iv av 116 (Thn Y (e' + 1) mX13_fill [.ref (gl_b Y + 73), .int (i32 f), .int (i32 k), .int (i32 b), .int (i32 n)] c) := by
  obtain ⟨hF, hT, hR, hO, hK, hL, hP, hB⟩ := h
  have hF5 := hF.2.1
  refine OkN.mono (s_X11_fill hf hk hb hn hF.1) ?_
  rintro r iv1 av1 hR1 (⟨hc, rfl, rfl, rfl⟩ | ⟨hc, hc1, rfl, rfl, rfl⟩ | ⟨hc, hc1, rfl, rfl, rfl⟩)
  · refine OkN.mono (s_X13_fill hf hk hn hF.rf) ?_
    rintro r iv2 av2 hR2 (⟨hd, rfl, rfl, rfl⟩ | ⟨hd, hd1, rfl, rfl, rfl⟩ | ⟨hd, hd1, rfl, rfl, rfl⟩)
    · exact ⟨rfl, hF, hT, hR, hO, hK, hL, hP.up, hB⟩
    · exact absurd hc hd
    · exact absurd hc hd
  · refine OkN.mono (s_X13_fill hf hk hn hF.rf) ?_
    rintro r iv2 av2 hR2 (⟨hd, rfl, rfl, rfl⟩ | ⟨hd, hd1, rfl, rfl, rfl⟩ | ⟨hd, hd1, rfl, rfl, rfl⟩)
    · exact absurd hd hc
    · exact ⟨rfl, hF, hT, hR, hO, hK, hL, hP.up, hB⟩
    · omega
  · have e2 : fOpenI iv n 73 5 = iv 2 1 := hF5
    have hRF : RF (fOpenI iv n) (upA (fOpenA iv av f.toNat n) 3 (fil (av 4 (f.toNat + 1)) n (fG k b) (fOpenA iv av f.toNat n 3))) := hF.rf
    refine OkN.mono (s_X13_fill hf hk hn hRF) ?_
    rintro r iv2 av2 hR2 (⟨hd, rfl, rfl, rfl⟩ | ⟨hd, hd1, rfl, rfl, rfl⟩ | ⟨hd, hd1, rfl, rfl, rfl⟩)
    · exact absurd hd hc
    · rw [e2] at hd1
      omega
    · have hft : 0 ≤ f ∧ f < 64 ∧ 1 ≤ n := by unfold fiBad at hc; omega
      refine ⟨?_, ?_, hT, hR, hO, hK, hL, hP.up, hB⟩
      · show av 76 f.toNat + n = _
        rw [hF.2.2.1 f.toNat (by omega)]
      · refine InvF.grow (n := n) (f := f.toNat) (G := fG k b) hF (by omega) (by omega) (by omega) ?_ ?_ ?_ ?_ ?_ ?_ ?_
        · rfl
        · rfl
        · rfl
        · intro i
          exact fOpenA_4 (iv := iv) f.toNat n i
        · intro k
          rfl
        · intro k
          rfl
        · rfl
theorem p_clear {f : Int} (h : Inv c iv av) (hf : InR f) : OkN Y (e + 3) mX11_clear [.ref (gl_b Y + 0), .int (i32 f)] RV iv av 116 (Thn Y (e' + 1) mX13_clear [.ref (gl_b Y + 73), .int (i32 f)] c) := by
  obtain ⟨hF, hT, hR, hO, hK, hL, hP, hB⟩ := h
  have hRF := hF.rf
  refine OkN.mono (s_X11_clear hf hF.1) ?_
  rintro r iv1 av1 hR1 (⟨hc, rfl, rfl, rfl⟩ | ⟨hc0, hc1, rfl, rfl, rfl⟩)
  · refine OkN.mono (s_X13_clear hf ⟨hRF.1, hRF.2.1⟩ (fun h0 h1 => hRF.2.2 f.toNat (by omega)) (fun k hk => by have := hRF.2.2 k hk; omega)) ?_
    rintro r iv2 av2 hR2 (⟨hd, rfl, rfl, rfl⟩ | ⟨hd0, hd1, rfl, rfl, rfl⟩)
    · exact ⟨rfl, hF, hT, hR, hO, hK, hL, hP.up, hB⟩
    · omega
  · have hRF2 : RF (fDropI iv (av 4 (f.toNat + 1) - av 4 f.toNat)) (fDropA iv av f.toNat) := hRF
    refine OkN.mono (s_X13_clear hf ⟨hRF2.1, hRF2.2.1⟩ (fun h0 h1 => hRF2.2.2 f.toNat (by omega)) (fun k hk => by have := hRF2.2.2 k hk; omega)) ?_
    rintro r iv2 av2 hR2 (⟨hd, rfl, rfl, rfl⟩ | ⟨hd0, hd1, rfl, rfl, rfl⟩)
    · omega
    · refine ⟨?_, ?_, hT, hR, hO, hK, hL, hP.up, hB⟩
      · show av 76 f.toNat = _
        rw [hF.2.2.1 f.toNat (by omega)]
      · refine InvF.less (f := f.toNat) hF (by omega) ?_ ?_ ?_ ?_ ?_ ?_ ?_
        · rfl
        · rfl
        · rfl
        · intro i
          rfl
        · intro k
          rfl
        · intro k
          rfl
        · rfl
theorem p_about {f w : Int} (h : Inv c iv av) (hf : InR f) (hw : InR w) : OkN Y (e + 2) mX11_about [.ref (gl_b Y + 0), .int (i32 f), .int (i32 w)] RV iv av 116 (Thn Y (e' + 1) mX13_about [.ref (gl_b Y + 73), .int (i32 f), .int (i32 w)] c) := by
  obtain ⟨hF, hT, hR, hO, hK, hL, hP, hB⟩ := h
  have hI : Inv (c + 1) iv av := ⟨hF, hT, hR, hO, hK, hL, hP.up, hB⟩
  have key : ∀ r0 : Int, (∀ (h0 : ¬ (0 ≤ f ∧ f < 64 ∧ 0 ≤ w ∧ w ≤ 6)), r0 = -1) → (∀ (h0 : 0 ≤ f ∧ f < 64 ∧ 0 ≤ w ∧ w ≤ 6), r0 = if w = 0 then av 76 f.toNat else av 6 (8 * f.toNat + w.toNat)) → Thn Y (e' + 1) mX13_about [.ref (gl_b Y + 73), .int (i32 f), .int (i32 w)] c r0 iv av := by
    intro r0 g1 g2
    refine o_X13_about hf hw (OkN.mono (s_X13_isFile hf) ?_)
    rintro r iv' av' hR' ⟨rfl, rfl, rfl⟩ hr
    refine ⟨fun h0 => ⟨by rw [g1 (by grind)], hI⟩, fun h0 => ⟨fun h1 => ⟨by rw [g1 (by omega)], hI⟩, fun h1 => ⟨fun h2 => ?_, fun h2 => ⟨by rw [g1 (by omega)], hI⟩⟩⟩⟩
    have hff : 0 ≤ f ∧ f < 64 := by grind
    have g3 := g2 ⟨hff.1, hff.2, by omega, h2⟩
    obtain ⟨⟨q1, q2, q3, q4, q5, q6, q7⟩, _⟩ := hL.2 f.toNat (by omega)
    refine ⟨fun h3 => ⟨hff, fun _ => ⟨?_, hI⟩⟩, fun h3 => ⟨hff, fun _ => ⟨?_, hI⟩⟩, fun h3 => ⟨hff, fun _ => ⟨?_, hI⟩⟩, fun h3 => ⟨hff, fun _ => ⟨?_, hI⟩⟩, fun h3 => ⟨hff, fun _ => ⟨?_, hI⟩⟩, fun h3 => ⟨hff, fun _ => ⟨?_, hI⟩⟩, fun h3 => ⟨hff, fun _ => ⟨?_, hI⟩⟩⟩
    · rw [g3, if_neg (by omega), q6, show w.toNat = 6 by omega]
    · rw [g3, if_pos h3]
    · rw [g3, if_neg (by omega), q1, show w.toNat = 1 by omega]
    · rw [g3, if_neg (by omega), q2, show w.toNat = 2 by omega]
    · rw [g3, if_neg (by omega), q3, show w.toNat = 3 by omega]
    · rw [g3, if_neg (by omega), q4, show w.toNat = 4 by omega]
    · rw [g3, if_neg (by omega), q5, show w.toNat = 5 by omega]
  refine o_X11_about hf hw (OkN.mono (s_X11_isFile hf) ?_)
  rintro r iv' av' hR' ⟨rfl, rfl, rfl⟩ hr
  refine ⟨fun h0 => key _ (fun _ => rfl) (fun h => by grind), fun h0 => ⟨fun h1 => key _ (fun _ => rfl) (fun h => by omega), fun h1 => ⟨fun h2 => ?_, fun h2 => key _ (fun _ => rfl) (fun h => by omega)⟩⟩⟩
  have hff : 0 ≤ f ∧ f < 64 := by grind
  refine ⟨fun h3 => ?_, fun h3 => OkN.mono (s_X4_count hF.1 hff.1 hff.2) ?_⟩
  · have g := s_X5_fact (Y := Y) (e := e + 1) (iv := iv') (av := av') (f := f.toNat) (w := w.toNat) (by omega) (by omega)
    rw [show (f.toNat : Int) = f by omega, show (w.toNat : Int) = w by omega] at g
    refine OkN.mono g ?_
    rintro r iv2 av2 hR2 ⟨rfl, rfl, rfl⟩ hr2
    exact key _ (fun h => by omega) (fun _ => by rw [if_neg h3])
  · rintro r iv2 av2 hR2 ⟨rfl, rfl, rfl⟩ hr2
    exact key _ (fun h => by omega) (fun _ => by rw [if_pos h3, hF.2.2.1 f.toNat (by omega)])
theorem p_number {f i : Int} (h : Inv c iv av) (hf : InR f) (hi : InR i) : OkN Y (e + 2) mX11_number [.ref (gl_b Y + 0), .int (i32 f), .int (i32 i)] RV iv av 116 (Thn Y (e' + 1) mX13_number [.ref (gl_b Y + 73), .int (i32 f), .int (i32 i)] c) := by
  obtain ⟨hF, hT, hR, hO, hK, hL, hP, hB⟩ := h
  have hI : Inv (c + 1) iv av := ⟨hF, hT, hR, hO, hK, hL, hP.up, hB⟩
  have key : ∀ r0 : Int, (∀ (h0 : ¬ (0 ≤ f ∧ f < 64)), r0 = -1) → (∀ (h0 : 0 ≤ f ∧ f < 64), r0 = if 0 ≤ i ∧ i < av 6 (8 * f.toNat + 3) then av 7 ((av 6 (8 * f.toNat + 7)).toNat + i.toNat) else -2) → Thn Y (e' + 1) mX13_number [.ref (gl_b Y + 73), .int (i32 f), .int (i32 i)] c r0 iv av := by
    intro r0 g1 g2
    refine o_X13_number hf hi (OkN.mono (s_X13_isFile hf) ?_)
    rintro r iv' av' hR' ⟨rfl, rfl, rfl⟩ hr
    refine ⟨fun h0 => ?_, fun h0 => ⟨by rw [g1 (by grind)], hI⟩⟩
    have hff : 0 ≤ f ∧ f < 64 := by grind
    have g3 := g2 hff
    obtain ⟨⟨q1, q2, q3, q4, q5, q6, q7⟩, ⟨z1, z2, z3, z4, z5, z6, z7, z8⟩, _⟩ := hL.2 f.toNat (by omega)
    have n80 := hL.1.2.1
    refine ⟨fun h1 => ⟨by rw [g3, if_neg (by omega)], hI⟩, fun h1 => ⟨hff, fun _ => ⟨fun h2 _ => ⟨by omega, fun _ => ⟨?_, hI⟩⟩, fun h2 => ⟨by rw [g3, if_neg (by omega)], hI⟩⟩⟩⟩
    rw [g3, if_pos (by omega), q7, show (av' 6 (8 * f.toNat + 7) + i).toNat = (av' 6 (8 * f.toNat + 7)).toNat + i.toNat by omega]
    exact (hL.1.2.2.2.1 _ (by omega)).1
  refine o_X11_number hf hi (OkN.mono (s_X11_isFile hf) ?_)
  rintro r iv' av' hR' ⟨rfl, rfl, rfl⟩ hr
  refine ⟨fun h0 => ?_, fun h0 => key _ (fun _ => rfl) (fun h => by grind)⟩
  have hff : 0 ≤ f ∧ f < 64 := by grind
  obtain ⟨_, ⟨z1, z2, z3, z4, z5, z6, z7, z8⟩, _⟩ := hL.2 f.toNat (by omega)
  have n80 := hL.1.2.1
  refine ⟨fun h1 => key _ (fun h => absurd hff h) (fun _ => by rw [if_neg (by omega)]), fun h1 => ?_⟩
  have g := s_X5_fact (Y := Y) (e := e + 1) (iv := iv') (av := av') (f := f.toNat) (w := 3) (by omega) (by omega)
  rw [show (f.toNat : Int) = f by omega] at g
  refine OkN.mono g ?_
  rintro r iv2 av2 hR2 ⟨rfl, rfl, rfl⟩ hr2
  refine ⟨fun h2 => ?_, fun h2 => key _ (fun h => absurd hff h) (fun _ => by rw [if_neg (by omega)])⟩
  have g := s_X5_blockNumber (Y := Y) (e := e) (iv := iv2) (av := av2) (f := f.toNat) (i := i.toNat) (by omega) z6 (by omega)
  rw [show (f.toNat : Int) = f by omega, show (i.toNat : Int) = i by omega] at g
  refine OkN.mono g ?_
  rintro r iv2 av2 hR2 ⟨rfl, rfl, rfl⟩ hr2
  exact key _ (fun h => absurd hff h) (fun _ => by rw [if_pos (by omega)])
theorem p_fragments (h : Inv c iv av) : OkN Y (e + 1) mX11_fragments [.ref (gl_b Y + 0)] RV iv av 116 (Thn Y e' mX13_fragments [.ref (gl_b Y + 73)] c) := by
  refine o_X11_fragments (OkN.mono s_X5_fragmentCount ?_)
  rintro r iv' av' hR' ⟨rfl, rfl, rfl⟩ hr
  obtain ⟨hF, hT, hR, hO, hK, hL, hP, hB⟩ := h
  exact o_X13_fragments fun _ => ⟨hL.1.2.2.1.1, hF, hT, hR, hO, hK, hL, hP.up, hB⟩
theorem p_fragment {i w : Int} (h : Inv c iv av) (hi : InR i) (hw : InR w) : OkN Y (e + 1) mX11_fragment [.ref (gl_b Y + 0), .int (i32 i), .int (i32 w)] RV iv av 116 (Thn Y e' mX13_fragment [.ref (gl_b Y + 73), .int (i32 i), .int (i32 w)] c) := by
  have hI := h.up
  obtain ⟨hF, hT, hR, hO, hK, hL, hP, hB⟩ := h
  obtain ⟨q1, q2, q3⟩ := hL.1.2.2.1
  have q4 := hL.1.2.2.2.2
  have key : ∀ r0 : Int, r0 = (if w < 0 ∨ 1 < w then -1 else if 0 ≤ i ∧ i < iv 5 6 then (if w = 0 then av 8 i.toNat else av 9 i.toNat) else -2) → Thn Y e' mX13_fragment [.ref (gl_b Y + 73), .int (i32 i), .int (i32 w)] c r0 iv av := by
    rintro r0 rfl
    refine o_X13_fragment hi hw ⟨fun h1 => ⟨by rw [if_pos (by omega)], hI⟩, fun h1 => ⟨fun h2 => ?_, fun h2 => ⟨by rw [if_pos (by omega)], hI⟩⟩⟩
    rw [if_neg (by omega), q1]
    refine ⟨fun h3 => ⟨by rw [if_neg (by omega)], hI⟩, fun h3 _ => ⟨fun h4 => ?_, fun h4 => ⟨by rw [if_neg (by omega)], hI⟩⟩⟩
    rw [if_pos (by omega)]
    obtain ⟨p1, p2, _⟩ := q4 i.toNat (by omega)
    exact ⟨fun h5 => ⟨by omega, fun _ => ⟨by rw [if_neg h5, p2], hI⟩⟩, fun h5 => ⟨by omega, fun _ => ⟨by rw [if_pos h5, p1], hI⟩⟩⟩
  refine o_X11_fragment hi hw ⟨fun h1 => key _ (by rw [if_pos (by omega)]), fun h1 => ⟨fun h2 => ⟨fun h3 => key _ (by rw [if_neg (by omega), if_neg (by omega)]), fun h3 => OkN.mono s_X5_fragmentCount ?_⟩, fun h2 => key _ (by rw [if_pos (by omega)])⟩⟩
  rintro r iv' av' hR' ⟨rfl, rfl, rfl⟩ hr
  refine ⟨fun h4 => ⟨fun h5 => OkN.mono (s_X5_fragmentNumber hi) ?_, fun h5 => OkN.mono (s_X5_fragmentBegin hi) ?_⟩, fun h4 => key _ (by rw [if_neg (by omega), if_neg (by omega)])⟩
  · rintro r iv' av' hR' ⟨rfl, rfl, rfl⟩ hr
    exact key _ (by rw [if_pos (show 0 ≤ i ∧ i < 64 by omega), if_neg (show ¬ (w < 0 ∨ 1 < w) by omega), if_pos (show 0 ≤ i ∧ i < iv' 5 6 by omega), if_neg h5])
  · rintro r iv' av' hR' ⟨rfl, rfl, rfl⟩ hr
    exact key _ (by rw [if_pos (show 0 ≤ i ∧ i < 64 by omega), if_neg (show ¬ (w < 0 ∨ 1 < w) by omega), if_pos (show 0 ≤ i ∧ i < iv' 5 6 by omega), if_pos h5])
theorem p_size (h : Inv c iv av) : OkN Y (e + 1) mX11_size [.ref (gl_b Y + 0)] RV iv av 116 (Thn Y e' mX13_size [.ref (gl_b Y + 73)] c) := by
  refine o_X11_size (OkN.mono (s_X2_count bk_12) ?_)
  rintro r iv' av' hR' ⟨rfl, rfl, rfl⟩ hr
  exact o_X13_size fun _ => ⟨h.2.2.1.1, h.up⟩
theorem p_taken (h : Inv c iv av) : OkN Y e mX11_taken [.ref (gl_b Y + 0)] RV iv av 116 (Thn Y e' mX13_taken [.ref (gl_b Y + 73)] c) :=
  o_X11_taken fun _ => o_X13_taken fun _ => ⟨h.2.2.2.2.1, h.up⟩
theorem g_cmp_lt {x y : Int} : g_cmp x y < 0 ↔ x < y := by
  unfold g_cmp
  split
  · omega
  · split <;> omega
theorem g_cmp_ge {x y : Int} : 0 ≤ g_cmp x y ↔ y ≤ x := by
  unfold g_cmp
  split
  · omega
  · split <;> omega
theorem l_X13_eight {a : Nat} {n i : Int} (C : CX Y X RX13 "eight" cX13_eight 7 (some .long) e 0 0) (K : ArrK 101 a) (hn : InR n) (hi : InR i) (h0 : 0 ≤ i) (hk : n ≤ kl a) {P : PN} : ∀ (m : Nat) (v : Int), m ≤ 8 → InL v → P (e8 (av a) n i m v) iv av → L_X13_eight_14 Y X P a n i v (8 * i + m - 1) iv av := by
  intro m
  induction m with
  | zero =>
    intro v h1 h2 hP
    exact w_X13_eight_14 C K hn hi h2 (by omega) ⟨by omega, fun _ => hP, fun h => absurd (g_cmp_lt.mpr (by omega)) h⟩
  | succ m ih =>
    intro v h1 h2 hP
    have e1 : 8 * i + ((m + 1 : Nat) : Int) - 1 = 8 * i + m := by omega
    rw [e1]
    refine w_X13_eight_14 C K hn hi h2 (by omega) ⟨by omega, fun h => absurd (g_cmp_lt.mp h) (by omega), fun _ => ⟨fun h => absurd h (by omega), fun _ => ⟨fun h => ?_, fun h => ?_⟩⟩⟩
    · refine ih _ (by omega) (g_orL_in _ _) ?_
      have h' := g_cmp_ge.mp h
      have e2 : bt (av a) n (8 * i + m) = 0 := if_neg (by omega)
      unfold e8 at hP
      rw [e2] at hP
      exact hP
    · have h' : 8 * i + m < n := by
        by_cases hh : n ≤ 8 * i + m
        · exact absurd (g_cmp_ge.mpr hh) h
        · omega
      refine ⟨by omega, fun _ => ih _ (by omega) (g_orL_in _ _) ?_⟩
      have e2 : bt (av a) n (8 * i + m) = av a (8 * i + m).toNat % 256 := if_pos (by omega)
      unfold e8 at hP
      rw [e2] at hP
      exact hP
theorem s_X13_eight {a : Nat} {n i : Int} (K : ArrK 101 a) (hn : InR n) (hi : InR i) (hk : n ≤ kl a) : OkN Y e mX13_eight [.ref (gl_b Y + a), .int (i32 n), .int (i32 i)] RV iv av 116 (Same iv av (E8 (av a) n i)) := by
  refine o_X13_eight K hi fun X C => ?_
  unfold E8
  by_cases h0 : i < 0
  · rw [if_pos h0]
    exact w_X13_eight_14 C K hn hi (by omega) (by omega) ⟨by omega, fun h => absurd (g_cmp_lt.mp h) (by omega), fun _ => ⟨fun _ => ⟨rfl, rfl, rfl⟩, fun h => absurd h0 h⟩⟩
  · rw [if_neg h0]
    rw [show 8 * i + 7 = 8 * i + ((8 : Nat) : Int) - 1 by omega]
    exact l_X13_eight (P := Same iv av (e8 (av a) n i 8 0)) C K hn hi (by omega) hk 8 0 (by omega) (by omega) ⟨rfl, rfl, rfl⟩
theorem e8_eq {f g : Nat → Int} {n i : Int} (h : ∀ j : Nat, j < n → g j = f j) : ∀ (m : Nat) (v : Int), e8 g n i m v = e8 f n i m v := by
  intro m
  induction m with
  | zero => exact fun v => rfl
  | succ m ih =>
    intro v
    unfold e8
    rw [ih]
    congr 2
    unfold bt
    split
    · rw [h _ (by omega)]
    · rfl
theorem E8_eq {f g : Nat → Int} {n i : Int} (h : ∀ j : Nat, j < n → g j = f j) : E8 g n i = E8 f n i := by
  unfold E8
  rw [e8_eq h]
theorem p_word {i : Int} (h : Inv c iv av) (hi : InR i) : OkN Y (e + 2) mX11_word [.ref (gl_b Y + 0), .int (i32 i)] RV iv av 116 (Thn Y (e' + 1) mX13_word [.ref (gl_b Y + 73), .int (i32 i)] c) := by
  obtain ⟨r1, r2, r3, r4⟩ := h.2.2.1
  refine o_X11_word hi (OkN.mono (s_X2_eightFrom bk_12 hi r2 r3) ?_)
  rintro r iv' av' hR' ⟨rfl, rfl, rfl⟩ hr
  refine o_X13_word hi fun _ => OkN.mono (s_X13_eight ⟨rfl, by decide⟩ (by omega) hi (by rw [r1]; exact r3)) ?_
  rintro r iv' av' hR' ⟨rfl, rfl, rfl⟩ hr
  exact ⟨by rw [r1, E8_eq r4], h.up⟩
theorem p_out {i : Int} (h : Inv c iv av) (hi : InR i) : OkN Y (e + 2) mX11_out [.ref (gl_b Y + 0), .int (i32 i)] RV iv av 116 (Thn Y (e' + 1) mX13_out [.ref (gl_b Y + 73), .int (i32 i)] c) := by
  obtain ⟨r1, r2, r3, r4⟩ := h.2.2.2.1
  refine o_X11_out hi (OkN.mono (s_X2_eightFrom bk_20 hi r2 r3) ?_)
  rintro r iv' av' hR' ⟨rfl, rfl, rfl⟩ hr
  refine o_X13_out hi fun _ => OkN.mono (s_X13_eight ⟨rfl, by decide⟩ (by omega) hi (by rw [r1]; exact r3)) ?_
  rintro r iv' av' hR' ⟨rfl, rfl, rfl⟩ hr
  exact ⟨by rw [r1, E8_eq r4], h.up⟩
theorem p_patch {i b : Int} (h : Inv c iv av) (hi : InR i) (hb : InR b) : OkN Y (e + 1) mX11_patch [.ref (gl_b Y + 0), .int (i32 i), .int (i32 b)] RV iv av 116 (Thn Y e' mX13_patch [.ref (gl_b Y + 73), .int (i32 i), .int (i32 b)] c) := by
  have hI := h.up
  obtain ⟨hF, hT, hR, hO, hK, hL, hP, hB⟩ := h
  obtain ⟨r1, r2, r3, r4⟩ := hR
  refine o_X11_patch hi hb ⟨fun h1 => o_X13_patch hi ⟨fun _ => ⟨rfl, hI⟩, fun h => absurd h1 h⟩, fun h1 => OkN.mono (s_X2_count bk_12) ?_⟩
  rintro r iv' av' hR' ⟨rfl, rfl, rfl⟩ hr
  refine ⟨fun h2 => OkN.mono (s_X2_at bk_12 hi) ?_, fun h2 => o_X13_patch hi ⟨fun h => absurd h h1, fun _ _ => ⟨fun h => absurd h (by omega), fun _ => ⟨rfl, hI⟩⟩⟩⟩
  rintro r iv' av' hR' ⟨rfl, rfl, rfl⟩ hr
  refine OkN.mono (s_X2_set bk_12 hi (by omega) h2 r3) ?_
  rintro r iv' av2 hR2 ⟨rfl, rfl⟩
  refine o_X13_patch hi ⟨fun h => absurd h h1, fun _ _ => ⟨fun h3 => ⟨by omega, fun _ => ⟨?_, hF, hT, ⟨r1, r2, r3, ?_⟩, hO, hK, hL, hP.up, hB⟩⟩, fun h => absurd (show i < iv' 73 23 by omega) h⟩⟩
  · have e1 : b_at iv' av' 12 i = av' 13 i.toNat % 256 := if_pos ⟨by omega, h2, by show i < ((131072 : Nat) : Int); omega⟩
    rw [e1]
    show av' 89 i.toNat % 256 = _
    rw [r4 i.toNat (by omega)]
  · intro j hj
    show (if j = i.toNat then bm8 (bm8 b) else av' 89 j) = if j = i.toNat then bm8 b else av' 13 j
    split
    · exact bm8_bm8 b
    · exact r4 j hj
theorem p_cut {n : Int} (h : Inv c iv av) (hn : InR n) : OkN Y (e + 1) mX11_cut [.ref (gl_b Y + 0), .int (i32 n)] RV iv av 116 (Thn Y e' mX13_cut [.ref (gl_b Y + 73), .int (i32 n)] c) := by
  have hI := h.up
  obtain ⟨hF, hT, hR, hO, hK, hL, hP, hB⟩ := h
  obtain ⟨r1, r2, r3, r4⟩ := hR
  refine o_X11_cut hn ⟨fun h1 => o_X13_cut hn ⟨fun _ => ⟨rfl, hI⟩, fun h => absurd h1 h⟩, fun h1 => OkN.mono (s_X2_count bk_12) ?_⟩
  rintro r iv' av' hR' ⟨rfl, rfl, rfl⟩ hr
  refine ⟨fun h2 => OkN.mono (s_X2_count bk_12) ?_, fun h2 => o_X13_cut hn ⟨fun h => absurd h h1, fun _ _ => ⟨fun h => absurd h (by omega), fun _ => ⟨rfl, hI⟩⟩⟩⟩
  rintro r iv' av' hR' ⟨rfl, rfl, rfl⟩ hr
  refine OkN.mono (s_X2_keep bk_12 hn) ?_
  rintro r iv2 av2 hR2 ⟨rfl, rfl⟩
  have e1 : (if 0 ≤ n ∧ n < iv' 12 1 then up2 iv' 12 1 n else iv') = up2 iv' 12 1 n := by
    split
    · rfl
    · rw [show n = iv' 12 1 by omega, up2_self]
  rw [e1]
  have r1' : up2 iv' 12 1 n 73 23 = iv' 12 1 := r1
  refine ⟨by omega, o_X13_cut hn ⟨fun h => absurd h h1, fun _ _ => ⟨fun h3 => ⟨by rw [r1']; omega, by rw [r1'], hF, hT, ⟨rfl, ?_, ?_, ?_⟩, hO, hK, hL, hP.up, hB⟩, fun h => absurd (show n ≤ up2 iv' 12 1 n 73 23 by omega) h⟩⟩⟩
  · show 0 ≤ n
    omega
  · show n ≤ 131072
    omega
  · intro j hj
    exact r4 j (by have : (j : Int) < n := hj; omega)
end Pairs
