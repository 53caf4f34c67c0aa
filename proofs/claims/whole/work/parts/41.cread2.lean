/-! The class' read: all pieces. -/
theorem blkC_of {g g' : Nat → Int} {rc rc' b b' beg beg' : Int} {l l' m m' o o' : Nat} (h1 : g' = g) (h2 : rc' = rc) (h3 : b' = b) (h4 : beg' = beg) (h5 : l' = l) (h6 : m' = m) (h7 : o' = o) : blkC g' rc' b' beg' l' m' o' = blkC g rc b beg l m o := by
  subst h1 h2 h3 h4 h5 h6 h7
  rfl
theorem bBeg_of {av av' : IVt} {f : Nat} (a6 : av' 6 = av 6) (a7 : av' 7 = av 7) : ∀ m, bBeg av' f m = bBeg av f m := by
  intro m
  induction m with
  | zero => show av' 6 _ = av 6 _; rw [a6]
  | succ m ih =>
    show bBeg av' f m + av' 7 ((av' 6 (8 * f + 7)).toNat + m) % 16777216 = bBeg av f m + av 7 ((av 6 (8 * f + 7)).toNat + m) % 16777216
    rw [ih, a6, a7]
theorem pcB_of {av av' : IVt} {f k : Nat} (a6 : av' 6 = av 6) (a7 : av' 7 = av 7) (a9 : av' 9 = av 9) : pcB av' f k = pcB av f k := by unfold pcB; rw [a6, a7, a9]
theorem pc_of {iv av iv' av' : IVt} {f k : Nat} (e5 : iv' 5 = iv 5) (e12 : iv' 12 = iv 12) (a6 : av' 6 = av 6) (a7 : av' 7 = av 7) (a8 : av' 8 = av 8) (a9 : av' 9 = av 9) (a13 : av' 13 = av 13) : pc iv' av' f k = pc iv av f k := by
  have eb : bkS iv' = bkS iv := by unfold bkS; rw [e5]
  have ebN : bkN iv' = bkN iv := by unfold bkN; rw [e5]
  have ed : ∀ n k, due iv' n k = due iv n k := fun n k => by unfold due; rw [eb]
  unfold pc
  rw [a6, a8, a13, e12, pcB_of a6 a7 a9, bBeg_of a6 a7, ebN]
  simp only [ed]
theorem tkS_in {t : Nat → Int} (ht : ∀ k, 0 ≤ t k ∧ t k ≤ 1) (lo : Nat) : ∀ m, 0 ≤ tkS t lo m ∧ tkS t lo m ≤ m := by
  intro m
  induction m with
  | zero => exact ⟨Int.le_refl 0, Int.le_refl 0⟩
  | succ m ih =>
    have := ht (lo + m)
    unfold tkS
    omega
theorem pcT_in (av : IVt) (f k : Nat) : 0 ≤ pcT av f k ∧ pcT av f k ≤ 1 := by unfold pcT; split <;> omega
abbrev LRdi : List Nat := [0, 16, 18, 20, 58, 72]
abbrev LRda : List Nat := [17, 19, 21, 60, 61, 62, 64, 65, 66, 68, 69, 70, 71]
section SCread2
variable {Y : Gl} {X : Cx} {e : Nat} {iv av : IVt}
theorem l_X11_readEnd (C : CX Y X RX11 "read" cX11_read 10 (some .int) (e + 6) 0 0) {x1 x2 x4 x5 x6 x7 : Int} (h1 : InR x1) (h2 : InR x2) (h4 : InR x4) (h5 : InR x5) (h6 : InR x6) (h7 : InR x7) (hlt : x5 < x7) (h18 : 0 ≤ iv 18 1 ∧ iv 18 1 ≤ 4096) (h20 : 0 ≤ iv 20 1) {P : PN}
    (hP : ∀ iv' av', Off [0, 20] iv iv' → Off [21] av av' → iv' 20 1 = iv 18 1 → (∀ j : Nat, j < iv 18 1 → av' 21 j = av 19 j) → iv' 0 10 = x6 → P (iv 18 1) iv' av') : L_X11_read_96 Y X P x1 x2 x4 x5 x6 x7 iv av := by
  refine w_X11_read_96 C h1 h2 h4 h5 h6 h7 ⟨fun _ => OkN.mono (s_X2_keep bk_20 (by omega)) ?_, fun h => absurd hlt h⟩
  rintro r iv1 av1 hR1 ⟨rfl, rfl⟩
  have e1 : (if 0 ≤ (0 : Int) ∧ 0 < iv 20 1 then up2 iv 20 1 0 else iv) = up2 iv 20 1 0 := by
    split
    · rfl
    · rw [show (0 : Int) = iv 20 1 by omega, up2_self]
  rw [e1]
  refine OkN.mono (s_X2_count bk_18) ?_
  rintro r iv2 av2 hR2 ⟨rfl, rfl, rfl⟩ hr2
  have e18 : up2 iv 20 1 0 18 1 = iv 18 1 := rfl
  rw [e18]
  have e20 : up2 iv 20 1 0 20 1 = 0 := up2_eq _ _ _ _
  refine OkN.mono (s_X2_addAll bk_20 bk_18 (f := 0) (n := iv 18 1) (by omega) (by omega) (by omega) h18.1 (by rw [e18]; omega) (by rw [e18]; show _ ≤ ((4096 : Nat) : Int); omega) (by rw [e20]; omega) (by rw [e20]; show _ ≤ ((4096 : Nat) : Int); omega)) ?_
  rintro r iv3 av3 hR3 ⟨rfl, rfl⟩
  refine OkN.mono (s_X2_count bk_20) ?_
  rintro r iv4 av4 hR4 ⟨rfl, rfl, rfl⟩ hr4
  rw [e20]
  have e20' : up2 (up2 (up2 iv 20 1 0) 20 1 (0 + iv 18 1)) 0 10 x6 20 1 = iv 18 1 := by
    rw [up2_ne (by decide), up2_eq]
    omega
  rw [e20']
  refine hP _ _ ((((Off.rf _ _).up (by decide)).up (by decide)).up (by decide)) ((Off.rf _ _).upA (by decide)) e20' (fun j hj => ?_) (up2_eq _ _ _ _)
  rw [upA_eq, cpy_at (by omega)]
  congr 1
  omega
theorem l_X11_read96 (C : CX Y X RX11 "read" cX11_read 10 (some .int) (e + 6) 0 0) {iv0 av0 : IVt} (h : RdH iv0 av0) {f : Nat} (hf : f < 64) {fr en : Int} (hfr : 0 ≤ fr) (hlt : fr < en) (h4096 : en - fr ≤ 4096) (hS : en ≤ av0 6 (8 * f + 1)) (h20 : 0 ≤ iv0 20 1) {P : PN}
    (hP : ∀ (r : Int) iv' av', Off LRdi iv0 iv' → Off LRda av0 av' → 0 ≤ iv' 16 1 → iv' 16 1 ≤ 65536 → 0 ≤ iv' 18 1 → iv' 18 1 ≤ 4096 →
      ((rdOk iv0 av0 f (fr.toNat / bkN iv0) ((en - 1).toNat / bkN iv0) ∧ r = en - fr ∧ iv' 20 1 = en - fr ∧ (∀ j : Nat, j < en - fr → av' 21 j = fB iv0 av0 f (fr.toNat + j)) ∧ iv' 0 10 = tkS (pcT av0 f) (fr.toNat / bkN iv0) ((en - 1).toNat / bkN iv0 + 1 - fr.toNat / bkN iv0)) ∨
       (¬ rdOk iv0 av0 f (fr.toNat / bkN iv0) ((en - 1).toNat / bkN iv0) ∧ r = -4 ∧ iv' 0 10 = 0 ∧ iv' 20 1 = iv0 20 1 ∧ av' 21 = av0 21)) → P r iv' av') :
    ∀ (m i : Nat) (iv av : IVt), i + m = (en - 1).toNat / bkN iv0 + 1 → fr.toNat / bkN iv0 ≤ i → Off LRdi iv0 iv → Off LRda av0 av → iv 18 1 = min en (max fr (i * bkN iv0)) - fr → (∀ j : Nat, j < iv 18 1 → av 19 j = fB iv0 av0 f (fr.toNat + j)) → (∀ k, fr.toNat / bkN iv0 ≤ k → k < i → pc iv0 av0 f k ≠ none) → 0 ≤ iv 16 1 → iv 16 1 ≤ 65536 → iv 0 10 = 0 → iv 20 1 = iv0 20 1 → av 21 = av0 21 →
    L_X11_read_96 Y X P f fr en (((en - 1).toNat / bkN iv0 : Nat) : Int) (tkS (pcT av0 f) (fr.toNat / bkN iv0) (i - fr.toNat / bkN iv0)) i iv av := by
  have hb := bk_in h
  have hz := (h.2.2.2.2.2.1 f hf).1
  have hl := h.1
  generalize hB : bkN iv0 = B at *
  generalize hlo : fr.toNat / B = lo at *
  generalize hhi : (en - 1).toNat / B = hi at *
  have hlo1 : lo * B ≤ fr.toNat := by rw [← hlo]; exact Nat.div_mul_le_self _ _
  have hlo2 : fr.toNat < (lo + 1) * B := by
    rw [← hlo]
    have := Nat.lt_div_mul_add (a := fr.toNat) (b := B) (by omega)
    rw [Nat.add_mul]
    omega
  have hhi1 : hi * B ≤ (en - 1).toNat := by rw [← hhi]; exact Nat.div_mul_le_self _ _
  have hhi2 : (en - 1).toNat < (hi + 1) * B := by
    rw [← hhi]
    have := Nat.lt_div_mul_add (a := (en - 1).toNat) (b := B) (by omega)
    rw [Nat.add_mul]
    omega
  have hhi16 : hi ≤ 16 := by
    by_cases hh : hi ≤ 16
    · exact hh
    · have : 17 * 4096 ≤ hi * B := Nat.mul_le_mul (by omega) hb.1
      omega
  have hlohi : lo ≤ hi := by
    rw [← hlo, ← hhi]
    exact Nat.div_le_div_right (by omega)
  have htk := tkS_in (pcT_in av0 f) lo
  have hpow : (2 : Int) ^ (iv0 5 4).toNat = (B : Int) := by rw [← hB]; unfold bkN; simp
  intro m
  induction m with
  | zero =>
    intro i iv av h1 h2 h3 h4 h5 h6 h7 h8 h9 h10 h11 h12
    have hi1 : i = hi + 1 := by omega
    subst hi1
    have hc : (((hi + 1 : Nat) : Int)) * B = ((hi + 1) * B : Nat) := by simp
    have h18 : iv 18 1 = en - fr := by rw [h5, hc]; omega
    have ht := htk (hi + 1 - lo)
    refine l_X11_readEnd C (by omega) (by omega) (by omega) (by omega) (by omega) (by omega) (by omega) (by omega) (by omega) ?_
    intro iv' av' g1 g2 g3 g4 g5
    refine hP _ iv' av' (h3.tr (g1.mono (by decide))) (h4.tr (g2.mono (by decide))) (by rw [g1 16 (by decide)]; exact h8) (by rw [g1 16 (by decide)]; exact h9) (by rw [g1 18 (by decide)]; omega) (by rw [g1 18 (by decide)]; omega) (Or.inl ⟨fun k k1 k2 => h7 k k1 (by omega), h18, by rw [g3, h18], fun j hj => ?_, g5⟩)
    rw [g4 j (by omega)]
    exact h6 j (by omega)
  | succ m ih =>
    intro i iv av h1 h2 h3 h4 h5 h6 h7 h8 h9 h10 h11 h12
    have hiB : (i : Int) * B = ((i * B : Nat) : Int) := by simp
    have hiB1 : ((i : Int) + 1) * B = (((i + 1) * B : Nat) : Int) := by simp
    have hle : i * B ≤ hi * B := Nat.mul_le_mul_right _ (by omega)
    have hle2 : (lo + 1) * B ≤ (i + 1) * B := Nat.mul_le_mul_right _ (by omega)
    have eiB1 : (i + 1) * B = i * B + B := by rw [Nat.add_mul, Nat.one_mul]
    have h18 : iv 18 1 = max fr (i * B) - fr := by rw [h5, hiB]; omega
    have ht := htk (i - lo)
    have hrd : RdH iv av := h.of (h3 5 (by decide)) (h3 12 (by decide)) (h4 6 (by decide)) (h4 7 (by decide)) (h4 8 (by decide)) (h4 9 (by decide))
    have e5 : iv 5 = iv0 5 := h3 5 (by decide)
    have eBN : bkN iv = B := by rw [← hB]; unfold bkN; rw [e5]
    have epc : ∀ k, pc iv av f k = pc iv0 av0 f k := fun k => pc_of (h3 5 (by decide)) (h3 12 (by decide)) (h4 6 (by decide)) (h4 7 (by decide)) (h4 8 (by decide)) (h4 9 (by decide)) (h4 13 (by decide))
    have epT : pcT av f i = pcT av0 f i := by unfold pcT; rw [pcB_of (h4 6 (by decide)) (h4 7 (by decide)) (h4 9 (by decide))]
    refine w_X11_read_96 C (by omega) (by omega) (by omega) (by omega) (by omega) (by omega) ⟨fun h => absurd h (by omega), fun _ => OkN.mono s_X5_log ?_⟩
    rintro r1 iv1 av1 hR1 ⟨rfl, rfl, rfl⟩ hr1
    rw [e5, hpow]
    rw [e5] at hr1
    refine ⟨by omega, by omega, OkN.mono s_X5_log ?_⟩
    rintro r1 iv1 av1 hR1 ⟨rfl, rfl, rfl⟩ hr1
    rw [e5, hpow]
    have hpc := s_X11_readPiece (Y := Y) (e := e) hrd (f := f) (k := i) (p := max fr (i * B)) (stop := min en (((i : Int) + 1) * B)) hf (by rw [eBN]; omega) (by rw [eBN]; omega) (by omega) (by rw [h4 6 (by decide)]; omega) (by omega) (by omega) ⟨h8, h9⟩
    refine ⟨by omega, by omega, OkN.mono hpc ?_⟩
    rintro r2 iv2 av2 hR2 ⟨c1, c2, c3, c4, c5⟩ hr2
    rw [epc, epT, eBN] at c5
    have f2 : Off LRdi iv0 iv2 := h3.tr (c1.mono (by decide))
    have a2 : Off LRda av0 av2 := h4.tr (c2.mono (by decide))
    have e0 : iv2 0 10 = 0 := by rw [c1 0 (by decide)]; exact h10
    have e20 : iv2 20 1 = iv0 20 1 := by rw [c1 20 (by decide)]; exact h11
    have e21 : av2 21 = av0 21 := by rw [c2 21 (by decide)]; exact h12
    rcases c5 with ⟨d1, rfl, d2⟩ | ⟨c, d1, rfl, d2, d3, d4⟩
    · refine ⟨fun h => absurd h (by decide), fun _ => hP _ iv2 av2 f2 a2 c3 c4 (by omega) (by omega) (Or.inr ⟨fun hok => hok i h2 (by omega) d1, rfl, e0, e20, e21⟩)⟩
    · have hpt := pcT_in av0 f i
      refine ⟨fun _ => ?_, fun h => absurd hpt.1 h⟩
      have etk : tkS (pcT av0 f) lo (i - lo) + pcT av0 f i = tkS (pcT av0 f) lo (i + 1 - lo) := by
        rw [show i + 1 - lo = (i - lo) + 1 by omega]
        show _ = tkS (pcT av0 f) lo (i - lo) + pcT av0 f (lo + (i - lo))
        rw [show lo + (i - lo) = i by omega]
      rw [etk, show (i : Int) + 1 = ((i + 1 : Nat) : Int) by omega]
      have n18 : iv2 18 1 = min en (max fr (((i + 1 : Nat) : Int) * B)) - fr := by
        rw [d2, h18, show (((i + 1 : Nat) : Int) * B) = ((i + 1) * B : Nat) by simp]
        rw [hiB1]
        rw [hiB]
        omega
      refine ih (i + 1) iv2 av2 (by omega) (by omega) f2 a2 n18 (fun j hj => ?_) (fun k k1 k2 => ?_) c3 c4 e0 e20 e21
      · by_cases hjn : (j : Int) < iv1 18 1
        · rw [d3 j hjn]
          exact h6 j hjn
        · obtain ⟨t, ht⟩ : ∃ t : Nat, j = (iv1 18 1).toNat + t := ⟨j - (iv1 18 1).toNat, by omega⟩
          subst ht
          rw [d4 t (by omega)]
          have hq : fr.toNat + ((iv1 18 1).toNat + t) = B * i + ((max fr (i * B) - i * B).toNat + t) := by
            rw [Nat.mul_comm B i]
            omega
          have hsm : (max fr (i * B) - i * B).toNat + t < B := by omega
          have hdiv : (fr.toNat + ((iv1 18 1).toNat + t)) / B = i := by
            rw [hq, Nat.mul_add_div (by omega), Nat.div_eq_of_lt hsm]
            omega
          have hmod : (fr.toNat + ((iv1 18 1).toNat + t)) % B = (max fr (i * B) - i * B).toNat + t := by
            rw [hq, Nat.mul_add_mod, Nat.mod_eq_of_lt hsm]
          unfold fB
          rw [hB, hdiv, hmod, d1]
      · by_cases hki : k = i
        · rw [hki, d1]
          exact fun h => by simp at h
        · exact h7 k k1 (by omega)
theorem s_X11_read {f fr n : Int} (h : RdH iv av) (hf : InR f) (hfr : InR fr) (hn : InR n) (h16 : 0 ≤ iv 16 1 ∧ iv 16 1 ≤ 65536) (h18 : 0 ≤ iv 18 1 ∧ iv 18 1 ≤ 4096) (h20 : 0 ≤ iv 20 1) : OkN Y (e + 6) mX11_read [.ref (gl_b Y + 0), .int (i32 f), .int (i32 fr), .int (i32 n)] RV iv av 116
    (fun r iv' av' => Off LRdi iv iv' ∧ Off LRda av av' ∧ 0 ≤ iv' 16 1 ∧ iv' 16 1 ≤ 65536 ∧ 0 ≤ iv' 18 1 ∧ iv' 18 1 ≤ 4096 ∧ RdE iv av f fr n r (iv' 0 10) (iv 20 1) (av 21) (iv' 20 1) (av' 21)) := by
  have hb := bk_in h
  have hl := h.1
  have hpow : (2 : Int) ^ (iv 5 4).toNat = (bkN iv : Int) := by unfold bkN; simp
  have f0 : Off LRdi iv (up2 iv 0 10 0) := (Off.rf _ _).up (by decide)
  have bad : ∀ hbad : rdBad f fr n, Off LRdi iv (up2 iv 0 10 0) ∧ Off LRda av av ∧ 0 ≤ up2 iv 0 10 0 16 1 ∧ up2 iv 0 10 0 16 1 ≤ 65536 ∧ 0 ≤ up2 iv 0 10 0 18 1 ∧ up2 iv 0 10 0 18 1 ≤ 4096 ∧ RdE iv av f fr n (-1) (up2 iv 0 10 0 0 10) (iv 20 1) (av 21) (up2 iv 0 10 0 20 1) (av 21) :=
    fun hbad => ⟨f0, Off.rf _ _, h16.1, h16.2, h18.1, h18.2, Or.inl ⟨hbad, rfl, up2_eq _ _ _ _, rfl, rfl⟩⟩
  refine o_X11_read hf hfr hn fun X C => OkN.mono (s_X11_isFile hf) ?_
  rintro r iv1 av1 hR1 ⟨rfl, rfl, rfl⟩ hr1
  refine ⟨fun hz => bad (Or.inl (by grind)), fun hnz => ⟨fun h1 => bad (Or.inr (Or.inl h1)), fun h1 => ⟨fun h2 => bad (Or.inr (Or.inr (Or.inl h2))), fun h2 => ⟨fun h3 => ?_, fun h3 => bad (Or.inr (Or.inr (Or.inr (by omega))))⟩⟩⟩⟩
  have hfi : 0 ≤ f ∧ f < 64 := by grind
  have nb : ¬ rdBad f fr n := by unfold rdBad; omega
  have hz := (h.2.2.2.2.2.1 f.toNat (by omega)).1
  have hff : ((f.toNat : Nat) : Int) = f := by omega
  have g := s_X5_fact (Y := Y) (e := e + 5) (iv := up2 iv 0 10 0) (av := av1) (f := f.toNat) (w := 1) (by omega) (by omega)
  rw [hff] at g
  refine OkN.mono g ?_
  rintro r iv1 av2 hR1 ⟨rfl, rfl, rfl⟩ hr2
  have ekeep : ∀ iv2 : IVt, iv2 18 = iv 18 → (if 0 ≤ (0 : Int) ∧ 0 < iv2 18 1 then up2 iv2 18 1 0 else iv2) = up2 iv2 18 1 0 := by
    intro iv2 he
    split
    · rfl
    · rw [show (0 : Int) = iv2 18 1 by rw [he] at *; omega, up2_self]
  refine ⟨by omega, by omega, fun hle => OkN.mono (s_X2_keep bk_18 (by omega)) ?_, fun hgt => OkN.mono s_X5_log ?_⟩
  · rintro r iv2 av3 hR2 ⟨rfl, rfl⟩
    rw [ekeep (up2 iv 0 10 0) rfl]
    refine OkN.mono s_X5_log ?_
    rintro r iv3 av4 hR3 ⟨rfl, rfl, rfl⟩ hr3
    have e5 : up2 (up2 iv 0 10 0) 18 1 0 5 4 = iv 5 4 := rfl
    rw [e5, hpow]
    have hd0 : 0 ≤ fr / (bkN iv : Int) := Int.ediv_nonneg (by omega) (by omega)
    have hd1 : fr / (bkN iv : Int) ≤ fr := Int.ediv_le_self _ (by omega)
    refine ⟨by omega, l_X11_readEnd C (by omega) (by omega) (by omega) (by omega) (by omega) (by omega) (by omega) ⟨by rw [up2_eq]; omega, by rw [up2_eq]; omega⟩ (show 0 ≤ up2 (up2 iv 0 10 0) 18 1 0 20 1 from h20) ?_⟩
    intro iv' av' a1 a2 a3 a4 a5
    have e18 : up2 (up2 iv 0 10 0) 18 1 0 18 1 = 0 := up2_eq _ _ _ _
    rw [e18] at a3 ⊢
    refine ⟨(f0.up (by decide)).tr (a1.mono (by decide)), a2.mono (by decide), by rw [a1 16 (by decide)]; exact h16.1, by rw [a1 16 (by decide)]; exact h16.2, by rw [a1 18 (by decide), e18]; omega, by rw [a1 18 (by decide), e18]; omega, Or.inr (Or.inl ⟨nb, ?_, rfl, a5, a3⟩)⟩
    unfold rdM
    split
    · omega
    · split <;> omega
  · rintro r iv2 av3 hR2 ⟨rfl, rfl, rfl⟩ hr3
    have e5 : up2 iv 0 10 0 5 4 = iv 5 4 := rfl
    rw [e5, hpow]
    rw [e5] at hr3
    refine ⟨by omega, by omega, OkN.mono (s_X2_keep bk_18 (by omega)) ?_⟩
    rintro r iv3 av4 hR3 ⟨rfl, rfl⟩
    rw [ekeep (up2 iv 0 10 0) rfl]
    refine OkN.mono s_X5_log ?_
    rintro r iv4 av5 hR4 ⟨rfl, rfl, rfl⟩ hr4
    have e5' : up2 (up2 iv 0 10 0) 18 1 0 5 4 = iv 5 4 := rfl
    rw [e5', hpow]
    refine ⟨by omega, ?_⟩
    have hM : min (fr + n) (av5 6 (8 * f.toNat + 1)) = fr + rdM (av5 6 (8 * f.toNat + 1)) fr n := by
      unfold rdM
      split
      · omega
      · split <;> omega
    rw [hM] at hgt ⊢
    generalize hm : rdM (av5 6 (8 * f.toNat + 1)) fr n = M at *
    have hB0 : (0 : Int) < bkN iv := by omega
    have ehi : (fr + M - 1) / (bkN iv : Int) = (((fr + M - 1).toNat / bkN iv : Nat) : Int) := by
      rw [Int.natCast_ediv]
      congr 1
      omega
    have elo : fr / (bkN iv : Int) = ((fr.toNat / bkN iv : Nat) : Int) := by
      rw [Int.natCast_ediv]
      congr 1
      omega
    rw [ehi, elo]
    have hlo1 : fr.toNat / bkN iv * bkN iv ≤ fr.toNat := Nat.div_mul_le_self _ _
    have hmn : M ≤ n := by
      rw [← hm]
      unfold rdM
      split
      · omega
      · split <;> omega
    have := l_X11_read96 (iv0 := iv) (av0 := av5) C h (f := f.toNat) (by omega) (fr := fr) (en := fr + M) (by omega) (by omega) (by omega) (by omega) h20 (P := fun r iv' av' => Off LRdi iv iv' ∧ Off LRda av5 av' ∧ 0 ≤ iv' 16 1 ∧ iv' 16 1 ≤ 65536 ∧ 0 ≤ iv' 18 1 ∧ iv' 18 1 ≤ 4096 ∧ RdE iv av5 f fr n r (iv' 0 10) (iv 20 1) (av5 21) (iv' 20 1) (av' 21)) ?_ ((fr + M - 1).toNat / bkN iv + 1 - fr.toNat / bkN iv) (fr.toNat / bkN iv) (up2 (up2 iv 0 10 0) 18 1 0) av5 ?_ (Nat.le_refl _) (f0.up (by decide)) (Off.rf _ _) ?_ ?_ (fun k k1 k2 => absurd k1 (by omega)) h16.1 h16.2 (by rw [up2_ne (by decide), up2_eq]) rfl rfl
    · rw [hff, Nat.sub_self] at this
      exact this
    · intro r iv' av' a1 a2 a3 a4 a5 a6 a7
      refine ⟨a1, a2, a3, a4, a5, a6, Or.inr (Or.inr ?_)⟩
      rw [hm]
      rcases a7 with ⟨b1, b2, b3, b4, b5⟩ | ⟨b1, b2, b3, b4, b5⟩
      · exact Or.inl ⟨nb, by omega, b1, by omega, b5, by omega, fun j hj => b4 j (by omega)⟩
      · exact Or.inr ⟨nb, by omega, b1, b2, b3, b4, b5⟩
    · have : fr.toNat / bkN iv ≤ (fr + M - 1).toNat / bkN iv := Nat.div_le_div_right (by omega)
      omega
    · rw [up2_eq]
      have : ((fr.toNat / bkN iv : Nat) : Int) * (bkN iv : Nat) = ((fr.toNat / bkN iv * bkN iv : Nat) : Int) := by simp
      rw [this]
      omega
    · intro j hj
      rw [up2_eq] at hj
      omega
end SCread2
