/-! The reference's read: all pieces; the pair of read. -/
section SRread3
variable {Y : Gl} {X : Cx} {e : Nat} {iv av : IVt}
/-- which pieces are needed -/
theorem need_iff {fr en S : Int} {B k : Nat} (hB : 0 < B) (hfr : 0 ≤ fr) (hlt : fr < en) (hS : en ≤ S) : ((k : Int) * B < en ↔ k ≤ (en - 1).toNat / B) ∧ (fr < (k : Int) * B + min (B : Int) (S - k * B) ↔ fr.toNat / B ≤ k ∨ S ≤ k * B ∧ fr < S) := by
  have h1 : k ≤ (en - 1).toNat / B ↔ k * B ≤ (en - 1).toNat := Nat.le_div_iff_mul_le hB
  have h2 : fr.toNat / B < k + 1 ↔ fr.toNat < (k + 1) * B := Nat.div_lt_iff_lt_mul hB
  have e1 : (k : Int) * B = ((k * B : Nat) : Int) := by simp
  have e2 : (k + 1) * B = k * B + B := by rw [Nat.add_mul, Nat.one_mul]
  rw [e1]
  omega
theorem pc_c {iv av : IVt} {f k : Nat} {c : Nat → Int} (h : pc iv av f k = some c) {B : Nat} (hB : bkN iv = B) {q : Nat} (hq : q / B = k) : fB iv av f q = c (q % B) := by
  unfold fB
  rw [hB, hq, h]
theorem l_X13_layAll (C : CX Y X RX13 "layAll" cX13_layAll 9 (some .boolean) (e + 5) 0 0) {iv0 av0 : IVt} (h : RfH iv0 av0) {f : Nat} (hf : f < 64) {fr en : Int} (hfr : 0 ≤ fr) (hlt : fr < en) (h4096 : en - fr ≤ 4096) (hS : en ≤ av0 6 (8 * f + 1)) (h28 : iv0 73 28 = 0) {P : PN}
    (hP : ∀ (r : Int) iv' av', OffM LMi LTj iv0 iv' → Off [91, 92, 100, 105, 110, 112, 114, 115] av0 av' → iv' 73 25 = iv0 73 25 →
      ((rdOk iv0 av0 f (fr.toNat / bkN iv0) ((en - 1).toNat / bkN iv0) ∧ r = 1 ∧ (∀ j : Nat, j < en - fr → av' 91 j = fB iv0 av0 f (fr.toNat + j)) ∧ iv' 73 28 = tkS (pcT av0 f) (fr.toNat / bkN iv0) ((en - 1).toNat / bkN iv0 + 1 - fr.toNat / bkN iv0)) ∨
       (¬ rdOk iv0 av0 f (fr.toNat / bkN iv0) ((en - 1).toNat / bkN iv0) ∧ r = 0)) → P r iv' av') :
    ∀ (m k : Nat) (iv av : IVt), (k : Int) + m = av0 6 (8 * f + 3) → OffM LMi LTj iv0 iv → Off [91, 92, 100, 105, 110, 112, 114, 115] av0 av → iv 73 25 = iv0 73 25 → (∀ j : Nat, j < en - fr → fr + j < k * bkN iv0 → av 91 j = fB iv0 av0 f (fr.toNat + j)) → (∀ k', fr.toNat / bkN iv0 ≤ k' → k' < k → k' ≤ (en - 1).toNat / bkN iv0 → pc iv0 av0 f k' ≠ none) → iv 73 28 = tkS (pcT av0 f) (fr.toNat / bkN iv0) (min k ((en - 1).toNat / bkN iv0 + 1) - fr.toNat / bkN iv0) →
    L_X13_layAll_11 Y X P f fr en (bBeg av0 f k) k iv av := by
  have hh := h
  obtain ⟨h0, h1, h2, h3, h4, h5, h6⟩ := h
  have hb := bk_in h0
  have eb := bkS_eq iv0
  obtain ⟨hz, hfo, has⟩ := h0.2.2.2.2.2.1 f hf
  have hl := h0.1
  have hnn := h0.2.1
  have hfrn := h0.2.2.1
  have hnum := h0.2.2.2.1
  have hfrag := h0.2.2.2.2.1
  have hbb := bBeg_in hz.2.2.1 hz.2.2.2.1
  have hthere : ∀ {k : Nat}, (k : Int) * bkN iv0 < av0 6 (8 * f + 1) → _ := fun hk => pc_there h0 hf hk
  have hdue : ∀ k : Int, due iv0 (av0 6 (8 * f + 1)) k = min (bkS iv0) (av0 6 (8 * f + 1) - k * bkS iv0) := fun k => rfl
  generalize hBe : bkN iv0 = B at *
  have hneed := fun k : Nat => need_iff (k := k) (show 0 < B by omega) hfr hlt hS
  generalize hlo : fr.toNat / B = lo at *
  generalize hhi : (en - 1).toNat / B = hi at *
  have htk := tkS_in (pcT_in av0 f) lo
  have hlo1 : lo * B ≤ fr.toNat := by rw [← hlo]; exact Nat.div_mul_le_self _ _
  have hlohi : lo ≤ hi := by
    rw [← hlo, ← hhi]
    exact Nat.div_le_div_right (by omega)
  have hhi1 : hi * B ≤ (en - 1).toNat := by rw [← hhi]; exact Nat.div_mul_le_self _ _
  have hhi16 : hi ≤ 16 := by
    by_cases hh : hi ≤ 16
    · exact hh
    · have : 17 * 4096 ≤ hi * B := Nat.mul_le_mul (by omega) hb.1
      omega
  have hdiv : ∀ (q k : Nat), k * B ≤ q → q < k * B + B → q / B = k ∧ q % B = q - k * B := by
    intro q k g1 g2
    have hq : q = B * k + (q - k * B) := by rw [Nat.mul_comm B k]; omega
    constructor
    · rw [hq, Nat.mul_add_div (by omega), Nat.div_eq_of_lt (by omega)]
      omega
    · have e1 : q % B = (B * k + (q - k * B)) % B := by rw [← hq]
      rw [e1, Nat.mul_add_mod, Nat.mod_eq_of_lt (by omega)]
  intro m
  induction m with
  | zero =>
    intro k iv av g1 g2 g3 g4 g5 g6 g7
    have hR := hh.of g2 (g3.mono (by decide))
    have e78 : av 78 f = av0 6 (8 * f + 1) := by rw [g3 78 (by decide)]; exact (h6 f hf).1
    have e81 : av 81 f = av0 6 (8 * f + 3) := by rw [g3 81 (by decide)]; exact (h6 f hf).2.2.2.1
    have e82 : av 82 f = av0 6 (8 * f + 4) := by rw [g3 82 (by decide)]; exact (h6 f hf).2.2.2.2.1
    have e6 : iv 73 6 = (B : Int) := by rw [g2.2 6 (by decide), h1, eb]
    have hSB := Int.emod_add_mul_ediv (av0 6 (8 * f + 1)) (B : Int)
    have hSm0 := Int.emod_nonneg (av0 6 (8 * f + 1)) (show (B : Int) ≠ 0 by omega)
    have hSm1 := Int.emod_lt_of_pos (av0 6 (8 * f + 1)) (show (0 : Int) < B by omega)
    -- all is laid
    have fin : ∀ {iv2 av2 : IVt}, OffM LMi LTj iv0 iv2 → Off [91, 92, 100, 105, 110, 112, 114, 115] av0 av2 → iv2 73 25 = iv0 73 25 → (∀ j : Nat, j < en - fr → av2 91 j = fB iv0 av0 f (fr.toNat + j)) → (∀ k', lo ≤ k' → k' ≤ hi → pc iv0 av0 f k' ≠ none) → iv2 73 28 = tkS (pcT av0 f) lo (hi + 1 - lo) → L_X13_layAll_256 Y X P iv2 av2 := by
      intro iv2 av2 b1 b2 b3 b4 b5 b6
      exact w_X13_layAll_256 C (hP 1 iv2 av2 b1 b2 b3 (Or.inl ⟨fun k' q1 q2 => b5 k' q1 q2, rfl, b4, b6⟩))
    have done : hi < k → L_X13_layAll_256 Y X P iv av := by
      intro hik
      have hkB : en ≤ (k : Int) * B := by
        have := (hneed k).1
        omega
      refine fin g2 g3 g4 (fun j hj => g5 j hj (by omega)) (fun k' q1 q2 => g6 k' q1 (by omega) q2) ?_
      rw [g7, show min k (hi + 1) = hi + 1 by omega]
    refine w_X13_layAll_11 C (by omega) (by omega) (by omega) ⟨by omega, ?_⟩
    rw [Int.toNat_natCast, e81, e78, e82, e6]
    refine fun _ => ⟨fun _ _ _ => ⟨by omega, by omega, fun _ => ⟨fun hneg => done ?_, fun hnn0 => ⟨by omega, fun hle => done ?_, fun hgt => ⟨fun hle2 => absurd hle2 (by omega), fun hgt2 => ?_⟩⟩⟩⟩, fun h => absurd h (by omega)⟩
    · have hk : ¬ (k : Int) * B < en := by
        intro hk
        rcases hthere (k := k) (by omega) with q | q
        · omega
        · omega
      have := (hneed k).1
      omega
    · rw [eb] at hfo
      have hkd : (k : Int) = av0 6 (8 * f + 1) / B := by
        rcases hfo with q | q
        · omega
        · omega
      have hk : ¬ (k : Int) * B < en := by
        rw [hkd, Int.mul_comm]
        omega
      have := (hneed k).1
      omega
    · -- the rest
      rw [eb] at hfo
      obtain ⟨y1, y2, y3, y4, y5, y6⟩ := hfo.resolve_left (fun h => hnn0 (by omega))
      have hkd : (k : Int) = av0 6 (8 * f + 1) / B := by omega
      have hkB : (k : Int) * B = av0 6 (8 * f + 1) - av0 6 (8 * f + 1) % B := by
        rw [hkd, Int.mul_comm]
        omega
      have hkn : ((k * B : Nat) : Int) = (k : Int) * B := by simp
      have hkhi : k = hi := by
        have a1 := (hneed k).1
        have a2 := (hneed (k + 1)).1
        have : ((k + 1 : Nat) : Int) * B = (k : Int) * B + B := by
          rw [show ((k + 1 : Nat) : Int) = (k : Int) + 1 by omega, Int.add_mul, Int.one_mul]
        omega
      obtain ⟨q1, q2, q3, q4, q5, q6⟩ := (hthere (k := k) (by omega)).resolve_left (by omega)
      rw [eb] at q4
      have hfg := hfrag (av0 6 (8 * f + 4)).toNat (by omega)
      have e86 : av 86 (av0 6 (8 * f + 4)).toNat = av0 8 (av0 6 (8 * f + 4)).toNat := by rw [g3 86 (by decide)]; exact (h5 _ (by omega)).1
      have e87 : av 87 (av0 6 (8 * f + 4)).toNat = av0 9 (av0 6 (8 * f + 4)).toNat := by rw [g3 87 (by decide)]; exact (h5 _ (by omega)).2
      rw [e86, e87]
      have ht := htk (min k (hi + 1) - lo)
      refine ⟨by omega, fun _ _ => OkN.mono (s_X13_take hR hfg.2.2.1 hfg.2.2.2 hfg.1 (by omega) (by omega)) ?_⟩
      rintro r iv2 av2 hR2 ⟨b1, b2, b3, b4, b5⟩ hr2
      have f2 : OffM LMi LTj iv0 iv2 := g2.tr b1
      have a2 : Off [91, 92, 100, 105, 110, 112, 114, 115] av0 av2 := g3.tr (b2.mono (by decide))
      have e83 : av2 83 f = av0 6 (8 * f + 5) := by rw [a2 83 (by decide)]; exact (h6 f hf).2.2.2.2.2
      have epc : pc iv0 av0 f k = blkC (av0 13) (iv0 12 1) (av0 9 (av0 6 (8 * f + 4)).toNat) (av0 8 (av0 6 (8 * f + 4)).toNat) ((av0 6 (8 * f + 5)).toNat + (av0 6 (8 * f + 1) % B).toNat) B (av0 6 (8 * f + 5)).toNat := by
        unfold pc pcB
        rw [if_neg (by omega), if_neg (by omega), q4, hBe]
      have epT : pcT av0 f k = 1 := by
        unfold pcT pcB
        rw [if_neg (by omega)]
      have e12 : iv 12 1 = iv0 12 1 := by rw [g2.1 12 (by decide) (by decide)]
      have e13 : av 13 = av0 13 := g3 13 (by decide)
      have eBv : bkN iv = B := by rw [← hBe]; unfold bkN; rw [g2.1 5 (by decide) (by decide)]
      rw [e12, e13, eBv] at b5
      have z8 := hz.2.2.2.2.2.2.2
      -- what was taken
      have hcase : (pc iv0 av0 f k = none ∧ r < av0 6 (8 * f + 5) + av0 6 (8 * f + 1) % B) ∨ (av0 6 (8 * f + 5) + av0 6 (8 * f + 1) % B ≤ r ∧ ∃ c, pc iv0 av0 f k = some c ∧ ∀ j : Nat, j < av0 6 (8 * f + 1) % B → av2 92 ((av0 6 (8 * f + 5)).toNat + j) = c j) := by
        rcases b5 with ⟨c1, c2⟩ | ⟨c1, c2, c3, c4⟩ | ⟨c1, c2, c3⟩
        · refine Or.inl ⟨?_, by omega⟩
          rw [epc]
          unfold blkC
          rw [if_neg (by omega), if_pos (by omega)]
        · refine Or.inr ⟨by have := q6 c2; omega, fun j => av0 13 ((av0 8 (av0 6 (8 * f + 4)).toNat).toNat + (av0 6 (8 * f + 5)).toNat + j), ?_, fun j hj => ?_⟩
          · rw [epc]
            unfold blkC
            rw [if_neg (by omega), if_neg (by omega), if_pos c2]
          · rw [c4 _ (by have := q6 c2; omega)]
            exact congrArg (av0 13) (by omega)
        · rcases c3 with ⟨c3, c4⟩ | ⟨o, c3, c4, c5⟩
          · refine Or.inl ⟨?_, by omega⟩
            rw [epc]
            unfold blkC
            rw [if_neg (by omega), if_neg (by omega), if_neg (by omega), c4]
          · by_cases hless : o.1 < (av0 6 (8 * f + 5)).toNat + (av0 6 (8 * f + 1) % B).toNat
            · refine Or.inl ⟨?_, by omega⟩
              rw [epc]
              unfold blkC
              rw [if_neg (by omega), if_neg (by omega), if_neg (by omega), c4]
              dsimp only
              rw [if_pos hless]
            · refine Or.inr ⟨by omega, fun j => o.2 ((av0 6 (8 * f + 5)).toNat + j), ?_, fun j hj => c5 _ (by omega)⟩
              rw [epc]
              unfold blkC
              rw [if_neg (by omega), if_neg (by omega), if_neg (by omega), c4]
              dsimp only
              rw [if_neg hless]
      rw [e83]
      refine fun _ => ⟨by omega, fun hge => ⟨by omega, ?_⟩, fun hlt2 => ?_⟩
      · obtain ⟨_, c, d1, d2⟩ := hcase.resolve_left (fun h => absurd h.2 (by omega))
        clear hcase b5
        have hlay := s_X13_lay (Y := Y) (e := e + 4) (iv := iv2) (av := av2) (first := av0 6 (8 * f + 1) - av0 6 (8 * f + 1) % B) (off := av0 6 (8 * f + 5)) (n := av0 6 (8 * f + 1) % B) (fr := fr) (en := en) (z := false) (by omega) (by omega) (by omega) (by omega) (by omega) (by omega) h4096
        refine OkN.mono hlay ?_
        rintro r3 iv3 av3 hR3 ⟨rfl, rfl⟩
        refine fin f2 (a2.upA (by decide)) (by rw [b3]; exact g4) (fun j hj => ?_) (fun k' q1 q2 => ?_) ?_
        · rw [upA_eq]
          unfold layD
          by_cases hjk : fr + j < (k : Int) * B
          · rw [if_neg (by omega), b2 91 (by decide)]
            exact g5 j hj hjk
          · rw [if_pos (by omega)]
            have hq := hdiv (fr.toNat + j) k (by omega) (by omega)
            rw [pc_c d1 hBe hq.1, hq.2, ← d2 _ (by omega)]
            exact congrArg (av2 92) (by omega)
        · by_cases hkk : k' = k
          · rw [hkk, d1]
            exact fun h => by simp at h
          · exact g6 k' q1 (by omega) q2
        · rw [b4, g7, show min k (hi + 1) = k by omega, ← epT, show hi + 1 - lo = (k - lo) + 1 by omega]
          show _ = tkS (pcT av0 f) lo (k - lo) + pcT av0 f (lo + (k - lo))
          rw [show lo + (k - lo) = k by omega]
      · have d1 := (hcase.resolve_right (fun h => absurd h.1 hlt2)).1
        exact hP 0 iv2 av2 f2 a2 (by rw [b3]; exact g4) (Or.inr ⟨fun hok => hok k (by omega) (by omega) d1, rfl⟩)
  | succ m ih =>
    intro k iv av g1 g2 g3 g4 g5 g6 g7
    have hR := hh.of g2 (g3.mono (by decide))
    have e78 : av 78 f = av0 6 (8 * f + 1) := by rw [g3 78 (by decide)]; exact (h6 f hf).1
    have e80 : av 80 f = av0 6 (8 * f + 7) := by rw [g3 80 (by decide)]; exact (h6 f hf).2.2.1
    have e81 : av 81 f = av0 6 (8 * f + 3) := by rw [g3 81 (by decide)]; exact (h6 f hf).2.2.2.1
    have e6 : iv 73 6 = (B : Int) := by rw [g2.2 6 (by decide), h1, eb]
    have e85 : av 85 ((av0 6 (8 * f + 7)).toNat + k) = av0 7 ((av0 6 (8 * f + 7)).toNat + k) := by rw [g3 85 (by decide)]; exact h4 _ (by omega)
    have hkS : (k : Int) * B < av0 6 (8 * f + 1) := by
      rw [eb] at hfo
      have hB0 : (0 : Int) < B := by omega
      rcases hfo with q | q
      · have hk : (k : Int) + 1 ≤ (av0 6 (8 * f + 1) + B - 1) / B := by omega
        have h1 := Int.mul_le_mul_of_nonneg_right hk (Int.le_of_lt hB0)
        have h2 := Int.ediv_mul_le (av0 6 (8 * f + 1) + B - 1) (Int.ne_of_gt hB0)
        rw [Int.add_mul, Int.one_mul] at h1
        omega
      · have hk : (k : Int) + 1 ≤ av0 6 (8 * f + 1) / B := by omega
        have h1 := Int.mul_le_mul_of_nonneg_right hk (Int.le_of_lt hB0)
        have h2 := Int.ediv_mul_le (av0 6 (8 * f + 1)) (Int.ne_of_gt hB0)
        rw [Int.add_mul, Int.one_mul] at h1
        omega
    have hkB0 : (0 : Int) ≤ (k : Int) * B := Int.mul_nonneg (by omega) (by omega)
    have hkn : ((k * B : Nat) : Int) = (k : Int) * B := by simp
    have hk1B : ((k + 1 : Nat) : Int) * B = (k : Int) * B + B := by
      rw [show ((k + 1 : Nat) : Int) = (k : Int) + 1 by omega, Int.add_mul, Int.one_mul]
    have hdk := hdue k
    rw [eb] at hdk
    have hnumk := hnum ((av0 6 (8 * f + 7)).toNat + k) (by omega)
    have hbbk := hbb k
    have epB : pcB av0 f k = av0 7 ((av0 6 (8 * f + 7)).toNat + k) := by unfold pcB; rw [if_pos (by omega)]
    have epc : pc iv0 av0 f k = blkC (av0 13) (iv0 12 1) (av0 7 ((av0 6 (8 * f + 7)).toNat + k)) (bBeg av0 f k) (due iv0 (av0 6 (8 * f + 1)) k).toNat (due iv0 (av0 6 (8 * f + 1)) k).toNat 0 := by
      unfold pc
      rw [if_pos (by omega), epB]
    have n1 := (hneed k).1
    have n2 := (hneed k).2
    have n1' := (hneed (k + 1)).1
    -- the next block
    have next : ∀ {iv2 av2 : IVt}, OffM LMi LTj iv0 iv2 → Off [91, 92, 100, 105, 110, 112, 114, 115] av0 av2 → iv2 73 25 = iv0 73 25 → (∀ j : Nat, j < en - fr → fr + j < ((k + 1 : Nat) : Int) * B → av2 91 j = fB iv0 av0 f (fr.toNat + j)) → (lo ≤ k → k ≤ hi → pc iv0 av0 f k ≠ none) → iv2 73 28 = tkS (pcT av0 f) lo (min (k + 1) (hi + 1) - lo) → L_X13_layAll_137 Y X P f fr en (bBeg av0 f k) k (av0 7 ((av0 6 (8 * f + 7)).toNat + k)) iv2 av2 := by
      intro iv2 av2 b1 b2 b3 b4 b5 b6
      refine w_X13_layAll_137 C ?_
      rw [show (k : Int) + 1 = ((k + 1 : Nat) : Int) by omega]
      refine ih (k + 1) iv2 av2 (by omega) b1 b2 b3 b4 (fun k' q1 q2 q3 => ?_) b6
      by_cases hkk : k' = k
      · rw [hkk] at q1 q3 ⊢
        exact b5 q1 q3
      · exact g6 k' q1 (by omega) q3
    generalize hb7 : av0 7 ((av0 6 (8 * f + 7)).toNat + k) = b at *
    generalize hdd : due iv0 (av0 6 (8 * f + 1)) k = D at *
    have go81 : L_X13_layAll_81 Y X P f fr en (bBeg av0 f k) k ((k : Int) * B) b D iv av := by
      have ht := htk (min k (hi + 1) - lo)
      -- laying what was taken
      have lay : ∀ (iv2 av2 : IVt), lo ≤ k → k ≤ hi → OffM LMi LTj iv0 iv2 → Off [91, 92, 100, 105, 110, 112, 114, 115] av0 av2 → av2 91 = av 91 → iv2 73 25 = iv0 73 25 → iv2 73 28 = iv 73 28 + pcT av0 f k → (∃ c, pc iv0 av0 f k = some c ∧ ∀ j : Nat, j < D → (if b = 0 then 0 else av2 92 j) = c j) → L_X13_layAll_116 Y X P f fr en (bBeg av0 f k) k ((k : Int) * B) b D iv2 av2 := by
        intro iv2 av2 l1 l2 b1 b2 b2' b3 b4 ⟨c, d1, d2⟩
        have fin : ∀ (z : Bool) (av3 : IVt), (z = true ↔ b = 0) → av3 = upA av2 91 (layD (av2 91) (av2 92) ((k : Int) * B) 0 D fr en z) → L_X13_layAll_137 Y X P f fr en (bBeg av0 f k) k b iv2 av3 := by
          rintro z av3 hzb rfl
          refine next b1 (b2.upA (by decide)) b3 (fun j hj hjk => ?_) (fun _ _ => by rw [d1]; exact fun h => by simp at h) ?_
          · rw [upA_eq]
            unfold layD
            by_cases hjk2 : fr + j < (k : Int) * B
            · rw [if_neg (by omega), b2']
              exact g5 j hj hjk2
            · rw [if_pos (by omega)]
              have hq := hdiv (fr.toNat + j) k (by omega) (by omega)
              rw [pc_c d1 hBe hq.1, hq.2, ← d2 _ (by omega)]
              by_cases hbz : b = 0
              · rw [if_pos hbz, if_pos (hzb.mpr hbz)]
              · rw [if_neg hbz, if_neg (fun h => hbz (hzb.mp h))]
                exact congrArg (av2 92) (by omega)
          · rw [b4, g7, show min k (hi + 1) = k by omega, show min (k + 1) (hi + 1) = k + 1 by omega, show k + 1 - lo = (k - lo) + 1 by omega]
            show _ = tkS (pcT av0 f) lo (k - lo) + pcT av0 f (lo + (k - lo))
            rw [show lo + (k - lo) = k by omega]
        refine w_X13_layAll_116 C (by omega) (by omega) (by omega) (by omega) (by omega) ⟨fun hnz => OkN.mono (s_X13_lay (z := false) (by omega) (by omega) (by omega) (by omega) (by omega) (by omega) h4096) ?_, fun hz0 => OkN.mono (s_X13_lay (z := true) (by omega) (by omega) (by omega) (by omega) (by omega) (by omega) h4096) ?_⟩
        · rintro r3 iv3 av3 hR3 ⟨rfl, hav⟩
          exact fin false av3 ⟨fun h => (Bool.noConfusion h), fun h => absurd h hnz⟩ hav
        · rintro r3 iv3 av3 hR3 ⟨rfl, hav⟩
          exact fin true av3 ⟨fun _ => hz0, fun _ => rfl⟩ hav
      have skip : ¬ (lo ≤ k ∧ k ≤ hi) → L_X13_layAll_137 Y X P f fr en (bBeg av0 f k) k b iv av := by
        intro hno
        refine next g2 g3 g4 (fun j hj hjk => g5 j hj ?_) (fun q1 q2 => absurd ⟨q1, q2⟩ hno) ?_
        · by_cases hk1 : lo ≤ k
          · have := n1
            omega
          · have : fr < ((k + 1 : Nat) : Int) * B → lo ≤ k := by
              intro hlt2
              rw [← hlo]
              have := (Nat.div_lt_iff_lt_mul (x := fr.toNat) (y := k + 1) (show 0 < B by omega)).mpr (by
                have : ((((k + 1) * B : Nat)) : Int) = ((k + 1 : Nat) : Int) * B := by simp
                omega)
              omega
            omega
        · rw [g7]
          congr 1
          omega
      refine w_X13_layAll_81 C (by omega) (by omega) (by omega) (by omega) (by omega) (by omega) ⟨fun hle => skip (by omega), fun hgt => ⟨by omega, fun hle2 => skip (by omega), fun hgt2 => ⟨fun hz0 => ?_, fun hnz => OkN.mono (s_X13_take hR (b := b) (by omega) (by omega) hbbk.1 (by omega) (by omega)) ?_⟩⟩⟩
      · have hneedk : lo ≤ k ∧ k ≤ hi := by omega
        refine lay iv av hneedk.1 hneedk.2 g2 g3 rfl g4 ?_ ⟨fun _ => 0, ?_, fun j hj => if_pos hz0⟩
        · unfold pcT
          rw [epB, if_pos hz0]
          omega
        · rw [epc]
          unfold blkC
          rw [if_pos hz0]
      · have hneedk : lo ≤ k ∧ k ≤ hi := by omega
        rintro r iv2 av2 hR2 ⟨b1, b2, b3, b4, b5⟩ hr2
        have f2 : OffM LMi LTj iv0 iv2 := g2.tr b1
        have a2 : Off [91, 92, 100, 105, 110, 112, 114, 115] av0 av2 := g3.tr (b2.mono (by decide))
        have e12 : iv 12 1 = iv0 12 1 := by rw [g2.1 12 (by decide) (by decide)]
        have e13 : av 13 = av0 13 := g3 13 (by decide)
        have eBv : bkN iv = B := by rw [← hBe]; unfold bkN; rw [g2.1 5 (by decide) (by decide)]
        rw [e12, e13, eBv] at b5
        have epT : pcT av0 f k = 1 := by unfold pcT; rw [epB, if_neg hnz]
        have hasD : 16777216 ≤ b → b - 16777216 = D := fun hb1 => by
          have := has k (by omega)
          rw [hb7, hdd] at this
          exact this hb1
        have hcase : (pc iv0 av0 f k = none ∧ r ≠ D) ∨ (r = D ∧ ∃ c, pc iv0 av0 f k = some c ∧ ∀ j : Nat, j < D → av2 92 j = c j) := by
          rcases b5 with ⟨c1, c2⟩ | ⟨c1, c2, c3, c4⟩ | ⟨c1, c2, c3⟩
          · refine Or.inl ⟨?_, by omega⟩
            rw [epc]
            unfold blkC
            rw [if_neg hnz, if_pos (by omega)]
          · have := hasD c2
            refine Or.inr ⟨by omega, fun j => av0 13 ((bBeg av0 f k).toNat + 0 + j), ?_, fun j hj => ?_⟩
            · rw [epc]
              unfold blkC
              rw [if_neg hnz, if_neg (by omega), if_pos c2]
            · rw [c4 _ (by omega)]
              exact congrArg (av0 13) (by omega)
          · have espec : pc iv0 av0 f k = (match unpackF (BB (av0 13) (bBeg av0 f k).toNat (8 * b.toNat)) (8 * b.toNat) D.toNat with
                | none => none
                | some o => if o.1 < D.toNat then none else some (fun j => o.2 (0 + j))) := by
              rw [epc]
              unfold blkC
              rw [if_neg hnz, if_neg (by omega), if_neg (by omega)]
              rfl
            cases hu : unpackF (BB (av0 13) (bBeg av0 f k).toNat (8 * b.toNat)) (8 * b.toNat) D.toNat with
            | none =>
              rw [hu] at espec
              refine Or.inl ⟨espec, ?_⟩
              rcases c3 with ⟨c3, c4⟩ | ⟨o, c3, c4, c5⟩
              · omega
              · intro hrD
                have := (unpackF_more c4).2 D.toNat (by omega)
                rw [hu] at this
                simp at this
            | some o1 =>
              rw [hu] at espec
              dsimp only at espec
              obtain ⟨m1, m2⟩ := unpackF_more hu
              have hbig := m2 B (by omega)
              rcases c3 with ⟨c3, c4⟩ | ⟨o, c3, c4, c5⟩
              · rw [hbig] at c4
                simp at c4
              · rw [hbig] at c4
                have ho : o1 = o := Option.some.inj c4
                subst ho
                by_cases hless : o1.1 < D.toNat
                · rw [if_pos hless] at espec
                  exact Or.inl ⟨espec, by omega⟩
                · rw [if_neg hless] at espec
                  refine Or.inr ⟨by omega, _, espec, fun j hj => ?_⟩
                  rw [c5 j (by omega)]
                  exact congrArg o1.2 (by omega)
        refine ⟨fun hrD => ?_, fun hrD => ?_⟩
        · obtain ⟨_, c, d1, d2⟩ := hcase.resolve_left (fun h => h.2 hrD)
          clear hcase b5
          exact lay iv2 av2 hneedk.1 hneedk.2 f2 a2 (b2 91 (by decide)) (by rw [b3]; exact g4) (by rw [b4, epT]) ⟨c, d1, fun j hj => by rw [if_neg hnz]; exact d2 j hj⟩
        · have d1 := (hcase.resolve_right (fun h => hrD h.1)).1
          exact hP 0 iv2 av2 f2 a2 (by rw [b3]; exact g4) (Or.inr ⟨fun hok => hok k hneedk.1 hneedk.2 d1, rfl⟩)
    refine w_X13_layAll_11 C (by omega) (by omega) (by omega) ⟨by omega, ?_⟩
    rw [Int.toNat_natCast, e81, e78, e80, e6]
    refine fun _ => ⟨fun h => absurd h (by omega), fun _ _ _ => ⟨by omega, ?_⟩⟩
    rw [show (av0 6 (8 * f + 7) + (k : Int)).toNat = (av0 6 (8 * f + 7)).toNat + k by omega, e85]
    refine fun _ _ => ⟨by omega, fun hle => ?_, fun hgt => ?_⟩
    · have : (B : Int) = D := by omega
      rw [this] at go81 ⊢
      exact go81
    · have : av0 6 (8 * f + 1) - (k : Int) * B = D := by omega
      rw [this]
      exact go81
end SRread3
