/-! What holds of what was put. -/
theorem least {P : Nat → Prop} : ∀ m, P m → ∃ o, o ≤ m ∧ P o ∧ ∀ o', o' < o → ¬ P o' := by
  intro m
  induction m using Nat.strongRecOn with
  | _ m ih =>
    intro h
    by_cases h2 : ∃ o', o' < m ∧ P o'
    · obtain ⟨o', h3, h4⟩ := h2
      obtain ⟨o, a, b, c⟩ := ih o' h3 h4
      exact ⟨o, by omega, b, c⟩
    · exact ⟨m, Nat.le_refl _, h, fun o' h3 h4 => h2 ⟨o', h3, h4⟩⟩
theorem twP (n : Nat → Nat) (B : Nat → Nat → Int) (f : Nat) : TwP n B f (twn n B f) := by
  refine Classical.epsilon_spec (p := fun t => TwP n B f t) ?_
  by_cases h : n f = 0 ∨ ∀ o, o < f → ¬ TwE n B o f
  · exact ⟨-1, Or.inl ⟨rfl, h⟩⟩
  · by_cases h0 : n f = 0
    · exact absurd (Or.inl h0) h
    · by_cases h1 : ∃ o, o < f ∧ TwE n B o f
      · obtain ⟨o, g1, g2⟩ := h1
        obtain ⟨o', a, b, c⟩ := least (P := fun o => TwE n B o f) o g2
        exact ⟨(o' : Int), Or.inr ⟨o', rfl, by omega, h0, b, c⟩⟩
      · exact absurd (Or.inr fun o g1 g2 => h1 ⟨o, g1, g2⟩) h
theorem room_ok {pk : Int} {bs rest f T : Nat} {S : PS} (h : okS bs S f T) (hT : T ≤ 131072) (hbs : bs ≤ 65536) (hr : rest ≤ bs) : okS bs (sRoom pk bs rest S) f T ∧ pN (sRoom pk bs rest S) = pN S ∧ pF (sRoom pk bs rest S) = pF S ∧ (pH (sRoom pk bs rest S)).1 + rest ≤ bs ∧ (pR (sRoom pk bs rest S)).1 + (pH (sRoom pk bs rest S)).1 ≤ (pR S).1 + (pH S).1 ∧ ∀ t n, okG bs S t n → okG bs (sRoom pk bs rest S) t n := by
  have hH : (pH S).1 ≤ bs := h.1.2.2.2
  unfold sRoom
  by_cases hc : bs < (pH S).1 + rest
  · rw [if_pos hc]
    have c := close_N (pk := pk) (S := S)
    refine ⟨h.close hT hbs, c.1, c.2.1, by omega, ?_, fun t n g => g.close (by omega)⟩
    unfold sClose
    by_cases h0 : (pH S).1 = 0
    · rw [if_pos h0]
      exact Nat.le_refl _
    · rw [if_neg h0]
      have := sLen_le pk (pH S).2 (pH S).1
      show (pR S).1 + sLen pk (pH S).2 (pH S).1 + 0 ≤ _
      omega
  · rw [if_neg hc]
    exact ⟨h, rfl, rfl, by omega, Nat.le_refl _, fun _ _ g => g⟩
theorem restOf_pos {fr : Int} {bs n : Nat} (hb : 0 < bs) (h : 0 < restOf fr bs n) : ¬ fr = 0 ∧ restOf fr bs n = n % bs ∧ cntB fr bs n = n / bs ∧ n - n % bs = n / bs * bs := by
  have hdm := Nat.div_add_mod n bs
  have h0 : ¬ fr = 0 := fun h0 => by
    unfold restOf at h
    rw [if_pos h0] at h
    omega
  have e : restOf fr bs n = n % bs := by
    unfold restOf
    rw [if_neg h0]
  have e1 : n - n % bs = bs * (n / bs) := by omega
  refine ⟨h0, e, ?_, by rw [e1, Nat.mul_comm]⟩
  unfold cntB
  rw [e, e1, show bs * (n / bs) + bs - 1 = bs * (n / bs) + (bs - 1) by omega, Nat.mul_add_div hb, Nat.div_eq_of_lt (show bs - 1 < bs by omega), Nat.add_zero]
theorem pJ_file {bs f : Nat} {n : Nat → Nat} {S : PS} {pk fr : Int} {B : Nat → Int} (h : pJ bs n f S) (h1 : 4096 ≤ bs) (h2 : bs ≤ 65536) (hT : sT n (f + 1) ≤ 65536) : pJ bs n (f + 1) (sFile pk fr bs f (n f) B S) := by
  have hb : 0 < bs := by omega
  obtain ⟨m1, m2, m3, m4⟩ := mid_ok (pk := pk) (fr := fr) (B := B) h h1 h2 hT
  have hm := md_mid (S := S) (f := f) (n := n f) (pk := pk) (fr := fr) (B := B) hb h2
  have hr := restOf_lt (fr := fr) (n := n f) hb
  have hT1 : sT n f + n f ≤ 65536 := hT
  have eT : sT n (f + 1) = sT n f + n f := rfl
  unfold sFile
  generalize hS1 : sMid pk fr bs f (n f) B S = S1 at *
  obtain ⟨⟨a1, a2, a3⟩, _, _, ⟨d1, d2, d3, d4, d5, d6, d7, d8⟩, _, _⟩ := hm
  by_cases hr0 : 0 < restOf fr bs (n f)
  · rw [if_pos hr0]
    obtain ⟨q1, q2, q3, q4⟩ := restOf_pos hb hr0
    obtain ⟨r1, r2, r3, r4, r5, r6⟩ := room_ok (pk := pk) (rest := restOf fr bs (n f)) m1 (by omega) h2 (by omega)
    generalize hS2 : sRoom pk bs (restOf fr bs (n f)) S1 = S2 at *
    obtain ⟨⟨s1, s2, s3, s4⟩, s5, s6⟩ := r1
    rw [a2] at r5
    have eH : (pH (sJoin f (restOf fr bs (n f)) (fun i => B (n f - restOf fr bs (n f) + i)) S2)).1 = (pH S2).1 + restOf fr bs (n f) := rfl
    have eF : ∀ t w, (t ≠ f ∨ (w ≠ 4 ∧ w ≠ 5)) → pF (sJoin f (restOf fr bs (n f)) (fun i => B (n f - restOf fr bs (n f) + i)) S2) t w = pF S1 t w := fun t w hc => by
      show stF (stF (pF S2) f 4 (pG S2).1) f 5 (pH S2).1 t w = _
      rw [stF_ne (by omega), stF_ne (by omega), r3]
    have eN : pN (sJoin f (restOf fr bs (n f)) (fun i => B (n f - restOf fr bs (n f) + i)) S2) = pN S1 := r2
    refine ⟨⟨⟨?_, ?_, ?_, ?_⟩, s5, s6⟩, fun t ht => ?_⟩
    · rw [eH]
      show (pR S2).1 + _ ≤ _
      omega
    · rw [eN]
      have := m1.1.2.1
      omega
    · rw [eH, if_neg (by omega)]
      show (pG S2).1 + 1 ≤ f + 1
      omega
    · rw [eH]
      exact r4
    · by_cases htf : t = f
      · subst htf
        refine ⟨?_, ?_⟩
        · obtain ⟨g1, g2, g3, g4, g5, g6⟩ := m4
          unfold okB
          rw [eN, eF t 1 (Or.inr (by omega)), eF t 2 (Or.inr (by omega)), eF t 3 (Or.inr (by omega)), eF t 7 (Or.inr (by omega))]
          exact ⟨g1, g2, g3, g4, g5, g6⟩
        · have e4 : pF (sJoin t (restOf fr bs (n t)) (fun i => B (n t - restOf fr bs (n t) + i)) S2) t 4 = (pG S2).1 := by
            show stF (stF (pF S2) t 4 (pG S2).1) t 5 (pH S2).1 t 4 = _
            rw [stF_ne (Or.inr (by omega)), stF_eq]
          have e5 : pF (sJoin t (restOf fr bs (n t)) (fun i => B (n t - restOf fr bs (n t) + i)) S2) t 5 = (pH S2).1 := by
            show stF (stF (pF S2) t 4 (pG S2).1) t 5 (pH S2).1 t 5 = _
            rw [stF_eq]
          have eG : pG (sJoin t (restOf fr bs (n t)) (fun i => B (n t - restOf fr bs (n t) + i)) S2) = pG S2 := rfl
          unfold okG
          rw [e4, e5, eF t 3 (Or.inr (by omega)), eH, eG, d3, q3]
          rw [q2] at r4 hr0 ⊢
          exact ⟨by omega, Or.inr ⟨by omega, by omega, rfl, hr0, by omega, fun _ => by omega, fun hlt => absurd hlt (by omega)⟩⟩
      · obtain ⟨g1, g2⟩ := m3 t (by omega)
        refine ⟨g1.ext (fun w => eF t w (Or.inl htf)) (by rw [eN]; exact Nat.le_refl _) (fun j _ => by rw [eN]), ?_⟩
        refine (r6 t (n t) g2).ext (fun w => ?_) rfl (by rw [eH]; omega)
        rw [eF t w (Or.inl htf), r3]
  · rw [if_neg hr0]
    obtain ⟨⟨s1, s2, s3, s4⟩, s5, s6⟩ := m1
    refine ⟨⟨⟨by rw [a2]; omega, by omega, by omega, s4⟩, s5, s6⟩, fun t ht => ?_⟩
    by_cases htf : t = f
    · subst htf
      refine ⟨m4, ?_⟩
      unfold okG
      rw [d5, d4, d3]
      refine ⟨Int.le_refl _, Or.inl ⟨rfl, ?_⟩⟩
      unfold cntB
      rw [show restOf fr bs (n t) = 0 by omega, Nat.sub_zero]
    · exact m3 t (by omega)
theorem pJ_share {bs f t : Nat} {n : Nat → Nat} {S : PS} (h : pJ bs n f S) (ht : t < f) (hn : n t = n f) : pJ bs n (f + 1) (sShare f t (n f) S) := by
  obtain ⟨⟨⟨s1, s2, s3, s4⟩, s5, s6⟩, s7⟩ := h
  have eT : sT n (f + 1) = sT n f + n f := rfl
  refine ⟨⟨⟨?_, ?_, ?_, s4⟩, s5, s6⟩, fun t' ht' => ?_⟩
  · show (pR S).1 + (pH S).1 ≤ _
    omega
  · show 4096 * (pN S).1 ≤ _
    omega
  · show (pG S).1 + (if (pH S).1 = 0 then 0 else 1) ≤ _
    omega
  · by_cases he : t' = f
    · subst he
      obtain ⟨g1, g2⟩ := s7 t ht
      rw [hn] at g1 g2
      have eF : ∀ w, pF (sShare t' t (n t') S) t' w = pF S t w := fun w => by
        show (if t' = t' then (if w = 1 then (n t' : Int) else pF S t w) else pF S t' w) = _
        rw [if_pos rfl]
        by_cases hw : w = 1
        · subst hw
          rw [if_pos rfl]
          exact g1.1.symm
        · rw [if_neg hw]
      unfold okB okG at *
      rw [eF 1, eF 2, eF 3, eF 4, eF 5, eF 7]
      exact ⟨g1, g2⟩
    · obtain ⟨g1, g2⟩ := s7 t' (by omega)
      have eF : ∀ w, pF (sShare f t (n f) S) t' w = pF S t' w := fun w => if_neg he
      exact ⟨g1.ext eF (Nat.le_refl _) (fun _ _ => rfl), g2.ext eF rfl (Nat.le_refl _)⟩
theorem pJ_put {bs : Nat} {n : Nat → Nat} {pk fr : Int} {B : Nat → Nat → Int} (h1 : 4096 ≤ bs) (h2 : bs ≤ 65536) : ∀ f, sT n f ≤ 65536 → pJ bs n f (sPut pk fr bs n B f) := by
  intro f
  induction f with
  | zero =>
    intro _
    refine ⟨⟨⟨Nat.le_refl _, Nat.le_refl _, ?_, Nat.zero_le _⟩, fun j hj => absurd hj (Nat.not_lt_zero _), fun j hj => absurd hj (Nat.not_lt_zero _)⟩, fun t ht => absurd ht (Nat.not_lt_zero _)⟩
    show 0 + (if (0 : Nat) = 0 then 0 else 1) ≤ 0
    rw [if_pos rfl]
    exact Nat.le_refl _
  | succ f ih =>
    intro hT
    have eT : sT n (f + 1) = sT n f + n f := rfl
    have hJ := ih (by omega)
    have hw := twP n B f
    simp only [sPut]
    by_cases hneg : twn n B f < 0
    · rw [if_pos hneg]
      exact pJ_file hJ h1 h2 hT
    · rw [if_neg hneg]
      rcases hw with ⟨e, _⟩ | ⟨o, e, g1, g2, g3, g4⟩
      · omega
      · rw [e, Int.toNat_natCast]
        exact pJ_share hJ g1 g3.1
noncomputable def sEnd (pk fr : Int) (bs : Nat) (n : Nat → Nat) (B : Nat → Nat → Int) : PS := sClose pk (sPut pk fr bs n B 64)
theorem pJ_end {bs : Nat} {n : Nat → Nat} {pk fr : Int} {B : Nat → Nat → Int} (h1 : 4096 ≤ bs) (h2 : bs ≤ 65536) (hT : sT n 64 ≤ 65536) : okS bs (sEnd pk fr bs n B) 64 65536 ∧ (pH (sEnd pk fr bs n B)).1 = 0 ∧ ∀ t, t < 64 → okB bs (sEnd pk fr bs n B) t (n t) ∧ okG bs (sEnd pk fr bs n B) t (n t) := by
  obtain ⟨g1, g2⟩ := pJ_put (pk := pk) (fr := fr) (B := B) h1 h2 64 hT
  have c := close_N (pk := pk) (S := sPut pk fr bs n B 64)
  have hH : (pH (sPut pk fr bs n B 64)).1 ≤ bs := g1.1.2.2.2
  unfold sEnd
  refine ⟨?_, c.2.2, fun t ht => ⟨(g2 t ht).1.ext (fun w => by rw [c.2.1]) (by rw [c.1]; exact Nat.le_refl _) (fun j _ => by rw [c.1]), (g2 t ht).2.close (by omega)⟩⟩
  have := g1.close (pk := pk) (by omega) h2
  obtain ⟨⟨s1, s2, s3, s4⟩, s5, s6⟩ := this
  exact ⟨⟨by omega, by omega, s3, s4⟩, s5, s6⟩
/-- and so both sides' facts are as they should be -/
theorem LF_of {iv av : IVt} {bs f n : Nat} {S : PS} (hbs : bkS iv = bs) (hb : 0 < bs) (hn : n ≤ 65536) (oB : okB bs S f n) (oG : okG bs S f n) (e55 : iv 5 5 = (pN S).1) (e56 : iv 5 6 = (pG S).1) (e14 : iv 14 1 = (pH S).1) (eN : ∀ j, j < (pN S).1 → av 7 j = (pN S).2 j) (eG : ∀ j, j < (pG S).1 → av 9 j = (pG S).2.2 j) (eC : ∀ w, 1 ≤ w → w < 8 → av 6 (8 * f + w) = pF S f w) (eR : av 78 f = pF S f 1 ∧ av 79 f = pF S f 2 ∧ av 81 f = pF S f 3 ∧ av 82 f = pF S f 4 ∧ av 83 f = pF S f 5 ∧ av 84 f = pF S f 6 ∧ av 80 f = pF S f 7) : LF iv av f := by
  obtain ⟨b1, b2, b3, b4, b5, b6⟩ := oB
  obtain ⟨g1, g2⟩ := oG
  have e1 := eC 1 (by omega) (by omega)
  have e2 := eC 2 (by omega) (by omega)
  have e3 := eC 3 (by omega) (by omega)
  have e4 := eC 4 (by omega) (by omega)
  have e5 := eC 5 (by omega) (by omega)
  have e6 := eC 6 (by omega) (by omega)
  have e7 := eC 7 (by omega) (by omega)
  have hmd : ((n : Int) % (bs : Int)) = ((n % bs : Nat) : Int) := (Int.natCast_emod n bs).symm
  have hdv : ((n : Int) / (bs : Int)) = ((n / bs : Nat) : Int) := (Int.natCast_ediv n bs).symm
  have hcv : (((n : Int) + (bs : Int) - 1) / (bs : Int)) = (((n + bs - 1) / bs : Nat) : Int) := by
    rw [show (n : Int) + (bs : Int) - 1 = ((n + bs - 1 : Nat) : Int) by omega]
    exact (Int.natCast_ediv _ bs).symm
  have hk : ∀ k : Nat, k < pF S f 3 → k * bs < n := by
    intro k hk
    rcases g2 with ⟨_, h⟩ | ⟨_, _, h, _⟩
    · rw [h] at hk
      have := (Nat.le_div_iff_mul_le (x := k + 1) (y := n + bs - 1) hb).mp (by omega)
      rw [Nat.succ_mul] at this
      omega
    · rw [h] at hk
      have := (Nat.le_div_iff_mul_le (x := k + 1) (y := n) hb).mp (by omega)
      rw [Nat.succ_mul] at this
      omega
  unfold LF
  rw [e1, e2, e3, e4, e5, e6, e7, hbs, e55, e56, e14, b1, hmd, hdv, hcv]
  refine ⟨?_, ⟨by omega, by omega, b2.1, b2.2, b3, b4, b5, g1⟩, ?_, fun k hk2 => ?_⟩
  · rw [b1] at eR
    exact eR
  · refine g2.imp id ?_
    rintro ⟨h1, h2, h3, h4, h5, h6, h7⟩
    refine ⟨h1, h2, h3, by omega, h5, h6, fun hlt => ?_⟩
    rw [eG _ (by omega)]
    exact h7 hlt
  · rw [eN _ (by omega)]
    intro h
    have := b6 k hk2 h
    have hkb := hk k hk2
    unfold due
    rw [hbs, this]
    have : (k : Int) * (bs : Int) = ((k * bs : Nat) : Int) := (Int.natCast_mul k bs).symm
    rw [this]
    omega
