/-! The reference's unpacking: made parts. -/
theorem ak_115 : ArrK 100 115 := ⟨rfl, by decide⟩
theorem ak_100 : ArrK 100 100 := ⟨rfl, by decide⟩
abbrev LMi : List Nat := [109, 111, 113]
abbrev LMa : List Nat := [105, 110, 112, 114, 115]
section SRmade
variable {Y : Gl} {X : Cx} {e : Nat} {iv av : IVt} {fr N p room : Nat} {w : Int} {o : Outp}
theorem RS.offm {iv' : IVt} (h : RS iv fr N p w) {L J : List Nat} (e : OffM L J iv iv') (hJ : 53 ∉ J ∧ 54 ∉ J ∧ 55 ∉ J ∧ 56 ∉ J ∧ 57 ∉ J) : RS iv' fr N p w := h.of (e.2 53 hJ.1) (e.2 54 hJ.2.1) (e.2 55 hJ.2.2.1) (e.2 56 hJ.2.2.2.1) (e.2 57 hJ.2.2.2.2)
/-- a made part's end -/
def RM (iv0 av0 iv' av' : IVt) (fr N : Nat) (d : Option (Nat × (Nat → Int) × (Nat → Int))) (w : Int) : Prop :=
  OffM LMi [56, 57] iv0 iv' ∧ Off LMa av0 av' ∧ ((w = 0 ∧ ∃ p' fS fD, d = some (p', fS, fD) ∧ RS iv' fr N p' 0 ∧ TR av' 109 fS 288 ∧ TR av' 111 fD 32) ∨ ((w = 1 ∨ d = none) ∧ ∃ q, RS iv' fr N q 1))
theorem l_X13_rm_wrong (C : CX Y X RX13 "readMade" cX13_readMade 8 none (e + 2) 0 0) {iv0 av0 : IVt} {P : PN} (hP : ∀ iv' av', OffM LMi [56, 57] iv0 iv' → Off LMa av0 av' → (∃ q, RS iv' fr N q 1) → P 0 iv' av') {h d : Nat} (hh : h ≤ 1000) (hd : d ≤ 1000) {iv av : IVt} (hoff : OffM LMi [56, 57] iv0 iv) (ha : Off LMa av0 av) {q : Nat} (hRS : RS iv fr N q 1) :
    L_X13_readMade_425 Y X P iv av ∧ L_X13_readMade_346 Y X P h d 0 iv av ∧ (∀ a : Nat, a ≤ 1000 → L_X13_readMade_139 Y X P h d a iv av) ∧ (∀ (a : Nat) (s t x : Int), a ≤ 1000 → InR s → InR t → InR x → L_X13_readMade_278 Y X P h d a s t x iv av) := by
  have h5 := hRS.2.2.2.2.1
  have r425 : L_X13_readMade_425 Y X P iv av := w_X13_readMade_425 C fun _ => ⟨fun _ => w_X13_readMade_491 C (hP _ _ (hoff.up (by decide)) ha ⟨q, hRS.wr (Or.inr rfl)⟩), fun h => absurd h (by omega)⟩
  have r346 : L_X13_readMade_346 Y X P h d 0 iv av := w_X13_readMade_346 C (by omega) (by omega) (by omega) ⟨fun h => absurd h (by omega), fun _ _ => ⟨fun _ => r425, fun h => absurd h (by omega)⟩⟩
  have r139 : ∀ a : Nat, a ≤ 1000 → L_X13_readMade_139 Y X P h d a iv av := fun a ha => w_X13_readMade_139 C (by omega) ⟨by omega, fun _ => r346, fun _ _ => ⟨fun _ => r346, fun h => absurd h (by omega)⟩⟩
  exact ⟨r425, r346, r139, fun a s t x ha hs ht hx => w_X13_readMade_278 C hs ht hx ⟨fun _ => r139 a ha, fun _ _ => ⟨fun _ => r139 a ha, fun h => absurd h (by omega)⟩⟩⟩
theorem l_X13_rm425 (C : CX Y X RX13 "readMade" cX13_readMade 8 none (e + 2) 0 0) {iv0 av0 : IVt} {h d : Nat} {row : Nat → Int} (hrow : ∀ j, j < h + d → 0 ≤ row j ∧ row j ≤ 15) {P : PN} {q : Nat}
    (hP : ∀ iv' av', OffM LMi [56, 57] iv0 iv' → Off LMa av0 av' → ((codeC h d row ∧ ∃ q, RS iv' fr N q 1) ∨ (¬ codeC h d row ∧ RS iv' fr N q 0 ∧ TR av' 109 (fSy h row) 288 ∧ TR av' 111 (fDi h d row) 32)) → P 0 iv' av')
    (hoff : OffM LMi [56, 57] iv0 iv) (ha : Off LMa av0 av) (hRS : RS iv fr N q 0) (hl : ∀ k, k < 288 → av 115 k = fSy h row k) (hl2 : ∀ k, k < 32 → av 115 (288 + k) = fDi h d row k) : L_X13_readMade_425 Y X P iv av := by
  have h5 := hRS.2.2.2.2.1
  have hq0 : ((0 : Int) ≠ 0) ↔ False := ⟨fun h => h rfl, fun h => h.elim⟩
  have hq1 : ((1 : Int) ≠ 0) ↔ True := ⟨fun _ => trivial, fun _ => by decide⟩
  have hS15 : ∀ k, 0 ≤ fSy h row k ∧ fSy h row k ≤ 15 := fun k => by
    unfold fSy
    split
    · exact hrow k (by omega)
    · omega
  have hD15 : ∀ k, 0 ≤ fDi h d row k ∧ fDi h d row k ≤ 15 := fun k => by
    unfold fDi
    split
    · exact hrow (h + k) (by omega)
    · omega
  have l1 : Len av 115 0 288 (fSy h row) := ⟨by decide, by omega, fun s hs => ⟨by rw [Nat.zero_add]; exact hl s hs, hS15 s⟩⟩
  have bad : codeC h d row → ∀ {iv1 av1 : IVt} {v : Int}, OffM LMi [56, 57] iv0 iv1 → Off LMa av0 av1 → RS iv1 fr N q v → L_X13_readMade_491 Y X P (up2 iv1 73 57 1) av1 := fun hc iv1 av1 v b1 b2 b3 =>
    w_X13_readMade_491 C (hP _ _ (b1.up (by decide)) b2 (Or.inl ⟨hc, q, b3.wr (Or.inr rfl)⟩))
  refine w_X13_readMade_425 C fun _ => ⟨fun h => absurd h5 h, fun _ _ => ⟨fun hz => bad (Or.inl ?_) hoff ha hRS, fun hnz => OkN.mono (s_X12_make tk_109 ak_115 (by decide) (by omega) l1) ?_⟩⟩
  · rw [← hl 256 (by omega)]
    exact hz
  rintro r5 iv1 av1 hR1 ⟨b1, b2, b3⟩ hr1
  have hnz' : ¬ fSy h row 256 = 0 := by
    rw [← hl 256 (by omega)]
    exact hnz
  have f1 : OffM LMi [56, 57] iv0 iv1 := hoff.tr (b1.mono (by decide) (by decide))
  have a1 : Off LMa av0 av1 := ha.tr (b2.mono (by decide))
  have r1 := hRS.offm b1 (by decide)
  refine ⟨fun h0 => ?_, fun h0 => ?_⟩
  · refine bad (Or.inr (Or.inl ?_)) f1 a1 r1
    rcases b3 with ⟨_, b3⟩ | ⟨b3, _⟩
    · rw [okC_q hq0] at b3
      exact b3
    · omega
  obtain ⟨_, b4, b5⟩ := b3.resolve_left (fun h => h0 h.1)
  rw [okC_q hq0] at b4
  have l2 : Len av1 115 288 32 (fDi h d row) := ⟨by decide, by omega, fun s hs => ⟨by rw [b2 115 (by decide)]; exact hl2 s hs, hD15 s⟩⟩
  refine OkN.mono (s_X12_make tk_111 ak_115 (by decide) (by omega) l2) ?_
  rintro r6 iv2 av2 hR2 ⟨c1, c2, c3⟩ hr2
  have f2 : OffM LMi [56, 57] iv0 iv2 := f1.tr (c1.mono (by decide) (by decide))
  have a2 : Off LMa av0 av2 := a1.tr (c2.mono (by decide))
  have r2 := r1.offm c1 (by decide)
  refine ⟨fun h1 => ?_, fun h1 => ?_⟩
  · obtain ⟨_, c4, c5⟩ := c3.resolve_left (fun h => h1 h.1)
    rw [okC_q hq1] at c4
    refine w_X13_readMade_491 C (hP _ _ (f2.up (by decide)) a2 (Or.inr ⟨?_, r2.wr (Or.inl rfl), b5.of (c2 110 (by decide)), c5⟩))
    rintro (g | g | g)
    · exact hnz' g
    · exact g b4
    · exact g c4
  · refine bad (Or.inr (Or.inr ?_)) f2 a2 r2
    rcases c3 with ⟨_, c3⟩ | ⟨c3, _⟩
    · rw [okC_q hq1] at c3
      exact c3
    · omega
theorem l_X13_rm346 (C : CX Y X RX13 "readMade" cX13_readMade 8 none (e + 2) 0 0) {iv0 av0 : IVt} {h d : Nat} (hh : h ≤ 286) (hd : d ≤ 30) {row : Nat → Int} (hrow : ∀ j, j < h + d → 0 ≤ row j ∧ row j ≤ 15) {P : PN} {q : Nat}
    (hP : ∀ iv' av', OffM LMi [56, 57] iv0 iv' → Off LMa av0 av' → ((codeC h d row ∧ ∃ q, RS iv' fr N q 1) ∨ (¬ codeC h d row ∧ RS iv' fr N q 0 ∧ TR av' 109 (fSy h row) 288 ∧ TR av' 111 (fDi h d row) 32)) → P 0 iv' av')
    (hoff : OffM LMi [56, 57] iv0 iv) (hRS : RS iv fr N q 0) :
    ∀ (m k : Nat) (av : IVt), k + m = 320 → Off LMa av0 av → (∀ j, j < h + d → av 105 j = row j) → (∀ j, j < k → av 115 j = if j < 288 then fSy h row j else fDi h d row (j - 288)) → L_X13_readMade_346 Y X P h d k iv av := by
  have h5 := hRS.2.2.2.2.1
  intro m
  induction m with
  | zero =>
    intro k av h1 h2 h3 h4
    have hk : k = 320 := by omega
    subst hk
    refine w_X13_readMade_346 C (by omega) (by omega) (by omega) ⟨fun _ => ?_, fun h => absurd h (by omega)⟩
    refine l_X13_rm425 C hrow hP hoff h2 hRS (fun k hk => ?_) (fun k hk => ?_)
    · rw [h4 k (by omega), if_pos hk]
    · rw [h4 (288 + k) (by omega), if_neg (by omega), show 288 + k - 288 = k by omega]
  | succ m ih =>
    intro k av h1 h2 h3 h4
    have next : ∀ v : Int, v = (if k < 288 then fSy h row k else fDi h d row (k - 288)) → L_X13_readMade_419 Y X P h d k iv (up2 av 115 (k : Int).toNat v) := by
      intro v hv
      refine w_X13_readMade_419 C ?_
      rw [show (k : Int) + 1 = ((k + 1 : Nat) : Int) by omega]
      refine ih (k + 1) _ (by omega) (h2.up (by decide)) (fun j hj => ?_) fun j hj => ?_
      · rw [up2_ne (by decide)]
        exact h3 j hj
      · rw [up2_at]
        by_cases hjk : j = (k : Int).toNat
        · rw [if_pos hjk, hv, show j = k by omega]
        · rw [if_neg hjk]
          exact h4 j (by omega)
    refine w_X13_readMade_346 C (by omega) (by omega) (by omega) ⟨fun h => absurd h (by omega), fun _ _ => ⟨fun h => absurd h5 h, fun _ => ⟨fun hle => ⟨fun hlt => ⟨by omega, next 0 ?_⟩, fun hge => ⟨by omega, fun hle2 => ⟨by omega, next 0 ?_⟩, fun hlt2 => ⟨by omega, fun _ => ⟨by omega, next _ ?_⟩⟩⟩⟩, fun hlt => ⟨by omega, fun _ => ⟨by omega, next _ ?_⟩⟩⟩⟩⟩
    · rw [if_pos (by omega)]
      unfold fSy
      rw [if_neg (by omega)]
    · rw [if_neg (by omega)]
      unfold fDi
      rw [if_neg (by omega)]
    · rw [if_neg (by omega), show ((h : Int) + k - 288).toNat = h + (k - 288) by omega, h3 _ (by omega)]
      unfold fDi
      rw [if_pos (by omega)]
    · rw [if_pos (by omega), Int.toNat_natCast, h3 _ (by omega)]
      unfold fSy
      rw [if_pos (by omega)]
theorem l_X13_rm139 (C : CX Y X RX13 "readMade" cX13_readMade 8 none (e + 2) 0 0) {iv0 av0 : IVt} {h d : Nat} (hh : h ≤ 286) (hd : d ≤ 30) {z : Nat → Int} (hz : TR av0 113 z 19) {P : PN} :
    ∀ (m p a : Nat) (row : Nat → Int) (iv av : IVt), h + d < a + m → a ≤ h + d → OffM LMi [56, 57] iv0 iv → Off LMa av0 av → av 114 = av0 114 → RS iv fr N p 0 → (∀ j, j < a → av 105 j = row j ∧ 0 ≤ row j ∧ row j ≤ 15) →
    (∀ iv' av', OffM LMi [56, 57] iv0 iv' → Off LMa av0 av' → ((rowF (BB (av0 89) fr N) N z (h + d) m p a row = none ∧ ∃ q, RS iv' fr N q 1) ∨ (∃ p' row', rowF (BB (av0 89) fr N) N z (h + d) m p a row = some (p', row') ∧ ((codeC h d row' ∧ ∃ q, RS iv' fr N q 1) ∨ (¬ codeC h d row' ∧ RS iv' fr N p' 0 ∧ TR av' 109 (fSy h row') 288 ∧ TR av' 111 (fDi h d row') 32)))) → P 0 iv' av') →
    L_X13_readMade_139 Y X P h d a iv av := by
  have hB := BB_bit (av0 89) fr N
  intro m
  induction m with
  | zero => intro p a row iv av h1 h2; omega
  | succ m ih =>
    intro p a row iv av h1 h2 h3 h4 h4z h5 h6 hP
    have e89 : av 89 = av0 89 := h4 89 (by decide)
    have hw := h5.2.2.2.2.1
    refine w_X13_readMade_139 C (by omega) ⟨by omega, fun hle => ?_, fun hlt _ => ⟨fun h => absurd hw h, fun _ => OkN.mono (s_X13_readSymbol (f := z) (n := 19) tk_113 (by omega) h5 fun _ => hz.of h4z) ?_⟩⟩
    · refine l_X13_rm346 C hh hd (row := row) (fun j hj => (h6 j (by omega)).2) (iv0 := iv0) (av0 := av0) (q := p) ?_ h3 h5 320 0 av (by omega) h4 (fun j hj => (h6 j (by omega)).1) fun j hj => absurd hj (Nat.not_lt_zero _)
      intro iv' av' c1 c2 c3
      refine hP iv' av' c1 c2 (Or.inr ⟨p, row, ?_, c3⟩)
      rw [rowF, if_pos (by omega)]
    rintro r5 iv1 av1 hR1 ⟨rfl, g1, g2⟩ hr1
    rw [e89] at g2
    have f1 : OffM LMi [56, 57] iv0 iv1 := h3.tr (g1.mono (by decide) (by decide))
    have bad : rowF (BB (av0 89) fr N) N z (h + d) (m + 1) p a row = none → ∀ iv' av', OffM LMi [56, 57] iv0 iv' → Off LMa av0 av' → (∃ q, RS iv' fr N q 1) → P 0 iv' av' := fun hd iv' av' c1 c2 c3 => hP iv' av' c1 c2 (Or.inl ⟨hd, c3⟩)
    -- what is wrong stays so, from the symbol on
    have wr192 : rowF (BB (av0 89) fr N) N z (h + d) (m + 1) p a row = none → ∀ (s : Int) (iv2 : IVt) (q : Nat), InR s → OffM LMi [56, 57] iv0 iv2 → RS iv2 fr N q 1 → L_X13_readMade_192 Y X P h d a s iv2 av1 := by
      intro hd0 s iv2 q hs c1 c2
      have r248 : ∀ (t : Int) (iv3 : IVt) (q3 : Nat), InR t → OffM LMi [56, 57] iv0 iv3 → RS iv3 fr N q3 1 → L_X13_readMade_248 Y X P h d a s t iv3 av1 := by
        intro t iv3 q3 ht c3 c4
        have hw3 := c4.2.2.2.2.1
        refine w_X13_readMade_248 C fun _ => ⟨fun _ => w_X13_readMade_275 C ?_, fun h => absurd h (by omega)⟩
        exact (l_X13_rm_wrong C (bad hd0) (by omega) (by omega) (c3.up (by decide)) h4 (c4.wr (Or.inr rfl))).2.2.2 a s t 0 (by omega) hs ht (by omega)
      have e7 : (2 : Int) ^ 7 = 128 := rfl
      have e3 : (2 : Int) ^ 3 = 8 := rfl
      have e2 : (2 : Int) ^ 2 = 4 := rfl
      refine w_X13_readMade_192 C hs ⟨fun _ => ⟨fun _ => ⟨fun _ => r248 1 iv2 q (by omega) c1 c2, fun _ => OkN.mono (s_X13_readNumber 7 rfl c2 (by decide)) ?_⟩, fun _ => OkN.mono (s_X13_readNumber 3 rfl c2 (by decide)) ?_⟩, fun _ => OkN.mono (s_X13_readNumber 2 rfl c2 (by decide)) ?_⟩
      all_goals
        rintro r4 iv4 av4 hR4 ⟨rfl, g3, g4⟩ hr4
        rcases g4 with ⟨h10, _⟩ | ⟨_, b2, b3, q4, b4⟩
        · exact absurd h10 (by decide)
        · exact r248 _ iv4 q4 (by omega) (c1.tr (g3.mono (by decide) (by decide))) b4
    rcases g2 with ⟨_, s, p1, a1, rfl, a2⟩ | ⟨a1, rfl, q, a2⟩
    rotate_left
    · have hw1 := a2.2.2.2.2.1
      refine fun _ => ⟨fun _ => wr192 ?_ 0 _ q (by omega) (f1.up (by decide)) (a2.wr (Or.inr rfl)), fun h => absurd h (by omega)⟩
      rcases a1 with a1 | a1
      · exact absurd a1 (by decide)
      · rw [rowF, if_neg (by omega), a1]
    have hw1 := a2.2.2.2.2.1
    have hs19 := sym_some hB a1
    have hsb := sbits_le s
    have hst : stimes s ≤ 11 ∧ 1 ≤ stimes s := by unfold stimes; split <;> (try split) <;> (try split) <;> omega
    have esp : rowF (BB (av0 89) fr N) N z (h + d) (m + 1) p a row = if (s = 16 ∧ a = 0) ∨ N < p1 + sbits s ∨ h + d < a + (stimes s + nn (BB (av0 89) fr N) p1 (sbits s)) then none
        else rowF (BB (av0 89) fr N) N z (h + d) m (p1 + sbits s) (a + (stimes s + nn (BB (av0 89) fr N) p1 (sbits s))) (fun i => if a ≤ i ∧ i < a + (stimes s + nn (BB (av0 89) fr N) p1 (sbits s)) then rowV s a row else row i) := by
      rw [rowF, if_neg (by omega), a1]
    have go : ¬ (s = 16 ∧ a = 0) → L_X13_readMade_192 Y X P h d a s (up2 iv1 73 57 0) av1 := by
      intro h16
      have r0 := a2.wr (v := 0) (Or.inl rfl)
      have f0 : OffM LMi [56, 57] iv0 (up2 iv1 73 57 0) := f1.up (by decide)
      have hnl := nn_lt hB p1 (sbits s)
      have hnl7 : nn (BB (av0 89) fr N) p1 (sbits s) < 128 := by
        have : 2 ^ sbits s ≤ 2 ^ 7 := Nat.pow_le_pow_right (by omega) hsb
        omega
      have hnn := nn_eq hB p1 (sbits s)
      -- with the number behind it
      have g248 : ∀ (iv3 : IVt), OffM LMi [56, 57] iv0 iv3 → RS iv3 fr N (p1 + sbits s) 0 → p1 + sbits s ≤ N → L_X13_readMade_248 Y X P h d a s ((stimes s + nn (BB (av0 89) fr N) p1 (sbits s) : Nat) : Int) iv3 av1 := by
        intro iv3 c1 c2 hpN
        generalize hT : stimes s + nn (BB (av0 89) fr N) p1 (sbits s) = T at *
        have hw3 := c2.2.2.2.2.1
        refine w_X13_readMade_248 C fun _ => ⟨fun h => absurd hw3 h, fun _ => ⟨by omega, by omega, fun hle => w_X13_readMade_275 C ?_, fun hgt => w_X13_readMade_275 C ?_⟩⟩
        · -- copying
          have lp : ∀ (m2 x : Nat) (av5 : IVt), x + m2 = T → Off LMa av0 av5 → av5 114 = av0 114 → (∀ j, j < a + x → av5 105 j = if a ≤ j ∧ j < a + T then rowV s a row else row j) → L_X13_readMade_278 Y X P h d ((a + x : Nat) : Int) s T x (up2 iv3 73 57 0) av5 := by
            intro m2
            induction m2 with
            | zero =>
              intro x av5 b1 b2 b2z b3
              have hx : x = T := by omega
              subst hx
              refine w_X13_readMade_278 C (by omega) (by omega) (by omega) ⟨fun _ => ?_, fun h => absurd h (by omega)⟩
              refine ih (p1 + sbits s) (a + x) (fun i => if a ≤ i ∧ i < a + x then rowV s a row else row i) _ av5 (by omega) (by omega) (c1.up (by decide)) b2 b2z (c2.wr (Or.inl rfl)) (fun j hj => ?_) ?_
              · rw [b3 j hj]
                refine ⟨rfl, ?_⟩
                by_cases hja : a ≤ j ∧ j < a + x
                · rw [if_pos hja]
                  unfold rowV
                  split
                  · omega
                  · split
                    · have := h6 (a - 1) (by omega)
                      exact this.2
                    · omega
                · rw [if_neg hja]
                  exact (h6 j (by omega)).2
              · intro iv' av' d1 d2 d3
                refine hP iv' av' d1 d2 ?_
                rw [esp, if_neg (by omega)]
                exact d3
            | succ m2 ih2 =>
              intro x av5 b1 b2 b2z b3
              have next : ∀ v : Int, v = rowV s a row → L_X13_readMade_278 Y X P h d (((a + x : Nat) : Int) + 1) s T ((x : Int) + 1) (up2 iv3 73 57 0) (up2 av5 105 ((a + x : Nat) : Int).toNat v) := by
                intro v hv
                rw [show ((a + x : Nat) : Int) + 1 = ((a + (x + 1) : Nat) : Int) by omega, show (x : Int) + 1 = ((x + 1 : Nat) : Int) by omega]
                refine ih2 (x + 1) _ (by omega) (b2.up (by decide)) (by rw [up2_ne (by decide)]; exact b2z) fun j hj => ?_
                rw [up2_at]
                by_cases hjx : j = ((a + x : Nat) : Int).toNat
                · rw [if_pos hjx, if_pos (by omega), hv]
                · rw [if_neg hjx]
                  exact b3 j (by omega)
              refine w_X13_readMade_278 C (by omega) (by omega) (by omega) ⟨fun h => absurd h (by omega), fun _ _ => ⟨fun h => absurd (up2_eq _ _ _ _) h, fun _ => ⟨fun hge => ⟨fun hne => ⟨by omega, next 0 ?_⟩, fun heq => ⟨by omega, fun _ => ⟨by omega, next _ ?_⟩⟩⟩, fun hlt => ⟨by omega, next s ?_⟩⟩⟩⟩
              · unfold rowV
                rw [if_neg (by omega), if_neg (by omega)]
              · have e1 : rowV s a row = row (a - 1) := by
                  unfold rowV
                  rw [if_neg (by omega), if_pos (by omega)]
                rw [show (((a + x : Nat) : Int) - 1).toNat = a + x - 1 by omega, b3 _ (by omega)]
                by_cases hx0 : x = 0
                · rw [if_neg (by omega), e1, show a + x - 1 = a - 1 by omega]
                · rw [if_pos (by omega)]
              · unfold rowV
                rw [if_pos (by omega)]
          have := lp T 0 av1 (by omega) h4 h4z fun j hj => by
            rw [if_neg (by omega)]
            exact (h6 j (by omega)).1
          rw [Nat.add_zero] at this
          exact this
        · refine (l_X13_rm_wrong C (bad ?_) (by omega) (by omega) (c1.up (by decide)) h4 (c2.wr (Or.inr rfl))).2.2.2 a s _ 0 (by omega) (by omega) (by omega) (by omega)
          rw [esp, if_pos (by omega)]
      -- a number that is wrong
      have w248 : N < p1 + sbits s → ∀ (t : Int) (iv3 : IVt) (q3 : Nat), InR t → OffM LMi [56, 57] iv0 iv3 → RS iv3 fr N q3 1 → L_X13_readMade_248 Y X P h d a s t iv3 av1 := by
        intro hN t iv3 q3 ht c3 c4
        have hw3 := c4.2.2.2.2.1
        refine w_X13_readMade_248 C fun _ => ⟨fun _ => w_X13_readMade_275 C ?_, fun h => absurd h (by omega)⟩
        refine (l_X13_rm_wrong C (bad ?_) (by omega) (by omega) (c3.up (by decide)) h4 (c4.wr (Or.inr rfl))).2.2.2 a s t 0 (by omega) (by omega) ht (by omega)
        rw [esp, if_pos (by omega)]
      have e7 : (2 : Int) ^ 7 = 128 := rfl
      have e3 : (2 : Int) ^ 3 = 8 := rfl
      have e2 : (2 : Int) ^ 2 = 4 := rfl
      refine w_X13_readMade_192 C (by omega) ⟨fun h16' => ⟨fun h17 => ⟨fun h18 => ?_, fun h18 => OkN.mono (s_X13_readNumber 7 rfl r0 (by decide)) ?_⟩, fun h17 => OkN.mono (s_X13_readNumber 3 rfl r0 (by decide)) ?_⟩, fun h16' => OkN.mono (s_X13_readNumber 2 rfl r0 (by decide)) ?_⟩
      · have hsb0 : sbits s = 0 := by unfold sbits; rw [if_pos (by omega)]
        have hst1 : stimes s = 1 := by unfold stimes; rw [if_neg (by omega), if_neg (by omega), if_neg (by omega)]
        have hpN := a2.2.2.2.2.2.1
        have := g248 (up2 iv1 73 57 0) f0 (by rw [hsb0]; exact r0) (by omega)
        rw [hsb0, hst1] at this
        have en : nn (BB (av0 89) fr N) p1 0 = 0 := rfl
        rw [en] at this
        exact this
      · rintro r4 iv4 av4 hR4 ⟨rfl, g3, g4⟩ hr4
        rw [e89] at g4
        have hsb0 : sbits s = 7 := by unfold sbits; rw [if_neg (by omega), if_neg (by omega), if_neg (by omega)]
        have hst1 : stimes s = 11 := by unfold stimes; rw [if_neg (by omega), if_neg (by omega), if_pos (by omega)]
        rw [hsb0] at g248 w248 hnn
        rcases g4 with ⟨_, b1, rfl, b2⟩ | ⟨b1, b2, b3, q4, b4⟩
        · have := g248 iv4 (f0.tr (g3.mono (by decide) (by decide))) b2 b1
          rw [hst1] at this
          rw [hnn, show (11 : Int) + ((nn (BB (av0 89) fr N) p1 7 : Nat) : Int) = ((11 + nn (BB (av0 89) fr N) p1 7 : Nat) : Int) by omega]
          exact this
        · exact w248 (by omega) _ iv4 q4 (by omega) (f0.tr (g3.mono (by decide) (by decide))) b4
      · rintro r4 iv4 av4 hR4 ⟨rfl, g3, g4⟩ hr4
        rw [e89] at g4
        have hsb0 : sbits s = 3 := by unfold sbits; rw [if_neg (by omega), if_neg (by omega), if_pos (by omega)]
        have hst1 : stimes s = 3 := by unfold stimes; rw [if_neg (by omega), if_pos (by omega)]
        rw [hsb0] at g248 w248 hnn
        rcases g4 with ⟨_, b1, rfl, b2⟩ | ⟨b1, b2, b3, q4, b4⟩
        · have := g248 iv4 (f0.tr (g3.mono (by decide) (by decide))) b2 b1
          rw [hst1] at this
          rw [hnn, show (3 : Int) + ((nn (BB (av0 89) fr N) p1 3 : Nat) : Int) = ((3 + nn (BB (av0 89) fr N) p1 3 : Nat) : Int) by omega]
          exact this
        · exact w248 (by omega) _ iv4 q4 (by omega) (f0.tr (g3.mono (by decide) (by decide))) b4
      · rintro r4 iv4 av4 hR4 ⟨rfl, g3, g4⟩ hr4
        rw [e89] at g4
        have hsb0 : sbits s = 2 := by unfold sbits; rw [if_neg (by omega), if_pos (by omega)]
        have hst1 : stimes s = 3 := by unfold stimes; rw [if_pos (by omega)]
        rw [hsb0] at g248 w248 hnn
        rcases g4 with ⟨_, b1, rfl, b2⟩ | ⟨b1, b2, b3, q4, b4⟩
        · have := g248 iv4 (f0.tr (g3.mono (by decide) (by decide))) b2 b1
          rw [hst1] at this
          rw [hnn, show (3 : Int) + ((nn (BB (av0 89) fr N) p1 2 : Nat) : Int) = ((3 + nn (BB (av0 89) fr N) p1 2 : Nat) : Int) by omega]
          exact this
        · exact w248 (by omega) _ iv4 q4 (by omega) (f0.tr (g3.mono (by decide) (by decide))) b4
    refine fun _ => ⟨fun h => absurd hw1 h, fun _ => ⟨fun hne => go (by omega), fun heq => ⟨fun h0 => go (by omega), fun h0 => ?_⟩⟩⟩
    refine wr192 ?_ _ _ _ (by omega) (f1.up (by decide)) (a2.wr (Or.inr rfl))
    rw [esp, if_pos (by omega)]
end SRmade
