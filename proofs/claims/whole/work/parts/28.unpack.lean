/-! The class' unpacking: made parts, all of it. -/
theorem cn_pad {f g : Nat → Int} {h : Nat} (hfg : ∀ s, s < h → f s = g s) {v : Int} (hv : v ≠ 0) (hz : ∀ s, h ≤ s → f s = 0) : ∀ j, cn f v (h + j) = cn g v h := by
  have h0 : ∀ m, m ≤ h → cn f v m = cn g v m := by
    intro m
    induction m with
    | zero => exact fun _ => rfl
    | succ m ih =>
      intro hm
      show cn f v m + _ = cn g v m + _
      rw [ih (by omega), hfg m (by omega)]
  intro j
  induction j with
  | zero => exact h0 h (Nat.le_refl h)
  | succ j ih =>
    have h1 : ¬ f (h + j) = v := by rw [hz (h + j) (by omega)]; omega
    show cn f v (h + j) + (if f (h + j) = v then 1 else 0) = _
    rw [ih, if_neg h1]
    omega
theorem us_pad {f g : Nat → Int} {h : Nat} (hfg : ∀ s, s < h → f s = g s) (hz : ∀ s, h ≤ s → f s = 0) : ∀ j, us f (h + j) = us g h := by
  have h0 : ∀ m, m ≤ h → us f m = us g m := by
    intro m
    induction m with
    | zero => exact fun _ => rfl
    | succ m ih =>
      intro hm
      show us f m + _ = us g m + _
      rw [ih (by omega), hfg m (by omega)]
  intro j
  induction j with
  | zero => exact h0 h (Nat.le_refl h)
  | succ j ih =>
    have h1 : ¬ 0 < f (h + j) := by rw [hz (h + j) (by omega)]; omega
    show us f (h + j) + (if 0 < f (h + j) then 1 else 0) = _
    rw [ih, if_neg h1]
    omega
theorem ac_pad {f g : Nat → Int} {h : Nat} (hfg : ∀ s, s < h → f s = g s) (hz : ∀ s, h ≤ s → f s = 0) (j : Nat) : ∀ m, ac f (h + j) m = ac g h m := by
  intro m
  induction m with
  | zero => rfl
  | succ m ih =>
    show 2 * ac f (h + j) m + cn f ((m : Int) + 1) (h + j) = 2 * ac g h m + cn g ((m : Int) + 1) h
    rw [ih, cn_pad hfg (by omega) hz]
theorem okC_pad {f g : Nat → Int} {h : Nat} (hfg : ∀ s, s < h → f s = g s) (hz : ∀ s, h ≤ s → f s = 0) (j : Nat) {q : Prop} : okC f (h + j) q ↔ okC g h q := by
  unfold okC
  rw [ac_pad hfg hz, us_pad hfg hz]
theorem rk_pad {f g : Nat → Int} {h : Nat} (hfg : ∀ s, s < h → f s = g s) (hz : ∀ s, h ≤ s → f s = 0) (j : Nat) {s : Nat} (hs : s < h) (h1 : 1 ≤ f s) : rk f (h + j) s = rk g h s := by
  unfold rk
  rw [← hfg s hs]
  have e1 : ∀ m, m ≤ h → cn f (f s) m = cn g (f s) m := by
    intro m
    induction m with
    | zero => exact fun _ => rfl
    | succ m ih =>
      intro hm
      show cn f (f s) m + _ = cn g (f s) m + _
      rw [ih (by omega), hfg m (by omega)]
  have e2 : ∀ l, bf f (h + j) l = bf g h l := by
    intro l
    induction l with
    | zero => rfl
    | succ l ih =>
      show bf f (h + j) l + cn f ((l : Int) + 1) (h + j) = bf g h l + cn g ((l : Int) + 1) h
      rw [ih, cn_pad hfg (by omega) hz]
  rw [e1 s (by omega), e2]
theorem RC.pad {av : IVt} {k : Nat} {f g : Nat → Int} {h : Nat} (hfg : ∀ s, s < h → f s = g s) (hz : ∀ s, h ≤ s → f s = 0) {j : Nat} (hc : RC av k g h) (hj : h + j ≤ 288) : RC av k f (h + j) := by
  refine ⟨hj, fun l l1 l2 => ?_, fun s s1 s2 s3 => ?_⟩
  · rw [hc.2.1 l l1 l2, cn_pad hfg (by omega) hz]
  · by_cases hs : s < h
    · rw [rk_pad hfg hz j hs s2]
      rw [hfg s hs] at s2 s3
      exact hc.2.2 s hs s2 s3
    · rw [hz s (by omega)] at s2
      omega
theorem okF_S : okC fxL 288 False := Or.inl (by decide +kernel)
theorem okF_D : okC (fun _ => 5) 32 False := Or.inl (by decide +kernel)
def ckq (b : Nat → Int) (q : Nat) : Nat → Int
  | 0 => 0
  | j + 1 => ckq b q j * 256 + nv b (q + 8 * j) 8
theorem ckq_4 (b : Nat → Int) (q : Nat) : ckq b q 4 = chk4 b q := by
  unfold chk4
  show (((0 * 256 + nv b (q + 8 * 0) 8) * 256 + nv b (q + 8 * 1) 8) * 256 + nv b (q + 8 * 2) 8) * 256 + nv b (q + 8 * 3) 8 = _
  simp
abbrev LUi : List Nat := [16, 58, 72]
abbrev LUa : List Nat := [17, 60, 61, 62, 64, 65, 66, 68, 69, 70, 71]
theorem UR.tr {Li La Li' La' : List Nat} {iv0 av0 iv av iv' av' : IVt} {fr N most win : Nat} {d : Option (Nat × Outp)} {ms r : Int} (h : UR Li La iv av iv' av' fr N most win d ms r) (h1 : Off Li' iv0 iv) (h2 : Off La' av0 av) (g1 : ∀ k, k ∈ Li → k ∈ Li') (g2 : ∀ k, k ∈ La → k ∈ La') : UR Li' La' iv0 av0 iv' av' fr N most win d ms r :=
  ⟨h1.tr (h.1.mono g1), h2.tr (h.2.1.mono g2), h.2.2⟩
theorem UR.any {Li La : List Nat} {iv0 av0 iv' av' : IVt} {fr N most win : Nat} {d d' : Option (Nat × Outp)} {r : Int} (h : UR Li La iv0 av0 iv' av' fr N most win d 1 r) : UR Li La iv0 av0 iv' av' fr N most win d' 1 r := by
  obtain ⟨h1, h2, p', ms', h3, h4⟩ := h
  refine ⟨h1, h2, p', ms', h3, Or.inr ⟨Or.inr rfl, ?_⟩⟩
  rcases h4 with h4 | h4
  · exact absurd h4.1 (by decide)
  · exact h4.2
theorem UR.one {Li La : List Nat} {iv0 av0 iv' av' : IVt} {fr N most win : Nat} {d : Option (Nat × Outp)} {ms r : Int} (h : UR Li La iv0 av0 iv' av' fr N most win d ms r) (hr : r ≠ 0) : UR Li La iv0 av0 iv' av' fr N most win d ms 1 := by
  obtain ⟨b1, b2, p5, ms5, b3, b4⟩ := h
  refine ⟨b1, b2, p5, ms5, b3, ?_⟩
  rcases b4 with ⟨c1, c2, c3⟩ | ⟨c1, c2, c3⟩
  · exact Or.inl ⟨c1, rfl, c3⟩
  · exact Or.inr ⟨c1, Or.inr (c2.resolve_left hr), c3⟩
theorem ak_71 : ArrK 100 71 := ⟨rfl, by decide⟩
section SUnpack
variable {Y : Gl} {X : Cx} {e : Nat} {iv av : IVt} {fr N p most win : Nat} {ms : Int} {o : Outp}
theorem s_X1_bitsK (k : Nat) {x : Int} (hx : x = k) (h : CS iv fr N p ms) (hk : k ≤ 16) (hr : fr + N / 8 ≤ iv 12 1) : OkN Y (e + 2) mX1_bits [.ref (gl_b Y + 72), .int (i32 x)] RV iv av 116
    (fun r iv' av' => av' = av ∧ Off [72] iv iv' ∧ r = nv (BB (av 13) fr N) p k ∧ CS iv' fr N (min (p + k) N) (if p + k ≤ N then ms else 1)) := by
  subst hx
  exact s_X1_bits h hk hr
theorem US.bd (h : US iv av most win o) : 0 ≤ iv 16 1 ∧ iv 16 1 ≤ 65536 := by
  have := h.1
  have := h.2.2.2.1
  have := h.2.2.2.2.1
  omega
theorem US.congr (h : US iv av most win o) {o' : Outp} (h1 : o'.1 = o.1) (h2 : ∀ j, j < o.1 → o'.2 j = o.2 j) : US iv av most win o' := by
  obtain ⟨v1, v2, v3, v4, v5, v6, v7⟩ := h
  exact ⟨by rw [h1]; exact v1, v2, v3, by rw [h1]; exact v4, v5, v6, fun j hj => by rw [h1] at hj; rw [h2 j hj]; exact v7 j hj⟩
theorem l_X10_readStored (C : CX Y X RX10 "readStored" cX10_readStored 4 (some .boolean) (e + 3) 0 0) {iv0 av0 : IVt} (hr : fr + N / 8 ≤ iv0 12 1) {q n : Nat} (hq : q + 8 * n ≤ N) (hq8 : q % 8 = 0) (hn : o.1 + n ≤ most) {P : PN}
    (hP : ∀ iv' av', Off [16, 72] iv0 iv' → Off [17] av0 av' → CS iv' fr N (q + 8 * n) 0 → US iv' av' most win (o.1 + n, fun i => if o.1 ≤ i ∧ i < o.1 + n then bm8 (nv (BB (av0 13) fr N) (q + 8 * (i - o.1)) 8) else o.2 i) → P 1 iv' av') :
    ∀ (m j : Nat) (iv av : IVt), j + m = n → CS iv fr N (q + 8 * j) 0 → US iv av most win (o.1 + j, fun i => if o.1 ≤ i ∧ i < o.1 + j then bm8 (nv (BB (av0 13) fr N) (q + 8 * (i - o.1)) 8) else o.2 i) → Off [16, 72] iv0 iv → Off [17] av0 av → L_X10_readStored_76 Y X P n j iv av := by
  intro m
  induction m with
  | zero =>
    intro j iv av h1 h2 h3 h4 h5
    have : j = n := by omega
    subst this
    have := h3.2.2.2.2.1
    exact w_X10_readStored_76 C (by omega) (by omega) ⟨fun _ => hP iv av h4 h5 h2 h3, fun h => absurd h (by omega)⟩
  | succ m ih =>
    intro j iv av h1 h2 h3 h4 h5
    have hm := h3.2.2.2.2.1
    refine w_X10_readStored_76 C (by omega) (by omega) ⟨fun h => absurd h (by omega), fun _ => OkN.mono (s_X1_bitsK 8 rfl h2 (by decide) (by rw [h4 12 (by decide)]; exact hr)) ?_⟩
    rintro r iv1 av1 hR1 ⟨rfl, g1, rfl, g2⟩ hr1
    rw [show min (q + 8 * j + 8) N = q + 8 * (j + 1) by omega, if_pos (by omega)] at g2
    have u1 := h3.of (g1 16 (by decide)) (g1 58 (by decide)) (rfl : av1 17 = av1 17)
    obtain ⟨v1, v2, v3, v4, v5, v6, v7⟩ := u1
    dsimp only at v1 v4 v7
    refine OkN.mono (s_X2_add bk_16 (by omega) (by show _ < ((65536 : Nat) : Int); omega)) ?_
    rintro r iv2 av2 hR2 ⟨rfl, rfl⟩
    rw [show (j : Int) + 1 = ((j + 1 : Nat) : Int) by omega]
    refine ih (j + 1) _ _ (by omega) (g2.of (up2_ne (by decide))) ⟨?_, v2, v3, by dsimp only; omega, v5, v6, fun i hi => ?_⟩ ((h4.tr (g1.mono (by decide))).up (by decide)) (h5.up (by decide))
    · rw [up2_eq]
      dsimp only
      omega
    · dsimp only at hi ⊢
      rw [up2_at, show (iv1 16 1).toNat = o.1 + j by omega]
      by_cases hij : i = o.1 + j
      · rw [if_pos hij, if_pos (by omega), h5 13 (by decide), show i - o.1 = j by omega]
      · rw [if_neg hij, v7 i (by omega)]
        by_cases hlt : o.1 ≤ i
        · rw [if_pos (by omega), if_pos (by omega)]
        · rw [if_neg (by omega), if_neg (by omega)]
theorem s_X10_readStored (h : CS iv fr N p ms) (hr : fr + N / 8 ≤ iv 12 1) (hU : US iv av most win o) : OkN Y (e + 3) mX10_readStored [.ref (gl_b Y + 58)] RV iv av 116
    (fun r iv' av' => UR [16, 72] [17] iv av iv' av' fr N most win (storedF (BB (av 13) fr N) N most p o) ms r ∧ (r = 0 ∨ r = 1)) := by
  have hB := BB_bit (av 13) fr N
  refine o_X10_readStored fun X C => OkN.mono (s_X1_endByte h) ?_
  rintro r iv1 av1 hR1 ⟨rfl, g1, g2⟩
  have et : (p + 7) / 8 * 8 = toB p := rfl
  rw [et] at g2
  have ht := g2.2.2.2.2.1
  have hN8 := h.2.2.2.2.2.1
  have hms := h.2.2.2.2.2.2.2
  have ht8 : toB p % 8 = 0 := by unfold toB; omega
  refine OkN.mono (s_X1_bitsK 16 rfl g2 (by decide) (by rw [g1 12 (by decide)]; exact hr)) ?_
  rintro r iv2 av2 hR2 ⟨rfl, g3, rfl, g4⟩ hr2
  have f2 : Off [72] iv iv2 := g1.tr g3
  refine OkN.mono (s_X1_bitsK 16 rfl g4 (by decide) (by rw [f2 12 (by decide)]; exact hr)) ?_
  rintro r iv3 av3 hR3 ⟨rfl, g5, rfl, g6⟩ hr3
  have f3 : Off [72] iv iv3 := f2.tr g5
  have u3 := hU.of (f3 16 (by decide)) (f3 58 (by decide)) (rfl : av3 17 = av3 17)
  have f3' : Off [16, 72] iv iv3 := f3.mono (by decide)
  refine OkN.mono (s_X1_isMissing g6) ?_
  rintro r iv4 av4 hR4 ⟨rfl, rfl, rfl⟩ hr4
  have fault : (storedF (BB (av4 13) fr N) N most p o = none ∨ ms = 1) → ∀ iv5, iv5 = iv4 → UR [16, 72] [17] iv av4 iv5 av4 fr N most win (storedF (BB (av4 13) fr N) N most p o) ms 0 ∧ ((0 : Int) = 0 ∨ (0 : Int) = 1) := fun hd iv5 h5 => by
    subst h5
    exact ⟨⟨f3', Off.rf _ _, _, _, g6, Or.inr ⟨hd, Or.inl rfl, u3.bd.1, u3.bd.2⟩⟩, Or.inl rfl⟩
  by_cases hgood : ms = 0 ∧ toB p + 32 ≤ N
  · obtain ⟨rfl, hle⟩ := hgood
    rw [if_pos (show toB p + 16 ≤ N by omega), show min (toB p + 16) N = toB p + 16 by omega, show min (toB p + 16 + 16) N = toB p + 32 by omega, if_pos (show toB p + 16 + 16 ≤ N by omega)] at g6
    rw [if_pos (show toB p + 16 ≤ N by omega), show min (toB p + 16) N = toB p + 16 by omega, if_pos (show toB p + 16 + 16 ≤ N by omega)]
    refine ⟨fun h => absurd rfl h, fun _ => ?_⟩
    have n1 := nn_eq hB (toB p) 16
    have n2 := nn_eq hB (toB p + 16) 16
    have n3 : nn (BB (av4 13) fr N) (toB p) 16 < 65536 := nn_lt hB (toB p) 16
    have n4 : nn (BB (av4 13) fr N) (toB p + 16) 16 < 65536 := nn_lt hB (toB p + 16) 16
    rw [n1, n2]
    refine ⟨by omega, fun hne => fault (Or.inl ?_) iv4 rfl, fun heq => OkN.mono (s_X1_bytesLeft g6) ?_⟩
    · unfold storedF
      rw [if_pos (by omega)]
    rintro r iv5 av5 hR5 ⟨rfl, rfl, rfl⟩ hr5
    refine ⟨fun hlt => fault (Or.inl ?_) iv5 rfl, fun hge hi => OkN.mono (s_X2_count bk_16) ?_⟩
    · unfold storedF
      rw [if_pos (by omega)]
    rintro r iv5 av5 hR5 ⟨rfl, rfl, rfl⟩ hr5
    have v1 := u3.1
    have v2 := u3.2.1
    have v5 := u3.2.2.2.2.1
    refine ⟨by omega, fun hle2 => ?_, fun hgt => fault (Or.inl ?_) iv5 rfl⟩
    · refine l_X10_readStored (iv0 := iv) (av0 := av5) (o := o) (most := most) (win := win) C hr (q := toB p + 32) (by omega) (by omega) (by omega) ?_ (nn (BB (av5 13) fr N) (toB p) 16) 0 iv5 av5 (by omega) g6 (u3.congr rfl fun j hj => if_neg (by omega)) f3' (Off.rf _ _)
      · intro iv6 av6 q1 q2 q3 q4
        refine ⟨⟨q1, q2, _, 0, q3, Or.inl ⟨rfl, rfl, rfl, _, ?_, q4⟩⟩, Or.inr rfl⟩
        unfold storedF
        rw [if_neg (by omega)]
    · unfold storedF
      rw [if_pos (by omega)]
  · have hms5 : ¬ (if min (toB p + 16) N + 16 ≤ N then (if toB p + 16 ≤ N then ms else 1) else 1) = 0 := by
      intro h0
      refine hgood ?_
      split at h0
      · split at h0
        · exact ⟨h0, by omega⟩
        · omega
      · omega
    refine ⟨fun _ => fault ?_ iv4 rfl, fun h => absurd h hms5⟩
    by_cases hm : ms = 1
    · exact Or.inr hm
    · left
      unfold storedF
      rw [if_pos (by omega)]
end SUnpack
