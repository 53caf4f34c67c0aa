/-! The reference's trees: how they are made. -/
section SRmake
variable {Y : Gl} {X : Cx} {e : Nat} {iv av : IVt} {k a1 : Nat} {f : Nat → Int} {n : Nat}
theorem LenR.le (h : Len iv a1 0 n f) : n ≤ 288 := h.2.1
theorem acle {a : Nat} (h : Len av a1 a n f) {l : Nat} (hl : l ≤ 15) : 0 ≤ ac f n l ∧ ac f n l ≤ 9437184 := ac_le15 f h.2.1 hl
theorem l_X12_make141 (C : CX Y X RX12 "make" cX12_make 10 (some .boolean) (e + 1) 0 0) (Kk : TreeK k) (Ka : ArrK 100 a1) {a : Nat} (ha1 : a1 ≠ k + 1) {iv0 av0 : IVt} (hlen : Len av0 a1 a n f) {q : Prop} (hok : okC f n q) {l : Nat} (hl : 1 ≤ l) (hl15 : l ≤ 15) {P : PN}
    (hP : ∀ iv' av' (M : Nat) K V, OffM [k] [] iv0 iv' → Off [k + 1] av0 av' → iv' k 1 = M → TG (av' (k + 1)) M f n l (ac f n l) 0 K V → (M : Int) ≤ 1 + l - ac f n l + bf f n l + Fs (ac f n l - 1) (l - 1) → L_X12_make_125 Y X P k a1 a n (ac f n l) ((l : Int) + 1) iv' av') :
    ∀ (m s : Nat) (iv av : IVt) (M : Nat) (K : Nat → Nat) (V : Nat → Int), s + m = n → OffM [k] [] iv0 iv → Off [k + 1] av0 av → iv k 1 = M → TG (av (k + 1)) M f n l (2 * ac f n (l - 1) + cn f l s) 0 K V → (M : Int) ≤ 1 + l - (2 * ac f n (l - 1) + cn f l s) + (bf f n (l - 1) + cn f l s) + Fs (2 * ac f n (l - 1) + cn f l s - 1) (l - 1) →
    L_X12_make_141 Y X P k a1 a n (2 * ac f n (l - 1) + cn f l s) l s iv av := by
  have ha := hlen.1
  have hn := hlen.2.1
  have hk := kl_le a1
  have hac := acle hlen (show l - 1 ≤ 15 by omega)
  obtain ⟨l', rfl⟩ : ∃ l', l = l' + 1 := ⟨l - 1, by omega⟩
  simp only [Nat.add_sub_cancel] at *
  have eac : ac f n (l' + 1) = 2 * ac f n l' + cn f ((l' + 1 : Nat) : Int) n := rfl
  have ebf : bf f n (l' + 1) = bf f n l' + cn f ((l' + 1 : Nat) : Int) n := rfl
  have hbf := bf_le f (l' + 1) n
  intro m
  induction m with
  | zero =>
    intro s iv av M K V h1 h2 h3 h4 h5 h6
    have hs : s = n := by omega
    subst hs
    have hcn := cn_le f ((l' + 1 : Nat) : Int) s
    refine w_X12_make_141 C Kk Ka (by omega) (by omega) (by omega) (by omega) ⟨fun _ => ?_, fun h => absurd h (by omega)⟩
    rw [← eac] at h5 h6 ⊢
    exact hP iv av M K V h2 h3 h4 h5 (by omega)
  | succ m ih =>
    intro s iv av M K V h1 h2 h3 h4 h5 h6
    have hcn := cn_le f ((l' + 1 : Nat) : Int) s
    have hf := hlen.2.2 s (by omega)
    have eav : av a1 (a + s) = f s := by rw [h3 a1 (by simp [ha1])]; exact hf.1
    have ecn : cn f ((l' + 1 : Nat) : Int) (s + 1) = cn f ((l' + 1 : Nat) : Int) s + if f s = ((l' + 1 : Nat) : Int) then 1 else 0 := rfl
    refine w_X12_make_141 C Kk Ka (by omega) (by omega) (by omega) (by omega) ⟨fun h => absurd h (by omega), fun _ => ⟨by omega, ?_⟩⟩
    rw [show ((a : Int) + s).toNat = a + s by omega, eav, show (s : Int) + 1 = ((s + 1 : Nat) : Int) by omega]
    refine fun _ => ⟨fun hne => ?_, fun heq => ?_⟩
    · rw [if_neg hne] at ecn
      have e2 : cn f ((l' + 1 : Nat) : Int) s = cn f ((l' + 1 : Nat) : Int) (s + 1) := by omega
      rw [e2] at h5 h6 ⊢
      exact ih (s + 1) iv av M K V (by omega) h2 h3 h4 h5 h6
    · rw [if_pos heq] at ecn
      have hcd : cd f n s = 2 * ac f n l' + cn f ((l' + 1 : Nat) : Int) s := by
        unfold cd
        rw [heq, show (((l' + 1 : Nat) : Int)).toNat - 1 = l' by omega]
      have hlt := cn_lt (show s < n by omega) heq
      refine o_X12_grow Kk fun X' C' => ?_
      rw [show ((l' + 1 : Nat) : Int) - 1 = ((l' : Nat) : Int) by omega]
      refine l_X12_grow C' Kk (l := l' + 1) (by omega) hl15 (c := 2 * ac f n l' + cn f ((l' + 1 : Nat) : Int) s) (by omega) (by omega) (by simp only [Nat.add_sub_cancel]; omega) (show s < n by omega) hn heq hcd (ins := bf f n l' + cn f ((l' + 1 : Nat) : Int) s) (by omega) (iv0 := iv) (av0 := av) ?_ l' 0 iv av M K V (by omega) (OffM.rf _ _ _) (Off.rf _ _) h4 ?_ (by have := h5.1.1; omega) ?_ ?_ ?_
      · intro iv' av' M' K' V' g1 g2 g3 g4 g5
        simp only [Nat.add_sub_cancel] at g4 g5
        have e3 : 2 * ac f n l' + cn f ((l' + 1 : Nat) : Int) s + 1 = 2 * ac f n l' + cn f ((l' + 1 : Nat) : Int) (s + 1) := by omega
        rw [e3] at g4 g5 ⊢
        refine ih (s + 1) iv' av' M' K' V' (by omega) (h2.tr g1) (h3.tr g2) g3 g4 ?_
        rw [show 2 * ac f n l' + cn f ((l' + 1 : Nat) : Int) (s + 1) - 1 = 2 * ac f n l' + cn f ((l' + 1 : Nat) : Int) s by omega]
        omega
      · rw [show l' + 1 - 1 - l' = 0 by omega]
        exact h5
      · rw [show l' + 1 - 1 - l' = 0 by omega]
        exact h5.1.2.1
      · rw [h5.1.2.2]
        have hle := hok.le (show l' + 1 ≤ 15 by omega)
        exact (Int.ediv_eq_zero_of_lt (by omega) (by omega)).symm
      · simp only [Nat.add_sub_cancel]
        omega
theorem l_X12_make125 (C : CX Y X RX12 "make" cX12_make 10 (some .boolean) (e + 1) 0 0) (Kk : TreeK k) (Ka : ArrK 100 a1) {a : Nat} (ha1 : a1 ≠ k + 1) {iv0 av0 : IVt} (hlen : Len av0 a1 a n f) {q : Prop} (hok : okC f n q) {P : PN}
    (hP : ∀ iv' av', OffM [k] [] iv0 iv' → Off [k + 1] av0 av' → TR av' k f n → P 1 iv' av') :
    ∀ (m l : Nat) (iv av : IVt) (M : Nat) (K : Nat → Nat) (V : Nat → Int), l + m = 15 → OffM [k] [] iv0 iv → Off [k + 1] av0 av → iv k 1 = M → TG (av (k + 1)) M f n (l + 1) (2 * ac f n l) 0 K V → (M : Int) ≤ 1 + ((l + 1 : Nat) : Int) - 2 * ac f n l + bf f n l + Fs (2 * ac f n l - 1) l →
    L_X12_make_125 Y X P k a1 a n (ac f n l) ((l : Int) + 1) iv av := by
  have hn := hlen.2.1
  intro m
  induction m with
  | zero =>
    intro l iv av M K V h1 h2 h3 h4 h5 h6
    have hl : l = 15 := by omega
    subst hl
    have hac := acle hlen (show 15 ≤ 15 by omega)
    have hbf := bf_le f 15 n
    refine w_X12_make_125 C Kk Ka (by omega) ⟨fun _ => hP iv av h2 h3 ⟨M, K, V, ?_, h5⟩, fun h => absurd h (by omega)⟩
    have := Fs_top (c := 2 * ac f n 15) (by omega) (show 1 ≤ 16 by omega)
    rw [show 16 - 1 = 15 by omega] at this
    split at this <;> omega
  | succ m ih =>
    intro l iv av M K V h1 h2 h3 h4 h5 h6
    have hac := acle hlen (show l ≤ 15 by omega)
    refine w_X12_make_125 C Kk Ka (by omega) ⟨fun h => absurd h (by omega), fun _ => ?_⟩
    have g := l_X12_make141 C Kk Ka ha1 hlen hok (l := l + 1) (by omega) (by omega) (iv0 := iv0) (P := P) ?_ n 0 iv av M K V (by omega) h2 h3 h4 (by
        show TG _ _ _ _ _ (2 * ac f n l + 0) _ _ _
        rw [Int.add_zero]
        exact h5) (by
        show (M : Int) ≤ 1 + ((l + 1 : Nat) : Int) - (2 * ac f n l + 0) + (bf f n l + 0) + Fs (2 * ac f n l + 0 - 1) l
        rw [Int.add_zero, Int.add_zero]
        exact h6)
    · have e1 : 2 * ac f n (l + 1 - 1) + cn f ((l + 1 : Nat) : Int) 0 = 2 * ac f n l := by
        show 2 * ac f n l + 0 = _
        omega
      rw [e1] at g
      exact g
    · intro iv' av' M' K' V' g1 g2 g3 g4 g5
      have g6 := g4.next (by omega)
      refine ih (l + 1) iv' av' M' K' V' (by omega) g1 g2 g3 g6 ?_
      have hF := Fs_dbl (ac f n (l + 1)) l
      simp only [Nat.add_sub_cancel] at g5
      omega
theorem s_X12_make (Kk : TreeK k) (Ka : ArrK 100 a1) {a : Nat} (ha1 : a1 ≠ k + 1) {q : Int} (hq : InR q) (hlen : Len av a1 a n f) : OkN Y (e + 1) mX12_make [.ref (gl_b Y + k), .ref (gl_b Y + a1), .int (i32 (a : Int)), .int (i32 (n : Int)), .int (i32 q)] RV iv av 116
    (fun r iv' av' => OffM [k] [] iv iv' ∧ Off [k + 1] av av' ∧ ((r = 0 ∧ ¬ okC f n (q ≠ 0)) ∨ (r = 1 ∧ okC f n (q ≠ 0) ∧ TR av' k f n))) := by
  have ha := hlen.1
  have hn := hlen.2.1
  have hkl := kl_le a1
  have hk73 : k ≠ 73 := by
    intro h
    have := Kk.1
    rw [h] at this
    exact absurd this (by decide)
  refine o_X12_make Kk Ka fun X C => ?_
  have f0 : OffM [k] [] iv (up2 iv k 1 1) := (OffM.rf _ _ _).upL (by simp) hk73
  have g0 : Off [k + 1] av (up2 (up2 av (k + 1) 0 0) (k + 1) 1 0) := ((Off.rf _ _).up (by simp)).up (by simp)
  have key : ∀ (m s : Nat), s + m = n → L_X12_make_28 Y X (fun r iv' av' => OffM [k] [] iv iv' ∧ Off [k + 1] av av' ∧ ((r = 0 ∧ ¬ okC f n (q ≠ 0)) ∨ (r = 1 ∧ okC f n (q ≠ 0) ∧ TR av' k f n))) k a1 a n q (ac f s 15) (us f s) s (up2 iv k 1 1) (up2 (up2 av (k + 1) 0 0) (k + 1) 1 0) := by
    intro m
    induction m with
    | zero =>
      intro s h1
      have hs : s = n := by omega
      subst hs
      have hac := ac_le15 f hn (show 15 ≤ 15 by omega)
      have hu := us_nn f s
      have good : okC f s (q ≠ 0) → L_X12_make_119 Y X (fun r iv' av' => OffM [k] [] iv iv' ∧ Off [k + 1] av av' ∧ ((r = 0 ∧ ¬ okC f s (q ≠ 0)) ∨ (r = 1 ∧ okC f s (q ≠ 0) ∧ TR av' k f s))) k a1 a s (up2 iv k 1 1) (up2 (up2 av (k + 1) 0 0) (k + 1) 1 0) := by
        intro hok
        refine w_X12_make_119 C Kk Ka ?_
        refine l_X12_make125 C Kk Ka ha1 hlen hok (iv0 := iv) (fun iv' av' a1 a2 a3 => ⟨a1, a2, Or.inr ⟨rfl, hok, a3⟩⟩) 15 0 _ _ 1 (fun _ => 0) (fun _ => 0) (by omega) f0 g0 (up2_eq _ _ _ _) ?_ ?_
        · exact TG.init f s (by rw [up2_nj (by decide), up2_eq]) (by rw [up2_eq])
        · show ((1 : Nat) : Int) ≤ 1 + ((0 + 1 : Nat) : Int) - 2 * 0 + 0 + 0
          decide
      have badd : ¬ okC f s (q ≠ 0) → L_X12_make_117 Y X (fun r iv' av' => OffM [k] [] iv iv' ∧ Off [k + 1] av av' ∧ ((r = 0 ∧ ¬ okC f s (q ≠ 0)) ∨ (r = 1 ∧ okC f s (q ≠ 0) ∧ TR av' k f s))) k a1 (up2 iv k 1 1) (up2 (up2 av (k + 1) 0 0) (k + 1) 1 0) := by
        intro hok
        exact w_X12_make_117 C Kk Ka ⟨f0, g0, Or.inl ⟨rfl, hok⟩⟩
      refine w_X12_make_28 C Kk Ka (by omega) hq (by omega) (by omega) (by omega) ⟨fun _ => ⟨fun h => good (Or.inl h), fun h => ⟨fun h1 => ⟨fun h0 => badd ?_, fun h0 => ⟨fun hq => good (Or.inr (Or.inr ⟨h0, hq⟩)), fun hq => badd ?_⟩⟩, fun h1 => ⟨fun h2 => good (Or.inr (Or.inl ⟨h1, h2⟩)), fun h2 => ⟨fun h0 => badd ?_, fun h0 => absurd h0 (by omega)⟩⟩⟩⟩, fun h => absurd h (by omega)⟩
      · rintro (g | g | g) <;> omega
      · rintro (g | g | g) <;> omega
      · rintro (g | g | g) <;> omega
    | succ m ih =>
      intro s h1
      have hf := hlen.2.2 s (by omega)
      have hac := ac_le15 f (show s ≤ 288 by omega) (show 15 ≤ 15 by omega)
      have hu := us_nn f s
      have eav : up2 (up2 av (k + 1) 0 0) (k + 1) 1 0 a1 (a + s) = f s := by rw [g0 a1 (by simp [ha1])]; exact hf.1
      have eu : us f (s + 1) = us f s + if 0 < f s then 1 else 0 := rfl
      have ea := ac_succ f s 15
      refine w_X12_make_28 C Kk Ka (by omega) hq (by omega) (by omega) (by omega) ⟨fun h => absurd h (by omega), fun _ => ⟨by omega, ?_⟩⟩
      rw [show ((a : Int) + s).toNat = a + s by omega, eav]
      refine fun _ => ⟨fun hle => w_X12_make_64 C Kk Ka (by omega) ⟨fun _ => w_X12_make_80 C Kk Ka ?_, fun h => absurd hle h⟩, fun hgt => ⟨by omega, w_X12_make_64 C Kk Ka (by omega) ⟨fun h => absurd h hgt, fun _ => w_X12_make_80 C Kk Ka ?_⟩⟩⟩
      · rw [show (s : Int) + 1 = ((s + 1 : Nat) : Int) by omega]
        have := ih (s + 1) (by omega)
        rw [ea, eu, if_neg (by omega), if_neg (by omega), Int.add_zero, Int.add_zero] at this
        exact this
      · rw [show (s : Int) + 1 = ((s + 1 : Nat) : Int) by omega]
        have := ih (s + 1) (by omega)
        rw [ea, eu, if_pos (by omega), if_pos (by omega)] at this
        rw [Int.one_mul]
        exact this
  have := key n 0 (by omega)
  rw [ac_0] at this
  exact this
end SRmake
