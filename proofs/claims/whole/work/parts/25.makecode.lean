/-! The class' codes for unpacking: how they are made. -/
section SMakeCode
variable {Y : Gl} {X : Cx} {e : Nat} {iv av : IVt} {k a1 : Nat} {f : Nat → Int} {n : Nat}
/-- the lengths that a code is made from -/
def Len (av : IVt) (a1 a n : Nat) (f : Nat → Int) : Prop := a + n ≤ kl a1 ∧ n ≤ 288 ∧ ∀ s : Nat, s < n → av a1 (a + s) = f s ∧ 0 ≤ f s ∧ f s ≤ 15
theorem Len.of {av av' : IVt} {a : Nat} (h : Len av a1 a n f) (e : av' a1 = av a1) : Len av' a1 a n f := by
  unfold Len at *
  rw [e]
  exact h
theorem s_X9_lengthAt (K : ReadCK k) (Ka : ArrK 100 a1) {a : Nat} (h : Len av a1 a n f) {s : Nat} (hs : s < n) : OkN Y e mX9_lengthAt [.ref (gl_b Y + k), .ref (gl_b Y + a1), .int (i32 ((a : Int) + s))] RV iv av 116 (Same iv av (f s)) := by
  have h1 := h.1
  have h2 := h.2.2 s hs
  have hk := kl_le a1
  refine o_X9_lengthAt K Ka (by omega) ⟨fun h => absurd h (by omega), fun _ => ⟨fun h => absurd h (by omega), fun _ => ⟨by omega, fun _ => ⟨?_, rfl, rfl⟩⟩⟩⟩
  rw [show ((a : Int) + s).toNat = a + s by omega, h2.1]
  omega
theorem l_X9_sort56 (C : CX Y X RX9 "sort" cX9_sort 7 none (e + 1) 0 0) (K : ReadCK k) (Ka : ArrK 100 a1) {a : Nat} (h1 : a1 ≠ k + 2) (h2 : a1 ≠ k + 3) {P : PN} {av0 : IVt} (hlen : Len av0 a1 a n f) :
    ∀ (m s : Nat) (av : IVt), s + m = n → Off [k + 2, k + 3] av0 av → (∀ l : Nat, 1 ≤ l → l ≤ 15 → av (k + 3) l = bf f n (l - 1) + cn f l s) → (∀ t, t < s → 1 ≤ f t → av (k + 2) (rk f n t).toNat = t) →
    (∀ av', Off [k + 2, k + 3] av0 av' → (∀ t, t < n → 1 ≤ f t → av' (k + 2) (rk f n t).toNat = t) → P 0 iv av') → L_X9_sort_56 Y X P k a1 a n s iv av := by
  have ha := hlen.1
  have hn := hlen.2.1
  have hk := kl_le a1
  intro m
  induction m with
  | zero =>
    intro s av g1 g2 g3 g4 hP
    have hs : s = n := by omega
    subst hs
    exact w_X9_sort_56 C K Ka (by omega) (by omega) ⟨fun _ => hP av g2 g4, fun h => absurd h (by omega)⟩
  | succ m ih =>
    intro s av g1 g2 g3 g4 hP
    have hl : Len av a1 a n f := hlen.of (g2 a1 (by simp [h1, h2]))
    have hf := (hlen.2.2 s (by omega)).2
    refine w_X9_sort_56 C K Ka (by omega) (by omega) ⟨fun h => absurd h (by omega), fun _ => ⟨by omega, OkN.mono (s_X9_lengthAt K Ka hl (by omega)) ?_⟩⟩
    rintro r iv' av' hR ⟨rfl, rfl, rfl⟩ hr
    refine ⟨fun h0 => ?_, fun h0 => ⟨fun h => absurd h (by omega), fun _ => ⟨by omega, fun _ => ?_⟩⟩⟩
    · rw [show (s : Int) + 1 = ((s + 1 : Nat) : Int) by omega]
      refine ih (s + 1) av' (by omega) g2 (fun l l1 l2 => ?_) (fun t t1 t2 => ?_) hP
      · have e1 : cn f l (s + 1) = cn f l s + if f s = l then 1 else 0 := rfl
        rw [g3 l l1 l2, e1, if_neg (by omega)]
        omega
      · by_cases ht : t = s
        · subst ht; omega
        · exact g4 t (by omega) t2
    · have hrk := rk_lt (show s < n by omega) (show 1 ≤ f s by omega)
      have hbf := bf_le f (f s).toNat n
      have enx : av' (k + 3) (f s).toNat = rk f n s := by
        rw [g3 (f s).toNat (by omega) (by omega)]
        unfold rk
        rw [show (((f s).toNat : Nat) : Int) = f s by omega]
      rw [enx]
      refine ⟨fun h => absurd h (by omega), fun _ => ⟨fun h => absurd h (by omega), fun _ => ⟨by omega, by omega, ?_⟩⟩⟩
      rw [show (s : Int) + 1 = ((s + 1 : Nat) : Int) by omega]
      refine ih (s + 1) _ (by omega) ((g2.up (by simp)).up (by simp)) (fun l l1 l2 => ?_) (fun t t1 t2 => ?_) hP
      · have e1 : cn f l (s + 1) = cn f l s + if f s = l then 1 else 0 := rfl
        rw [up2_at, up2_ne (show k + 3 ≠ k + 2 by omega), g3 l l1 l2, e1]
        by_cases hls : l = (f s).toNat
        · rw [if_pos hls, if_pos (by omega)]
          unfold rk
          rw [← hls, show f s = l by omega]
          omega
        · rw [if_neg hls, if_neg (by omega)]
          omega
      · rw [up2_ne (show k + 2 ≠ k + 3 by omega), up2_at]
        by_cases ht : t = s
        · subst ht
          rw [if_pos rfl]
        · have := rk_ne (show t < n by omega) (show s < n by omega) t2 (show 1 ≤ f s by omega) ht
          have := rk_lt (show t < n by omega) t2
          rw [if_neg (by omega)]
          exact g4 t (by omega) t2
theorem l_X9_sort6 (C : CX Y X RX9 "sort" cX9_sort 7 none (e + 1) 0 0) (K : ReadCK k) (Ka : ArrK 100 a1) {a : Nat} (h1 : a1 ≠ k + 2) (h2 : a1 ≠ k + 3) {P : PN} {av0 : IVt} (hlen : Len av0 a1 a n f) (hc : ∀ l : Nat, 1 ≤ l → l ≤ 15 → av0 (k + 1) l = cn f l n)
    (hP : ∀ av', Off [k + 2, k + 3] av0 av' → (∀ t, t < n → 1 ≤ f t → av' (k + 2) (rk f n t).toNat = t) → P 0 iv av') :
    ∀ (m l : Nat) (av : IVt), l + m = 15 → Off [k + 2, k + 3] av0 av → (∀ j : Nat, 1 ≤ j → j ≤ l → av (k + 3) j = bf f n (j - 1)) → L_X9_sort_6 Y X P k a1 a n (bf f n l) ((l : Int) + 1) iv av := by
  have hn := hlen.2.1
  intro m
  induction m with
  | zero =>
    intro l av g1 g2 g3
    have hb := bf_le f l n
    refine w_X9_sort_6 C K Ka (by omega) (by omega) ⟨fun _ => ?_, fun h => absurd h (by omega)⟩
    refine l_X9_sort56 C K Ka h1 h2 hlen n 0 av (by omega) g2 (fun j j1 j2 => ?_) (fun t t1 => absurd t1 (Nat.not_lt_zero _)) hP
    rw [g3 j j1 (by omega)]
    show _ = _ + 0
    omega
  | succ m ih =>
    intro l av g1 g2 g3
    have hb := bf_le f l n
    refine w_X9_sort_6 C K Ka (by omega) (by omega) ⟨fun h => absurd h (by omega), fun _ => ⟨fun h => absurd h (by omega), fun _ => ⟨by omega, fun _ => ?_⟩⟩⟩
    have e1 : av (k + 1) ((l : Int) + 1).toNat = cn f ((l : Int) + 1) n := by
      rw [show ((l : Int) + 1).toNat = l + 1 by omega, g2 (k + 1) (by simp), hc (l + 1) (by omega) (by omega)]
      rfl
    have e2 : bf f n l + cn f ((l : Int) + 1) n = bf f n (l + 1) := rfl
    rw [e1, e2, show (l : Int) + 1 + 1 = ((l + 1 : Nat) : Int) + 1 by omega]
    refine ih (l + 1) _ (by omega) (g2.up (by simp)) fun j j1 j2 => ?_
    rw [up2_at]
    by_cases hj : j = ((l : Int) + 1).toNat
    · rw [if_pos hj, show j - 1 = l by omega]
    · rw [if_neg hj]
      exact g3 j j1 (by omega)
theorem s_X9_sort (K : ReadCK k) (Ka : ArrK 100 a1) {a : Nat} (h1 : a1 ≠ k + 2) (h2 : a1 ≠ k + 3) (hlen : Len av a1 a n f) (hc : ∀ l : Nat, 1 ≤ l → l ≤ 15 → av (k + 1) l = cn f l n) : OkN Y (e + 1) mX9_sort [.ref (gl_b Y + k), .ref (gl_b Y + a1), .int (i32 (a : Int)), .int (i32 (n : Int))] RV iv av 116
    (fun r iv' av' => iv' = iv ∧ Off [k + 2, k + 3] av av' ∧ ∀ t, t < n → 1 ≤ f t → av' (k + 2) (rk f n t).toNat = t) := by
  refine o_X9_sort K Ka fun X C => ?_
  exact l_X9_sort6 C K Ka h1 h2 hlen hc (fun av' g1 g2 => ⟨rfl, g1, g2⟩) 15 0 av (by omega) (Off.rf _ _) fun j j1 j2 => absurd j2 (by omega)
theorem l_X9_make102 (C : CX Y X RX9 "make" cX9_make 8 (some .boolean) (e + 2) 0 0) (K : ReadCK k) (Ka : ArrK 100 a1) (hn : n ≤ 288) (hc : ∀ l : Nat, 1 ≤ l → l ≤ 15 → av (k + 1) l = cn f l n) {q : Int} (hq0 : InR q) {P : PN} (hP : ∀ r : Int, (r = 0 ∧ ¬ okC f n (q ≠ 0)) ∨ (r = 1 ∧ okC f n (q ≠ 0)) → P r iv av) :
    ∀ (m l : Nat), l + m = 15 → ac f n l ≤ 2 ^ l → L_X9_make_102 Y X P k a1 q (us f n) (2 ^ l - ac f n l) ((l : Int) + 1) iv av := by
  have hu := us_nn f n
  have e15 : (2 : Int) ^ 15 = 32768 := rfl
  intro m
  induction m with
  | zero =>
    intro l h1 h2
    have hl : l = 15 := by omega
    subst hl
    have ha := (ac_le f n 15).1
    have ec : av (k + 1) 1 = cn f 1 n := hc 1 (by omega) (by omega)
    have hiff := okC_iff (f := f) (n := n) (q := q ≠ 0)
    refine w_X9_make_102 C K Ka (by omega) (by omega) (by omega) (by omega) ⟨fun _ => ⟨fun h => ?_, fun h => ⟨fun h1 => ⟨fun h0 => ?_, fun h0 => ⟨fun hq => ?_, fun hq => ?_⟩⟩, fun h1 _ => ⟨fun hc1 => ?_, fun hc1 => ⟨fun h0 => ?_, fun h0 => absurd h0 (by omega)⟩⟩⟩⟩, fun h => absurd h (by omega)⟩
    · exact hP 1 (Or.inr ⟨rfl, Or.inl (by omega)⟩)
    · exact hP 0 (Or.inl ⟨rfl, fun g => by rcases g with g | g | g <;> omega⟩)
    · exact hP 0 (Or.inl ⟨rfl, fun g => by rcases g with g | g | g <;> omega⟩)
    · exact hP 1 (Or.inr ⟨rfl, Or.inr (Or.inr ⟨h0, hq⟩)⟩)
    · rw [ec] at hc1
      exact hP 1 (Or.inr ⟨rfl, hiff.mpr (Or.inr (Or.inl ⟨h1, hc1⟩))⟩)
    · rw [ec] at hc1
      exact hP 0 (Or.inl ⟨rfl, fun g => by rcases hiff.mp g with g | g | g <;> omega⟩)
  | succ m ih =>
    intro l h1 h2
    have ha := (ac_le f n l).1
    have hp := pwL (show l ≤ 15 by omega)
    have hcn := cn_le f ((l : Int) + 1) n
    have ec : av (k + 1) ((l : Int) + 1).toNat = cn f ((l : Int) + 1) n := by
      rw [show ((l : Int) + 1).toNat = l + 1 by omega, hc (l + 1) (by omega) (by omega)]
      rfl
    have eac : ac f n (l + 1) = 2 * ac f n l + cn f ((l : Int) + 1) n := rfl
    have epw := pwS l
    refine w_X9_make_102 C K Ka (by omega) (by omega) (by omega) (by omega) ⟨fun h => absurd h (by omega), fun _ => ⟨by omega, fun _ => ?_⟩⟩
    rw [ec]
    refine ⟨by omega, fun h => ?_, fun h => hP 0 (Or.inl ⟨rfl, fun g => ?_⟩)⟩
    · rw [show 2 * (2 ^ l - ac f n l) - cn f ((l : Int) + 1) n = 2 ^ (l + 1) - ac f n (l + 1) by omega, show (l : Int) + 1 + 1 = ((l + 1 : Nat) : Int) + 1 by omega]
      exact ih (l + 1) (by omega) (by omega)
    · have := g.le (show l + 1 ≤ 15 by omega)
      omega
theorem l_X9_make33 (C : CX Y X RX9 "make" cX9_make 8 (some .boolean) (e + 2) 0 0) (K : ReadCK k) (Ka : ArrK 100 a1) {a : Nat} (h1 : a1 ≠ k + 1) (h2 : a1 ≠ k + 2) (h3 : a1 ≠ k + 3) {q : Int} (hq0 : InR q) {P : PN} {av0 : IVt} (hlen : Len av0 a1 a n f)
    (hP : ∀ r av', ((r = 0 ∧ ¬ okC f n (q ≠ 0)) ∨ (r = 1 ∧ okC f n (q ≠ 0))) → Off [k + 1, k + 2, k + 3] av0 av' → RC av' k f n → P r iv av') :
    ∀ (m s : Nat) (av : IVt), s + m = n → Off [k + 1, k + 2, k + 3] av0 av → (∀ l : Nat, l ≤ 15 → av (k + 1) l = cn f l s) → L_X9_make_33 Y X P k a1 a n q (us f s) s iv av := by
  have ha := hlen.1
  have hn := hlen.2.1
  have hk := kl_le a1
  intro m
  induction m with
  | zero =>
    intro s av g1 g2 g3
    have hs : s = n := by omega
    subst hs
    refine w_X9_make_33 C K Ka (by omega) (by omega) (by omega) ⟨fun _ => ?_, fun h => absurd h (by omega)⟩
    have g5 : ∀ l : Nat, 1 ≤ l → l ≤ 15 → up2 av (k + 1) 0 0 (k + 1) l = cn f l s := fun l l1 l2 => by
      rw [up2_nj (by omega)]
      exact g3 l l2
    have g4 : Off [k + 1, k + 2, k + 3] av0 (up2 av (k + 1) 0 0) := g2.up (by simp)
    refine OkN.mono (s_X9_sort K Ka h2 h3 (hlen.of (g4 a1 (by simp [h1, h2, h3]))) g5) ?_
    rintro r iv' av' hR ⟨rfl, q1, q2⟩
    have g6 : ∀ l : Nat, 1 ≤ l → l ≤ 15 → av' (k + 1) l = cn f l s := fun l l1 l2 => by
      rw [q1 (k + 1) (by simp)]
      exact g5 l l1 l2
    have g7 : Off [k + 1, k + 2, k + 3] av0 av' := g4.tr (q1.mono (by intro k' hk'; simp at hk' ⊢; omega))
    have := l_X9_make102 (iv := iv') (q := q) C K Ka hn g6 hq0 (P := P) (fun r hr => hP r av' hr g7 ⟨hn, g6, fun t t1 t2 _ => q2 t t1 t2⟩) 15 0 (by omega) (by show (0 : Int) ≤ 2 ^ 0; decide)
    simpa [ac] using this
  | succ m ih =>
    intro s av g1 g2 g3
    have hf := (hlen.2.2 s (by omega)).2
    have hl : Len av a1 a n f := hlen.of (g2 a1 (by simp [h1, h2, h3]))
    refine w_X9_make_33 C K Ka (by omega) (by omega) (by omega) ⟨fun h => absurd h (by omega), fun _ => ⟨by omega, OkN.mono (s_X9_lengthAt K Ka hl (by omega)) ?_⟩⟩
    rintro r iv' av' hR ⟨rfl, rfl, rfl⟩ hr
    have ec : av' (k + 1) (f s).toNat = cn f (f s) s := by
      rw [g3 (f s).toNat (by omega), show (((f s).toNat : Nat) : Int) = f s by omega]
    have hcn := cn_le f (f s) s
    rw [ec]
    have g4 : ∀ l : Nat, l ≤ 15 → up2 av' (k + 1) (f s).toNat (cn f (f s) s + 1) (k + 1) l = cn f l (s + 1) := fun l l1 => by
      have e1 : cn f l (s + 1) = cn f l s + if f s = l then 1 else 0 := rfl
      rw [up2_at, e1]
      by_cases hls : l = (f s).toNat
      · rw [if_pos hls, if_pos (by omega), show f s = (l : Int) by omega]
      · rw [if_neg hls, if_neg (by omega), g3 l l1]
        omega
    have eu : us f (s + 1) = us f s + if 0 < f s then 1 else 0 := rfl
    have hu := us_nn f s
    refine ⟨by omega, fun _ => ⟨by omega, fun h => ?_, fun h => ?_⟩⟩
    · have := ih (s + 1) (up2 av' (k + 1) (f s).toNat (cn f (f s) s + 1)) (by omega) (g2.up (by simp)) g4
      rw [eu, if_neg (by omega)] at this
      exact this
    · have := ih (s + 1) (up2 av' (k + 1) (f s).toNat (cn f (f s) s + 1)) (by omega) (g2.up (by simp)) g4
      rw [eu, if_pos (by omega)] at this
      exact this
theorem s_X9_make (K : ReadCK k) (Ka : ArrK 100 a1) {a : Nat} (h1 : a1 ≠ k + 1) (h2 : a1 ≠ k + 2) (h3 : a1 ≠ k + 3) {q : Int} (hq0 : InR q) (hlen : Len av a1 a n f) : OkN Y (e + 2) mX9_make [.ref (gl_b Y + k), .ref (gl_b Y + a1), .int (i32 (a : Int)), .int (i32 (n : Int)), .int (i32 q)] RV iv av 116
    (fun r iv' av' => iv' = iv ∧ ((r = 0 ∧ ¬ okC f n (q ≠ 0)) ∨ (r = 1 ∧ okC f n (q ≠ 0))) ∧ Off [k + 1, k + 2, k + 3] av av' ∧ RC av' k f n) := by
  refine o_X9_make K Ka fun X C => ?_
  have key : ∀ (m l : Nat) (av' : IVt), l + m = 16 → Off [k + 1, k + 2, k + 3] av av' → (∀ j : Nat, j < l → av' (k + 1) j = 0) → L_X9_make_3 Y X (fun r iv' av' => iv' = iv ∧ ((r = 0 ∧ ¬ okC f n (q ≠ 0)) ∨ (r = 1 ∧ okC f n (q ≠ 0))) ∧ Off [k + 1, k + 2, k + 3] av av' ∧ RC av' k f n) k a1 a n q l iv av' := by
    intro m
    induction m with
    | zero =>
      intro l av' g1 g2 g3
      refine w_X9_make_3 C K Ka (by omega) ⟨fun _ => ?_, fun h => absurd h (by omega)⟩
      exact l_X9_make33 C K Ka h1 h2 h3 hq0 hlen (fun r av2 q1 q2 q3 => ⟨rfl, q1, q2, q3⟩) n 0 av' (by omega) g2 fun l hl => g3 l (by omega)
    | succ m ih =>
      intro l av' g1 g2 g3
      refine w_X9_make_3 C K Ka (by omega) ⟨fun h => absurd h (by omega), fun _ => ⟨by omega, ?_⟩⟩
      rw [show (l : Int) + 1 = ((l + 1 : Nat) : Int) by omega]
      refine ih (l + 1) _ (by omega) (g2.up (by simp)) fun j hj => ?_
      rw [up2_at]
      by_cases hjl : j = (l : Int).toNat
      · rw [if_pos hjl]
      · rw [if_neg hjl]
        exact g3 j (by omega)
  exact key 16 0 av (by omega) (Off.rf _ _) fun j hj => absurd hj (Nat.not_lt_zero _)
end SMakeCode
