/-! The class takes items and makes lengths. -/
section SMaker
variable {Y : Gl} {X : Cx} {e : Nat} {iv av : IVt}
theorem s_X6_takeItems {w : Nat → Int} {m l W : Nat} (hm : m ≤ 288) (hl : l < 15) {x2 : Int} (hx2 : InR x2) (hW : x2.toNat = W) (hWm : W ≤ m + Pn m l) (hL : LsC av w m l) (ht : ∀ i, i < m → 0 ≤ av 29 i ∧ av 29 i ≤ 1000) : OkN Y (e + 1) mX6_takeItems [.ref (gl_b Y + 26), .int (i32 (l : Int)), .int (i32 x2)] RV iv av 116
    (fun r iv' av' => iv' = iv ∧ Off [29] av av' ∧ (∀ i, i < m → av' 29 i = av 29 i + if i < mA w m l W then 1 else 0) ∧ r = ((2 * (W - mA w m l W) : Nat) : Int)) := by
  have hP0 := Pn_le (m := m) l
  refine o_X6_takeItems (by omega) fun X C => ?_
  rw [show max (l : Int) 0 * 576 = ((576 * l : Nat) : Int) by omega]
  have hA1 : mA w m l W ≤ W := ms_le _ _ _ _ _
  have hA2 : mA w m l W ≤ m ∧ W ≤ mA w m l W + Pn m l := ms_in _ _ _ _ _ hWm
  have lp2 : ∀ (j k : Nat) (av1 : IVt), j + k = mA w m l W → Off [29] av av1 → (∀ i, i < m → av1 29 i = av 29 i + if i < k then 1 else 0) → L_X6_takeItems_77 Y X (fun r iv' av' => iv' = iv ∧ Off [29] av av' ∧ (∀ i, i < m → av' 29 i = av 29 i + if i < mA w m l W then 1 else 0) ∧ r = ((2 * (W - mA w m l W) : Nat) : Int)) ((mA w m l W : Nat) : Int) ((W - mA w m l W : Nat) : Int) k iv av1 := by
    intro j
    induction j with
    | zero =>
      intro k av1 h1 h2 h3
      refine w_X6_takeItems_77 C (by omega) (by omega) ⟨fun _ => ⟨by omega, rfl, h2, fun i hi => ?_, by omega⟩, fun g => absurd g (by omega)⟩
      rw [h3 i hi, show k = mA w m l W by omega]
    | succ j ih =>
      intro k av1 h1 h2 h3
      have q := h3 k (by omega)
      have q2 := ht k (by omega)
      rw [if_neg (by omega)] at q
      refine w_X6_takeItems_77 C (by omega) (by omega) ⟨fun g => absurd g (by omega), fun _ => ⟨fun g => absurd g (by omega), fun _ => ⟨by omega, ?_⟩⟩⟩
      rw [Int.toNat_natCast, show (k : Int) + 1 = ((k + 1 : Nat) : Int) by omega]
      refine fun _ => ⟨by omega, ih (k + 1) _ (by omega) (h2.up (by decide)) fun i hi => ?_⟩
      rw [up2_at]
      by_cases hik : i = k
      · rw [if_pos hik, if_pos (by omega), q, hik]
        omega
      · rw [if_neg hik, h3 i hi]
        by_cases h : i < k
        · rw [if_pos h, if_pos (by omega)]
        · rw [if_neg h, if_neg (by omega)]
  have lp : ∀ (j k : Nat), j + k = W → L_X6_takeItems_19 Y X (fun r iv' av' => iv' = iv ∧ Off [29] av av' ∧ (∀ i, i < m → av' 29 i = av 29 i + if i < mA w m l W then 1 else 0) ∧ r = ((2 * (W - mA w m l W) : Nat) : Int)) x2 ((mA w m l k : Nat) : Int) ((k - mA w m l k : Nat) : Int) ((576 * l : Nat) : Int) k iv av := by
    intro j
    induction j with
    | zero =>
      intro k h1
      have hk : k = W := by omega
      subst hk
      have go := lp2 (mA w m l k) 0 av (by omega) (Off.rf _ _) fun i hi => by rw [if_neg (by omega), Int.add_zero]
      exact w_X6_takeItems_19 C hx2 (by omega) ⟨fun _ => go, fun g => absurd g (by omega)⟩
    | succ j ih =>
      intro k h1
      have ha1 : mA w m l k ≤ k := ms_le _ _ _ _ _
      have hmsS : mA w m l (k + 1) = if mS w m l k then mA w m l k + 1 else mA w m l k := rfl
      have hLk := hL k (by omega)
      refine w_X6_takeItems_19 C hx2 (by omega) ⟨fun g => absurd g (by omega), fun _ => ⟨fun g => absurd g (by omega), fun _ => ⟨by omega, fun g => absurd g (by omega), fun _ => ⟨by omega, ?_⟩⟩⟩⟩
      rw [show (((576 * l : Nat) : Int) + (k : Int)).toNat = 576 * l + k by omega, hLk]
      have := ih (k + 1) (by omega)
      rw [hmsS] at this
      by_cases hS : mS w m l k
      · rw [if_pos hS] at this ⊢
        refine fun _ => ⟨fun _ => ?_, fun g => absurd rfl g⟩
        rw [show ((mA w m l k : Nat) : Int) + 1 = ((mA w m l k + 1 : Nat) : Int) by omega, show (k : Int) + 1 = ((k + 1 : Nat) : Int) by omega, show k - mA w m l k = k + 1 - (mA w m l k + 1) by omega]
        exact this
      · rw [if_neg hS] at this ⊢
        refine fun _ => ⟨fun g => absurd g (by decide), fun _ => ?_⟩
        rw [show ((k - mA w m l k : Nat) : Int) + 1 = ((k + 1 - mA w m l k : Nat) : Int) by omega, show (k : Int) + 1 = ((k + 1 : Nat) : Int) by omega]
        exact this
  exact lp W 0 (by omega)
/-- what the lists before take -/
def elq (w : Nat → Int) (m : Nat) : Nat → Nat → Nat → Int
  | 0, _, _ => 0
  | l + 1, W, a => el w m l W a
theorem elq_succ (w : Nat → Int) (m l W a : Nat) : elq w m (l + 1) W a = (if a < mA w m l W then 1 else 0) + elq w m l (2 * (W - mA w m l W)) a := by
  cases l with
  | zero => show el w m 0 W a = _ + 0; rw [Int.add_zero, el]
  | succ l => rfl
theorem elq_le (w : Nat → Int) (m q W a : Nat) : 0 ≤ elq w m q W a ∧ elq w m q W a ≤ q := by
  cases q with
  | zero => exact ⟨Int.le_refl 0, Int.le_refl 0⟩
  | succ q => exact el_le w m q W a
section SMakeX
variable {k1 n lim : Nat} {c : Nat → Int}
theorem l_X6_make131 (C : CX Y X RX6 "make" cX6_make 7 none (e + 2) 0 0) (K : CodeK RV 116 k1) (hk : 33 ≤ k1) (hn2 : kl (k1 + 2) = n) (hn : n ≤ 288) {av0 : IVt} (h27 : ∀ i, i < (srt c n).1 → av0 27 i = (srt c n).2 i) (h29 : (srt c n).1 ≠ 1 → ∀ i, i < (srt c n).1 → av0 29 i = lvl c n lim i) {P : PN} (hP : ∀ av', Off [k1 + 2] av0 av' → (∀ s, s < n → av' (k1 + 2) s = lns c n lim s) → P 0 iv av') (hz : ∀ s, s < n → av0 (k1 + 2) s = 0) :
    ∀ (j i : Nat) (av1 : IVt), j + i = (srt c n).1 → Off [k1 + 2] av0 av1 → (∀ t, t < i → av1 (k1 + 2) ((srt c n).2 t) = lvl c n lim t) → (∀ s, s < n → ¬ 0 < c s → av1 (k1 + 2) s = 0) → L_X6_make_131 Y X P k1 ((srt c n).1 : Nat) i iv av1 := by
  obtain ⟨o1, o2, o3, o4⟩ := srt_ok c n
  intro j
  induction j with
  | zero =>
    intro i av1 h1 h2 h3 h4
    exact w_X6_make_131 C K (by omega) (by omega) ⟨fun _ => hP av1 h2 fun s hs => lns_all (fun t ht => h3 t (by omega)) h4 hs, fun g => absurd g (by omega)⟩
  | succ j ih =>
    intro i av1 h1 h2 h3 h4
    obtain ⟨o5, o6⟩ := o1 i (by omega)
    have e27 : av1 27 i = (srt c n).2 i := (congrFun (h2 27 (by simp; omega)) i).trans (h27 i (by omega))
    have e29 : av1 29 i = av0 29 i := congrFun (h2 29 (by simp; omega)) i
    have go : ∀ v : Int, v = lvl c n lim i → ∀ iv2 av2, (iv2 = iv ∧ av2 = up2 av1 (k1 + 2) ((srt c n).2 i) v) → L_X6_make_131 Y X P k1 ((srt c n).1 : Nat) ((i : Int) + 1) iv2 av2 := by
      rintro v hv iv2 av2 ⟨rfl, rfl⟩
      rw [show (i : Int) + 1 = ((i + 1 : Nat) : Int) by omega]
      refine ih (i + 1) _ (by omega) (h2.up (by simp)) (fun t ht => ?_) fun s hs hc => ?_
      · rw [up2_at]
        by_cases hti : t = i
        · rw [if_pos (by rw [hti]), hv, hti]
        · rw [if_neg fun h => hti (o2 t i (by omega) (by omega) h)]
          exact h3 t (by omega)
      · rw [up2_at, if_neg fun h => hc (by rw [h]; exact o6)]
        exact h4 s hs hc
    refine w_X6_make_131 C K (by omega) (by omega) ⟨fun g => absurd g (by omega), fun _ => ⟨fun g => absurd g (by omega), fun _ => ⟨fun g => absurd g (by omega), fun _ => ⟨by omega, ?_⟩⟩⟩⟩
    rw [Int.toNat_natCast, e27, e29]
    refine fun _ => ⟨fun hne => fun hr => ?_, fun he => ?_⟩
    · refine OkN.mono (s_X3_setLength K (x := ((srt c n).2 i : Nat)) (v := av0 29 i) (by omega) hr (by omega) (by omega)) ?_
      rintro r iv2 av2 hR2 ⟨g1, g2⟩
      rw [Int.toNat_natCast] at g2
      exact go _ (h29 (by omega) i (by omega)) iv2 av2 ⟨g1, g2⟩
    · refine OkN.mono (s_X3_setLength K (x := ((srt c n).2 i : Nat)) (v := 1) (by omega) (by omega) (by omega) (by omega)) ?_
      rintro r iv2 av2 hR2 ⟨g1, g2⟩
      rw [Int.toNat_natCast] at g2
      exact go _ (by unfold lvl; rw [if_pos (by omega)]) iv2 av2 ⟨g1, g2⟩
theorem l_X6_make107 (C : CX Y X RX6 "make" cX6_make 7 none (e + 2) 0 0) (K : CodeK RV 116 k1) {w : Nat → Int} {m : Nat} (hm : m ≤ 288) (hlim : lim ≤ 15) {av0 : IVt} {tot : Nat → Int} (hL : ∀ l, l < lim → LsC av0 w m l) {P : PN} (hP : ∀ av', Off [29] av0 av' → (∀ i, i < m → av' 29 i = tot i) → L_X6_make_131 Y X P k1 m 0 iv av') (htot : ∀ i, 0 ≤ tot i ∧ tot i ≤ 100) :
    ∀ (q : Nat) (x5 : Int) (W : Nat) (av1 : IVt), q ≤ lim → InR x5 → x5.toNat = W → (∀ l, q = l + 1 → W ≤ m + Pn m l) → Off [29] av0 av1 → (∀ i, i < m → 0 ≤ av1 29 i ∧ av1 29 i + elq w m q W i = tot i) → L_X6_make_107 Y X P k1 m x5 ((q : Int) - 1) iv av1 := by
  intro q
  induction q with
  | zero =>
    intro x5 W av1 h1 h2 h3 h4 h5 h6
    refine w_X6_make_107 C K h2 (by omega) ⟨fun _ => hP av1 h5 fun i hi => ?_, fun g => absurd g (by omega)⟩
    have := h6 i hi
    rw [elq] at this
    omega
  | succ l ih =>
    intro x5 W av1 h1 h2 h3 h4 h5 h6
    refine w_X6_make_107 C K h2 (by omega) ⟨fun g => absurd g (by omega), fun _ => ?_⟩
    rw [show ((l + 1 : Nat) : Int) - 1 = (l : Int) by omega]
    have hWm := h4 l rfl
    refine OkN.mono (s_X6_takeItems hm (by omega) h2 h3 hWm (w := w) (fun k hk => (congrFun (h5 32 (by decide)) _).trans (hL l (by omega) k hk)) fun i hi => ?_) ?_
    · have a := h6 i hi
      have b := htot i
      have d := elq_le w m (l + 1) W i
      omega
    · rintro r iv2 av2 hR2 ⟨rfl, g2, g3, rfl⟩ hr
      rw [show (l : Int) + -1 = (l : Int) - 1 by omega]
      have hA2 : mA w m l W ≤ m ∧ W ≤ mA w m l W + Pn m l := ms_in _ _ _ _ _ hWm
      refine ih _ (2 * (W - mA w m l W)) av2 (by omega) hr (by rw [Int.toNat_natCast]) (fun l' hl' => ?_) (h5.tr g2) fun i hi => ?_
      · subst hl'
        have : Pn m (l' + 1) = (m + Pn m l') / 2 := rfl
        omega
      · have a := h6 i hi
        rw [elq_succ] at a
        rw [g3 i hi]
        split at a <;> omega
theorem l_X6_make72 (C : CX Y X RX6 "make" cX6_make 7 none (e + 2) 0 0) (K : CodeK RV 116 k1) {w : Nat → Int} {m : Nat} (hm : m ≤ 288) (hlim : lim ≤ 15) (hPn : m ≤ Pn m (lim - 1) + 1) {M : Int} (hM : ∀ a, 0 ≤ w a ∧ w a ≤ M) (hM2 : M ≤ 10000) {av0 : IVt} (hw : ∀ i, i < m → av0 28 i = w i) (h29 : ∀ i, i < m → av0 29 i = 0) {P : PN} (hP : ∀ av', Off [29, 30, 31, 32] av0 av' → (∀ i, i < 576 → av' 32 i = av0 32 i) → (∀ i, i < m → av' 29 i = el w m (lim - 1) (2 * m - 2) i) → L_X6_make_131 Y X P k1 m 0 iv av') :
    ∀ (j l : Nat) (av1 : IVt), j + (l + 1) = lim → Off [30, 31, 32] av0 av1 → (∀ i, i < 576 → av1 32 i = av0 32 i) → (∀ k, k < m + Pn m l → av1 30 k = mW w m l k) → (∀ l', l' ≤ l → LsC av1 w m l') → L_X6_make_72 Y X P k1 lim m ((m + Pn m l : Nat) : Int) ((l + 1 : Nat) : Int) iv av1 := by
  intro j
  induction j with
  | zero =>
    intro l av1 h1 h2 h3 h4 h5
    have hP0 := Pn_le (m := m) l
    refine w_X6_make_72 C K (by omega) (by omega) (by omega) (by omega) ⟨fun _ => ?_, fun g => absurd g (by omega)⟩
    have e1 : lim = l + 1 := by omega
    subst e1
    rw [show l + 1 - 1 = l by omega] at hPn
    refine l_X6_make107 C K hm hlim (w := w) (lim := l + 1) (av0 := av1) (tot := el w m l (2 * m - 2)) (fun l' hl' => h5 l' (by omega)) (fun av' g1 g2 => hP av' ((h2.mono (by decide)).tr (g1.mono (by decide))) (fun i hi => (congrFun (g1 32 (by decide)) i).trans (h3 i hi)) g2) (fun i => ?_) (l + 1) _ (2 * m - 2) av1 (Nat.le_refl _) (by omega) (by omega) (fun l' hl' => ?_) (Off.rf _ _) fun i hi => ?_
    · have := el_le w m l (2 * m - 2) i
      omega
    · have : l' = l := by omega
      subst this
      omega
    · rw [(congrFun (h2 29 (by decide)) i).trans (h29 i hi), Int.zero_add]
      exact ⟨Int.le_refl 0, rfl⟩
  | succ j ih =>
    intro l av1 h1 h2 h3 h4 h5
    have hP0 := Pn_le (m := m) l
    refine w_X6_make_72 C K (by omega) (by omega) (by omega) (by omega) ⟨fun g => absurd g (by omega), fun _ => ?_⟩
    refine OkN.mono (s_X6_makeList hm (by omega) (fun i hi => (congrFun (h2 28 (by decide)) i).trans (hw i hi)) h4 hM hM2) ?_
    rintro r iv2 av2 hR2 ⟨rfl, g2, rfl, g4, g5, g6⟩ hr
    rw [show ((l + 1 : Nat) : Int) + 1 = ((l + 1 + 1 : Nat) : Int) by omega]
    refine ih (l + 1) av2 (by omega) (h2.tr g2) (fun i hi => (g5 i (by omega)).trans (h3 i hi)) g4 fun l' hl' => ?_
    by_cases hll : l' = l + 1
    · rw [hll]
      exact g6
    · intro k hk
      have hP1 := Pn_le (m := m) l'
      rw [g5 (576 * l' + k) (by omega)]
      exact h5 l' (by omega) k hk
theorem s_X6_make (K : CodeK RV 116 k1) (hk : 33 ≤ k1) (hn1 : kl (k1 + 1) = n) (hn2 : kl (k1 + 2) = n) (hn : n ≤ 288) (hl1 : 1 ≤ lim) (hlim : lim ≤ 15) (hPn : ∀ m, m ≤ n → m ≤ Pn m (lim - 1) + 1) (hc : ∀ s, 0 ≤ c s ∧ c s ≤ 10000) (hcn : ∀ s, s < n → av (k1 + 1) s = c s) (h32 : ∀ i, i < 576 → av 32 i = 0) :
    OkN Y (e + 2) mX6_make [.ref (gl_b Y + 26), .ref (gl_b Y + k1), .int (i32 (lim : Int))] RV iv av 116 (fun r iv' av' => iv' = iv ∧ Off [27, 28, 29, 30, 31, 32, k1 + 2] av av' ∧ (∀ i, i < 576 → av' 32 i = 0) ∧ ∀ s, s < n → av' (k1 + 2) s = lns c n lim s) := by
  refine o_X6_make K fun X C => ?_
  have lp : ∀ (j s : Nat) (av1 : IVt), j + s = n → Off [27, 28, k1 + 2] av av1 → SrC av1 c (srt c s).1 (srt c s).2 → (∀ t, t < s → av1 (k1 + 2) t = 0) → L_X6_make_5 Y X (fun r iv' av' => iv' = iv ∧ Off [27, 28, 29, 30, 31, 32, k1 + 2] av av' ∧ (∀ i, i < 576 → av' 32 i = 0) ∧ ∀ s, s < n → av' (k1 + 2) s = lns c n lim s) k1 lim ((srt c s).1 : Nat) s iv av1 := by
    intro j
    induction j with
    | zero =>
      intro s av1 h1 h2 h3 h4
      have es : s = n := by omega
      subst es
      obtain ⟨o1, o2, o3, o4⟩ := srt_ok c s
      refine w_X6_make_5 C K (by omega) (by omega) (OkN.mono (s_X3_symbols K) ?_)
      rintro r iv2 av2 hR2 ⟨rfl, rfl, rfl⟩ hr
      rw [hn1]
      refine ⟨fun _ => ?_, fun g => absurd g (by omega)⟩
      refine OkN.mono (s_X6_begin (w := fun a => c ((srt c s).2 a)) (m := (srt c s).1) (by omega) fun i hi => (h3 i hi).2) ?_
      rintro r iv3 av3 hR3 ⟨rfl, g2, g3, g4⟩
      have h32' : ∀ i, i < 576 → av3 32 i = 0 := fun i hi => by
        rw [g2 32 (by decide), h2 32 (by simp; omega)]
        exact h32 i hi
      have := l_X6_make72 (k1 := k1) (lim := lim) (Y := Y) (X := X) (e := e) (iv := iv3) C K (w := fun a => c ((srt c s).2 a)) (m := (srt c s).1) (by omega) hlim (hPn _ o4) (M := 10000) (fun a => hc _) (by omega) (av0 := av3) (fun i hi => (congrFun (g2 28 (by decide)) i).trans (h3 i hi).2) (fun i hi => g3 i (by omega)) (P := fun r iv' av' => iv' = iv3 ∧ Off [27, 28, 29, 30, 31, 32, k1 + 2] av av' ∧ (∀ i, i < 576 → av' 32 i = 0) ∧ ∀ s', s' < s → av' (k1 + 2) s' = lns c s lim s') ?_ (lim - 1) 0 av3 (by omega) (Off.rf _ _) (fun i hi => rfl) (fun k hk => ?_) fun l' hl' => ?_
      · rw [show ((0 + 1 : Nat) : Int) = 1 from rfl, show (srt c s).1 + Pn (srt c s).1 0 = (srt c s).1 from rfl] at this
        exact this
      · intro av4 q1 q2 q3
        have := l_X6_make131 (k1 := k1) (lim := lim) (n := s) (c := c) (Y := Y) (X := X) (e := e) (iv := iv3) C K hk hn2 hn (av0 := av4) (fun i hi => ?_) (fun hne i hi => ?_) (P := fun r iv' av' => iv' = iv3 ∧ Off [27, 28, 29, 30, 31, 32, k1 + 2] av av' ∧ (∀ i, i < 576 → av' 32 i = 0) ∧ ∀ s', s' < s → av' (k1 + 2) s' = lns c s lim s') ?_ ?_ (srt c s).1 0 av4 (by omega) (Off.rf _ _) (fun t ht => absurd ht (Nat.not_lt_zero _)) fun t ht _ => ?_
        · exact this
        · rw [q1 27 (by decide), g2 27 (by decide)]
          exact (h3 i hi).1
        · rw [q3 i hi]
          unfold lvl
          rw [if_neg hne]
        · intro av5 u1 u2
          refine ⟨rfl, ?_, fun i hi => ?_, u2⟩
          · refine ((h2.mono ?_).tr (g2.mono ?_)).tr ((q1.mono ?_).tr (u1.mono ?_)) <;> intro x hx <;> simp only [List.mem_cons, List.not_mem_nil, or_false] at hx ⊢ <;> omega
          · rw [u1 32 (by simp; omega), q2 i hi]
            exact h32' i hi
        · intro t ht
          rw [q1 (k1 + 2) (by simp; omega), g2 (k1 + 2) (by simp; omega)]
          exact h4 t ht
        · rw [q1 (k1 + 2) (by simp; omega), g2 (k1 + 2) (by simp; omega)]
          exact h4 t ht
      · rw [g4 k (by show k < _; have : Pn (srt c s).1 0 = 0 := rfl; omega)]
        show _ = wt _ _ _ _ k
        have e0 := mA_zero (fun a => c ((srt c s).2 a)) (srt c s).1 k
        unfold wt
        rw [if_pos (mS_zero _ _ k)]
        show _ = (fun a => c ((srt c s).2 a)) (mA (fun a => c ((srt c s).2 a)) (srt c s).1 0 k)
        rw [e0]
      · have : l' = 0 := by omega
        subst this
        intro k hk
        have : Pn (srt c s).1 0 = 0 := rfl
        rw [if_pos (mS_zero _ _ k)]
        exact h32' _ (by omega)
    | succ j ih =>
      intro s av1 h1 h2 h3 h4
      obtain ⟨o1, o2, o3, o4⟩ := srt_ok c s
      refine w_X6_make_5 C K (by omega) (by omega) (OkN.mono (s_X3_symbols K) ?_)
      rintro r iv2 av2 hR2 ⟨rfl, rfl, rfl⟩ hr
      rw [hn1]
      refine ⟨fun g => absurd g (by omega), fun _ => ?_⟩
      refine OkN.mono (s_X3_setLength K (x := (s : Nat)) (v := 0) (by omega) (by omega) (by omega) (by rw [hn2]; omega)) ?_
      rintro r iv3 av3 hR3 ⟨rfl, rfl⟩
      refine OkN.mono (s_X3_countOf K (x := (s : Nat)) (by omega)) ?_
      rintro r iv4 av4 hR4 ⟨rfl, rfl, rfl⟩ hr4
      rw [Int.toNat_natCast] at hr4 ⊢
      have ec : up2 av2 (k1 + 2) s 0 (k1 + 1) s = c s := by
        rw [up2_ne (by omega), h2 (k1 + 1) (by simp; omega)]
        exact hcn s (by omega)
      rw [if_pos (by omega), ec]
      have h2' : Off [27, 28, k1 + 2] av (up2 av2 (k1 + 2) s 0) := h2.up (by simp)
      have h3' : SrC (up2 av2 (k1 + 2) s 0) c (srt c s).1 (srt c s).2 := fun i hi => by
        rw [up2_ne (by omega), up2_ne (by omega)]
        exact h3 i hi
      have h4' : ∀ t, t < s + 1 → up2 av2 (k1 + 2) s 0 (k1 + 2) t = 0 := fun t ht => by
        rw [up2_at]
        split
        · rfl
        · exact h4 t (by omega)
      have hcs := hc s
      refine ⟨fun hle => ?_, fun hgt => ⟨fun g => absurd g (by omega), fun _ => ?_⟩⟩
      · have e : srt c (s + 1) = srt c s := by rw [srt, if_neg (by omega)]
        have := ih (s + 1) _ (by omega) h2' (by rw [e]; exact h3') h4'
        rw [e] at this
        rw [show (s : Int) + 1 = ((s + 1 : Nat) : Int) by omega]
        exact this
      · have e : srt c (s + 1) = ((srt c s).1 + 1, insR c s (srt c s).1 (srt c s).2) := by rw [srt, if_pos (by omega)]
        refine OkN.mono (s_X6_insert (by omega) (by omega) (by omega) h3') ?_
        rintro r iv5 av5 hR5 ⟨rfl, q2, q3⟩
        have := ih (s + 1) av5 (by omega) (h2'.tr (q2.mono (by intro x hx; simp only [List.mem_cons, List.not_mem_nil, or_false] at hx ⊢; omega))) (by rw [e]; exact q3) fun t ht => by
          rw [q2 (k1 + 2) (by simp; omega)]
          exact h4' t ht
        rw [e] at this
        rw [show (s : Int) + 1 = ((s + 1 : Nat) : Int) by omega, show (((srt c s).1 : Nat) : Int) + 1 = (((srt c s).1 + 1 : Nat) : Int) by omega]
        exact this
  exact lp n 0 av (by omega) (Off.rf _ _) (fun i hi => absurd hi (Nat.not_lt_zero _)) fun t ht => absurd ht (Nat.not_lt_zero _)
end SMakeX
end SMaker
