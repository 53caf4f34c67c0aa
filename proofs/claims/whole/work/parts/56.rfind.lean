/-! The reference finds lengths. -/
section RFind
variable {Y : Gl} {X : Cx} {e : Nat} {iv av : IVt} {f n lim : Nat}
theorem l_X13_find312 (C : CX Y X RX13 "findLengths" cX13_findLengths 12 none (e + 17) 0 0) {w : Nat → Int} {m : Nat} {R : Nat → Nat} (hm : m ≤ 288) (hm2 : 2 ≤ m) (hfn : f + n ≤ 339) (hR : ∀ a, a < m → R a < n) (hinj : ∀ a b, a < m → b < m → R a = R b → a = b) (hlim : lim ≤ 15) (hlim1 : 1 ≤ lim) (hPn : m ≤ Pn m (lim - 1) + 1) {av0 : IVt} (h101 : ∀ a, a < m → av0 101 a = R a) (hL : ∀ l, l < lim → LsR av0 w m l) {P : PN} (hP : ∀ av', Off [99] av0 av' → (∀ a, a < m → av' 99 (f + R a) = el w m (lim - 1) (2 * m - 2) a) → (∀ s, (∀ a, a < m → s ≠ f + R a) → av' 99 s = av0 99 s) → P 0 iv av') :
    ∀ (j i : Nat) (av1 : IVt), j + i = 2 * m - 2 → Off [99] av0 av1 → (∀ a, a < m → av1 99 (f + R a) = el w m (lim - 1) i a) → (∀ s, (∀ a, a < m → s ≠ f + R a) → av1 99 s = av0 99 s) → L_X13_findLengths_312 Y X P f lim m i iv av1 := by
  intro j
  induction j with
  | zero =>
    intro i av1 h1 h2 h3 h4
    have hi : i = 2 * m - 2 := by omega
    subst hi
    exact w_X13_findLengths_312 C (by omega) (by omega) (by omega) ⟨by omega, fun _ => hP av1 h2 h3 h4, fun g => absurd g (by omega)⟩
  | succ j ih =>
    intro i av1 h1 h2 h3 h4
    have hP0 := Pn_le (m := m) (lim - 1)
    refine w_X13_findLengths_312 C (by omega) (by omega) (by omega) ⟨by omega, fun g => absurd g (by omega), fun _ => ⟨fun g => absurd g (by omega), fun _ => ⟨by omega, ?_⟩⟩⟩
    have hd : e + 16 = e + 15 - (lim - 1) + (lim - 1) + 1 := by omega
    rw [show (lim : Int) - 1 = ((lim - 1 : Nat) : Int) by omega, hd]
    refine OkN.mono (s_X13_takeItem (e := e + 15 - (lim - 1)) (w := w) (m := m) (R := R) hm hfn hR hinj (lim - 1) i av1 (by omega) (by omega) (fun l' hl' k hk => (congrFun (h2 104 (by decide)) _).trans (hL l' (by omega) k hk)) (fun a ha => (congrFun (h2 101 (by decide)) a).trans (h101 a ha)) fun a ha => ?_) ?_
    · have q1 := el_le w m (lim - 1) i a
      have q2 := el_le w m (lim - 1) (i + 1) a
      have q3 := el_tk w m (lim - 1) i a
      rw [h3 a ha]
      omega
    · rintro r iv2 av2 hR2 ⟨rfl, g2, g3, g4⟩
      rw [show (i : Int) + 1 = ((i + 1 : Nat) : Int) by omega]
      refine ih (i + 1) av2 (by omega) (h2.tr g2) (fun a ha => ?_) fun s hs => (g4 s hs).trans (h4 s hs)
      rw [g3 a ha, h3 a ha, el_tk]
theorem l_X13_find86 (C : CX Y X RX13 "findLengths" cX13_findLengths 12 none (e + 17) 0 0) {w : Nat → Int} {m l : Nat} {R : Nat → Nat} (hm : m ≤ 288) (hm2 : 2 ≤ m) (hfn : f + n ≤ 339) (hR : ∀ a, a < m → R a < n) (hl : l < 15) {x3 : Int} (hVb : ∀ b, InR (Vw w m l b)) {av0 : IVt} (h101 : ∀ a, a < m → av0 101 a = R a) (h98 : ∀ a, a < m → av0 98 (f + R a) = w a) (h103 : ∀ b, b < Pn m l → av0 103 (2 * b) + av0 103 (2 * b + 1) = Vw w m l b) {P : PN} (hP : ∀ av', Off [102, 104] av0 av' → (∀ k, k < m + Pn m l → av' 102 k = mW w m l k) → (∀ i, i < 600 * l → av' 104 i = av0 104 i) → LsR av' w m l → L_X13_findLengths_276 Y X P f x3 m ((m + Pn m l : Nat) : Int) l 0 iv av') :
    ∀ (j k : Nat) (av1 : IVt), j + k = m + Pn m l → Off [102, 104] av0 av1 → (∀ i, i < k → av1 102 i = mW w m l i) → (∀ i, i < 600 * l → av1 104 i = av0 104 i) → (∀ i, i < k → av1 104 (600 * l + i) = if mS w m l i then ((mA w m l i : Nat) : Int) else -1 - 2 * ((i - mA w m l i : Nat) : Int)) → L_X13_findLengths_86 Y X P f x3 m k l ((Pn m l : Nat) : Int) ((mA w m l k : Nat) : Int) ((k - mA w m l k : Nat) : Int) iv av1 := by
  have hP0 := Pn_le (m := m) l
  intro j
  induction j with
  | zero =>
    intro k av1 h1 h2 h3 h4 h5
    have hk : k = m + Pn m l := by omega
    subst hk
    have ha1 : mA w m l (m + Pn m l) ≤ m + Pn m l := ms_le _ _ _ _ _
    have ha2 : mA w m l (m + Pn m l) ≤ m ∧ m + Pn m l ≤ mA w m l (m + Pn m l) + Pn m l := ms_in _ _ _ _ _ (by omega)
    exact w_X13_findLengths_86 C (by omega) (by omega) (by omega) (by omega) ⟨fun g => absurd g (by omega), fun _ => ⟨fun _ => hP av1 h2 h3 h4 h5, fun g => absurd g (by omega)⟩⟩
  | succ j ih =>
    intro k av1 h1 h2 h3 h4 h5
    have ha1 : mA w m l k ≤ k := ms_le _ _ _ _ _
    have ha2 : mA w m l k ≤ m ∧ k ≤ mA w m l k + Pn m l := ms_in _ _ _ _ _ (by omega)
    have hms1 : ∀ _ : Unit, mS w m l k → mA w m l (k + 1) = mA w m l k + 1 := fun _ h => if_pos h
    have hms2 : ∀ _ : Unit, ¬ mS w m l k → mA w m l (k + 1) = mA w m l k := fun _ h => if_neg h
    have hwt1 : ∀ _ : Unit, mS w m l k → mW w m l k = w (mA w m l k) := fun _ h => if_pos h
    have hwt2 : ∀ _ : Unit, ¬ mS w m l k → mW w m l k = Vw w m l (k - mA w m l k) := fun _ h => if_neg h
    have hiff : ∀ _ : Unit, mS w m l k ↔ (k - mA w m l k = Pn m l ∨ (mA w m l k < m ∧ w (mA w m l k) ≤ Vw w m l (k - mA w m l k))) := fun _ => Iff.rfl
    have hit : ∀ _ : Unit, ∀ t : Int, (mS w m l k → t = ((mA w m l k : Nat) : Int)) → (¬ mS w m l k → t = -1 - 2 * ((k - mA w m l k : Nat) : Int)) → t = if mS w m l k then ((mA w m l k : Nat) : Int) else -1 - 2 * ((k - mA w m l k : Nat) : Int) := by
      intro _ t q1 q2
      by_cases hS : mS w m l k
      · rw [if_pos hS]
        exact q1 hS
      · rw [if_neg hS]
        exact q2 hS
    have nxt : ∀ (v t : Int) (a' : Nat), mW w m l k = v → (mS w m l k → t = ((mA w m l k : Nat) : Int)) → (¬ mS w m l k → t = -1 - 2 * ((k - mA w m l k : Nat) : Int)) → mA w m l (k + 1) = a' → L_X13_findLengths_86 Y X P f x3 m ((k : Int) + 1) l ((Pn m l : Nat) : Int) (a' : Int) ((k + 1 - a' : Nat) : Int) iv (up2 (up2 av1 102 k v) 104 (600 * l + k) t) := by
      intro v t a' g1 g2 g2' g3
      have := ih (k + 1) (up2 (up2 av1 102 k v) 104 (600 * l + k) t) (by omega) ((h2.up (by decide)).up (by decide)) (fun i hi => ?_) (fun i hi => ?_) fun i hi => ?_
      · rw [g3] at this
        exact this
      · rw [up2_ne (by decide), up2_at]
        by_cases hik : i = k
        · rw [if_pos hik, hik, g1]
        · rw [if_neg hik]
          exact h3 i (by omega)
      · rw [up2_nj (by omega), up2_ne (by decide)]
        exact h4 i hi
      · rw [up2_at]
        by_cases hik : i = k
        · rw [if_pos (by rw [hik]), hik]
          exact hit () t g2 g2'
        · rw [if_neg (by omega), up2_ne (by decide)]
          exact h5 i (by omega)
    clear hit
    generalize mA w m l k = a at *
    have e101 : ∀ t, t < m → av1 101 t = R t := fun t ht => (congrFun (h2 101 (by decide)) t).trans (h101 t ht)
    have e98 : ∀ t, t < m → av1 98 (f + R t) = w t := fun t ht => (congrFun (h2 98 (by decide)) _).trans (h98 t ht)
    have e103 : ∀ t, t < Pn m l → av1 103 (2 * t) + av1 103 (2 * t + 1) = Vw w m l t := fun t ht => by
      rw [h2 103 (by decide)]
      exact h103 t ht
    have hRa : a < m → f + R a < 339 := fun h => by
      have := hR a h
      omega
    have sym : ∀ x : Int, InR x → mS w m l k → a < m → L_X13_findLengths_167 Y X P f x3 m k l ((Pn m l : Nat) : Int) (a : Int) ((k - a : Nat) : Int) x iv av1 := by
      intro x hx hS ham
      have hRa' := hRa ham
      refine w_X13_findLengths_167 C (w_X13_findLengths_174 C (by omega) hx (by omega) ⟨fun g => absurd g (by decide), fun _ => ⟨by omega, ?_⟩⟩)
      rw [Int.toNat_natCast, e101 a ham, show ((f : Int) + (R a : Nat)).toNat = f + R a by omega, e98 a ham, show (600 * (l : Int) + (k : Int)).toNat = 600 * l + k by omega, Int.toNat_natCast]
      refine fun _ => ⟨by omega, fun _ => ⟨by omega, fun g => absurd g (by decide), fun _ => ⟨by omega, fun g => absurd g (by decide), fun _ => ?_⟩⟩⟩
      refine w_X13_findLengths_251 C (by omega) ⟨fun g => absurd g (by decide), fun _ => w_X13_findLengths_267 C ?_⟩
      have := nxt (w a) a (a + 1) (hwt1 () hS) (fun _ => rfl) (fun h => absurd hS h) (hms1 () hS)
      rw [show (a : Int) + 1 = ((a + 1 : Nat) : Int) by omega, show ((k - a : Nat) : Int) = ((k + 1 - (a + 1) : Nat) : Int) by omega]
      exact this
    have par : ¬ mS w m l k → L_X13_findLengths_171 Y X P f x3 m k l ((Pn m l : Nat) : Int) (a : Int) ((k - a : Nat) : Int) (Vw w m l (k - a)) iv av1 := by
      intro hS
      refine w_X13_findLengths_171 C (w_X13_findLengths_174 C (by omega) (hVb _) (by omega) ⟨fun _ => ⟨by omega, fun _ => ⟨by omega, by omega, fun _ => ?_, fun g => (g rfl).elim⟩, fun g => (g rfl).elim⟩, fun g => (g rfl).elim⟩)
      rw [Int.toNat_natCast, show (600 * (l : Int) + (k : Int)).toNat = 600 * l + k by omega]
      refine w_X13_findLengths_251 C (by omega) ⟨fun _ => w_X13_findLengths_267 C ?_, fun g => (g rfl).elim⟩
      have := nxt (Vw w m l (k - a)) (-1 - 2 * ((k - a : Nat) : Int)) a (hwt2 () hS) (fun h => absurd h hS) (fun _ => rfl) (hms2 () hS)
      rw [show ((k - a : Nat) : Int) + 1 = ((k + 1 - a : Nat) : Int) by omega]
      exact this
    have nopar : k - a = Pn m l → L_X13_findLengths_134 Y X P f x3 m k l ((Pn m l : Nat) : Int) (a : Int) ((k - a : Nat) : Int) 0 iv av1 := by
      intro hb
      exact w_X13_findLengths_134 C (by omega) (by omega) (by omega) (by omega) (by omega) ⟨fun _ => sym 0 (by omega) ((hiff ()).mpr (Or.inl hb)) (by omega), fun g => absurd (show ((k - a : Nat) : Int) = ((Pn m l : Nat) : Int) by rw [hb]) g⟩
    have withpar : k - a < Pn m l → L_X13_findLengths_134 Y X P f x3 m k l ((Pn m l : Nat) : Int) (a : Int) ((k - a : Nat) : Int) (Vw w m l (k - a)) iv av1 := by
      intro hb
      refine w_X13_findLengths_134 C (by omega) (by omega) (by omega) (by omega) (hVb _) ⟨fun g => absurd g (by omega), fun _ => ⟨fun g => par fun hs => ?_, fun g => ⟨by omega, ?_⟩⟩⟩
      · rcases (hiff ()).mp hs with h | ⟨h, _⟩
        · omega
        · omega
      · have ham : a < m := by omega
        have hRa' := hRa ham
        rw [Int.toNat_natCast, e101 a ham, show ((f : Int) + (R a : Nat)).toNat = f + R a by omega, e98 a ham]
        refine fun _ => ⟨by omega, fun _ => ⟨fun g3 => par fun hs => ?_, fun g3 => sym _ (hVb _) ((hiff ()).mpr (Or.inr ⟨ham, Int.not_lt.mp g3⟩)) ham⟩⟩
        rcases (hiff ()).mp hs with h | ⟨_, h⟩
        · omega
        · exact absurd g3 (Int.not_lt.mpr h)
    have q1 : (2 * ((k - a : Nat) : Int)).toNat = 2 * (k - a) := by omega
    have q2 : (2 * ((k - a : Nat) : Int) + 1).toNat = 2 * (k - a) + 1 := by omega
    refine w_X13_findLengths_86 C (by omega) (by omega) (by omega) (by omega) ⟨fun ham => ⟨fun g => nopar (by omega), fun g => ⟨by omega, fun _ => ⟨by omega, fun _ => ?_⟩⟩⟩, fun ham => ⟨fun g => absurd g (by omega), fun g => ⟨fun g2 => absurd g2 (by omega), fun _ => ⟨by omega, fun _ => ⟨by omega, fun _ => ?_⟩⟩⟩⟩⟩
    · rw [q1, q2, e103 _ (by omega)]
      exact withpar (by omega)
    · rw [q1, q2, e103 _ (by omega)]
      exact withpar (by omega)
theorem l_X13_find276 (C : CX Y X RX13 "findLengths" cX13_findLengths 12 none (e + 17) 0 0) {x1 x3 x4 x6 : Int} {N : Nat} (hN : N ≤ 600) {av0 : IVt} {P : PN} (hP : ∀ av', Off [103] av0 av' → (∀ i, i < N → av' 103 i = av0 102 i) → L_X13_findLengths_59 Y X P x1 x3 x4 N (x6 + 1) iv av') :
    ∀ (j i : Nat) (av1 : IVt), j + i = N → Off [103] av0 av1 → (∀ t, t < i → av1 103 t = av0 102 t) → L_X13_findLengths_276 Y X P x1 x3 x4 N x6 i iv av1 := by
  intro j
  induction j with
  | zero =>
    intro i av1 h1 h2 h3
    exact w_X13_findLengths_276 C (by omega) (by omega) ⟨fun _ => hP av1 h2 fun t ht => h3 t (by omega), fun g => absurd g (by omega)⟩
  | succ j ih =>
    intro i av1 h1 h2 h3
    refine w_X13_findLengths_276 C (by omega) (by omega) ⟨fun g => absurd g (by omega), fun _ => ⟨by omega, fun _ => ?_⟩⟩
    rw [Int.toNat_natCast, show (i : Int) + 1 = ((i + 1 : Nat) : Int) by omega]
    refine ih (i + 1) _ (by omega) (h2.up (by decide)) fun t ht => ?_
    rw [up2_at]
    by_cases hti : t = i
    · rw [if_pos hti, hti, h2 102 (by decide)]
    · rw [if_neg hti]
      exact h3 t (by omega)
theorem l_X13_find59 (C : CX Y X RX13 "findLengths" cX13_findLengths 12 none (e + 17) 0 0) {w : Nat → Int} {m : Nat} {R : Nat → Nat} (hm : m ≤ 288) (hm2 : 2 ≤ m) (hfn : f + n ≤ 339) (hR : ∀ a, a < m → R a < n) (hlim : lim ≤ 15) (hVb : ∀ l b, l < 15 → InR (Vw w m l b)) {av0 : IVt} (h101 : ∀ a, a < m → av0 101 a = R a) (h98 : ∀ a, a < m → av0 98 (f + R a) = w a) {P : PN} (hP : ∀ av', Off [102, 103, 104] av0 av' → (∀ l, l < lim → LsR av' w m l) → L_X13_findLengths_312 Y X P f lim m 0 iv av') :
    ∀ (j l : Nat) (x5 : Int) (av1 : IVt), j + l = lim → 0 ≤ x5 → x5 ≤ 600 → x5 / 2 = (Pn m l : Nat) → Off [102, 103, 104] av0 av1 → (∀ b, b < Pn m l → av1 103 (2 * b) + av1 103 (2 * b + 1) = Vw w m l b) → (∀ l', l' < l → LsR av1 w m l') → L_X13_findLengths_59 Y X P f lim m x5 l iv av1 := by
  intro j
  induction j with
  | zero =>
    intro l x5 av1 h1 h2 h3 h4 h5 h6 h7
    exact w_X13_findLengths_59 C (by omega) (by omega) (by omega) (by omega) ⟨fun _ => hP av1 h5 fun l' hl' => h7 l' (by omega), fun g => absurd g (by omega)⟩
  | succ j ih =>
    intro l x5 av1 h1 h2 h3 h4 h5 h6 h7
    have hP0 := Pn_le (m := m) l
    refine w_X13_findLengths_59 C (by omega) (by omega) (by omega) (by omega) ⟨fun g => absurd g (by omega), fun _ => ⟨fun g => absurd g (by omega), fun _ => ⟨h2, ?_⟩⟩⟩
    rw [h4]
    have := l_X13_find86 (Y := Y) (X := X) (e := e) (iv := iv) (n := n) C (w := w) (l := l) (R := R) hm hm2 hfn hR (by omega) (x3 := lim) (fun b => hVb l b (by omega)) (av0 := av1) (fun a ha => (congrFun (h5 101 (by decide)) a).trans (h101 a ha)) (fun a ha => (congrFun (h5 98 (by decide)) _).trans (h98 a ha)) h6 (P := P) ?_ (m + Pn m l) 0 av1 (by omega) (Off.rf _ _) (fun i hi => absurd hi (Nat.not_lt_zero _)) (fun i hi => rfl) fun i hi => absurd hi (Nat.not_lt_zero _)
    · exact this
    · intro av2 g2 g3 g4 g5
      refine l_X13_find276 C (by omega) (av0 := av2) (fun av3 q2 q3 => ?_) (m + Pn m l) 0 av2 (by omega) (Off.rf _ _) fun t ht => absurd ht (Nat.not_lt_zero _)
      have hPs : Pn m (l + 1) = (m + Pn m l) / 2 := rfl
      rw [show (l : Int) + 1 = ((l + 1 : Nat) : Int) by omega]
      refine ih (l + 1) _ av3 (by omega) (by omega) (by omega) (by omega) ((h5.tr (g2.mono (by decide))).tr (q2.mono (by decide))) (fun b hb => ?_) fun l' hl' => ?_
      · rw [q3 (2 * b) (by omega), q3 (2 * b + 1) (by omega), g3 (2 * b) (by omega), g3 (2 * b + 1) (by omega)]
        rfl
      · by_cases hll : l' = l
        · rw [hll]
          intro k hk
          rw [q2 104 (by decide)]
          exact g5 k hk
        · intro k hk
          have hP1 := Pn_le (m := m) l'
          rw [q2 104 (by decide), g4 (600 * l' + k) (by omega)]
          exact h7 l' (by omega) k hk
theorem s_X13_findLengths {c : Nat → Int} (hfn : f + n ≤ 339) (hn : n ≤ 288) (hlim1 : 1 ≤ lim) (hlim : lim ≤ 15) (hPn : ∀ m, m ≤ n → m ≤ Pn m (lim - 1) + 1) (hc : ∀ s, 0 ≤ c s ∧ c s ≤ 10000) (hcn : ∀ s, s < n → av 98 (f + s) = c s) :
    OkN Y (e + 17) mX13_findLengths [.ref (gl_b Y + 73), .int (i32 (f : Int)), .int (i32 (n : Int)), .int (i32 (lim : Int))] RV iv av 116
    (fun r iv' av' => iv' = iv ∧ Off [99, 101, 102, 103, 104] av av' ∧ (∀ s, s < n → av' 99 (f + s) = lns c n lim s) ∧ ∀ i, (i < f ∨ f + n ≤ i) → av' 99 i = av 99 i) := by
  refine o_X13_findLengths (by omega) (by omega) fun X C => OkN.mono (s_X13_rank hfn hn hcn) ?_
  rintro r iv1 av1 hR1 ⟨rfl, g2, rfl, g4⟩ hr
  obtain ⟨o1, o2, o3, o4⟩ := srt_ok c n
  have hlv : ∀ i, lvl c n lim i = if (srt c n).1 = 1 then 1 else el (fun a => c ((srt c n).2 a)) (srt c n).1 (lim - 1) (2 * (srt c n).1 - 2) i := fun i => rfl
  have hall : ∀ g : Nat → Int, (∀ i, i < (srt c n).1 → g ((srt c n).2 i) = lvl c n lim i) → (∀ s, s < n → ¬ 0 < c s → g s = 0) → ∀ s, s < n → g s = lns c n lim s := fun g q1 q2 s hs => lns_all q1 q2 hs
  have hPm := hPn _ o4
  generalize (srt c n).1 = m at *
  generalize (srt c n).2 = R at *
  have fin : ∀ av2 : IVt, Off [99, 101, 102, 103, 104] av av2 → (∀ a, a < m → av2 99 (f + R a) = lvl c n lim a) → (∀ s, s < n → (∀ a, a < m → f + s ≠ f + R a) → av2 99 (f + s) = 0) → (∀ i, (i < f ∨ f + n ≤ i) → av2 99 i = av 99 i) → iv1 = iv1 ∧ Off [99, 101, 102, 103, 104] av av2 ∧ (∀ s, s < n → av2 99 (f + s) = lns c n lim s) ∧ ∀ i, (i < f ∨ f + n ≤ i) → av2 99 i = av 99 i := by
    intro av2 q1 q2 q3 q4
    refine ⟨rfl, q1, fun s hs => hall (fun s => av2 99 (f + s)) q2 (fun s hs hcs => q3 s hs fun a ha h => hcs ?_) s hs, q4⟩
    have : s = R a := by omega
    rw [this]
    exact (o1 a ha).2
  have lp : ∀ (j s : Nat) (av2 : IVt), j + s = n → Off [99] av1 av2 → (∀ t, t < s → av2 99 (f + t) = 0) → (∀ i, (i < f ∨ f + n ≤ i) → av2 99 i = av1 99 i) → L_X13_findLengths_11 Y X (fun r iv' av' => iv' = iv1 ∧ Off [99, 101, 102, 103, 104] av av' ∧ (∀ s, s < n → av' 99 (f + s) = lns c n lim s) ∧ ∀ i, (i < f ∨ f + n ≤ i) → av' 99 i = av 99 i) f n lim m s iv1 av2 := by
    intro j
    induction j with
    | zero =>
      intro s av2 h1 h2 h3 h4
      have es : s = n := by omega
      subst es
      have h4' : ∀ i, (i < f ∨ f + s ≤ i) → av2 99 i = av 99 i := fun i hi => (h4 i hi).trans (congrFun (g2 99 (by decide)) i)
      have hof : Off [99, 101, 102, 103, 104] av av2 := (g2.mono (by decide)).tr (h2.mono (by decide))
      refine w_X13_findLengths_11 C (by omega) (by omega) (by omega) ⟨fun _ => ⟨fun hne => ?_, fun heq => ?_⟩, fun g => absurd g (by omega)⟩
      · by_cases hm2 : 2 ≤ m
        · refine l_X13_find59 (n := s) C (w := fun a => c (R a)) (m := m) (R := R) (by omega) hm2 hfn (fun a ha => (o1 a ha).1) hlim (fun l b hl => ?_) (av0 := av2) (fun a ha => (congrFun (h2 101 (by decide)) a).trans (g4 a ha)) (fun a ha => ?_) (fun av3 u1 u2 => ?_) lim 0 0 av2 (by omega) (by omega) (by omega) rfl (Off.rf _ _) (fun b hb => absurd hb (Nat.not_lt_zero _)) fun l' hl' => absurd hl' (Nat.not_lt_zero _)
          · have q := (Vw_le (w := fun a => c (R a)) (m := m) (M := 10000) (fun a => hc _) l).1 b
            have h2l : (2 : Int) ^ l ≤ 16384 := (show ∀ l, l < 15 → (2 : Int) ^ l ≤ 16384 by decide) l (by omega)
            generalize Vw (fun a => c (R a)) m l b = v at *
            generalize (2 : Int) ^ l = u at *
            omega
          · rw [h2 98 (by decide), g2 98 (by decide)]
            exact hcn _ (o1 a ha).1
          · refine l_X13_find312 (n := s) C (w := fun a => c (R a)) (m := m) (R := R) (by omega) hm2 hfn (fun a ha => (o1 a ha).1) o2 hlim hlim1 hPm (av0 := av3) (fun a ha => ?_) u2 (fun av4 v1 v2 v3 => ?_) (2 * m - 2) 0 av3 (by omega) (Off.rf _ _) (fun a ha => ?_) fun t ht => rfl
            · rw [u1 101 (by decide), h2 101 (by decide)]
              exact g4 a ha
            · refine fin av4 ((hof.tr (u1.mono (by decide))).tr (v1.mono (by decide))) (fun a ha => ?_) (fun t ht hta => ?_) fun i hi => ?_
              · rw [v2 a ha, hlv, if_neg (by omega)]
              · rw [v3 _ hta, u1 99 (by decide)]
                exact h3 t ht
              · rw [v3 i fun a ha => by have := (o1 a ha).1; omega, u1 99 (by decide)]
                exact h4' i hi
            · rw [u1 99 (by decide), h3 _ (o1 a ha).1]
              have z : ∀ l, el (fun a => c (R a)) m l 0 a = 0 := by
                intro l
                induction l with
                | zero => rw [el, mA_zero, if_neg (by omega)]
                | succ l ihl =>
                  rw [el, if_neg (show ¬ a < ms _ _ _ _ 0 by rw [ms]; omega)]
                  show 0 + el _ _ l (2 * (0 - ms _ _ _ _ 0)) a = 0
                  rw [Nat.zero_sub, Nat.mul_zero, ihl]
                  rfl
              rw [z]
        · have hm0 : m = 0 := by omega
          have go : L_X13_findLengths_312 Y X (fun r iv' av' => iv' = iv1 ∧ Off [99, 101, 102, 103, 104] av av' ∧ (∀ s_1, s_1 < s → av' 99 (f + s_1) = lns c s lim s_1) ∧ ∀ i, (i < f ∨ f + s ≤ i) → av' 99 i = av 99 i) f lim m 0 iv1 av2 :=
            w_X13_findLengths_312 C (by omega) (by omega) (by omega) ⟨by omega, fun _ => fin av2 hof (fun a ha => absurd ha (by omega)) (fun t ht _ => h3 t ht) h4', fun g => absurd g (by omega)⟩
          exact w_X13_findLengths_59 C (by omega) (by omega) (by omega) (by omega) ⟨fun g => absurd g (by omega), fun _ => ⟨fun _ => go, fun g => absurd g (by omega)⟩⟩
      · have hm1 : m = 1 := by omega
        have hR0 := o1 0 (by omega)
        rw [(congrFun (h2 101 (by decide)) 0).trans (g4 0 (by omega)), show ((f : Int) + (R 0 : Nat)).toNat = f + R 0 by omega]
        refine fun _ => ⟨by omega, ?_⟩
        have go : L_X13_findLengths_312 Y X (fun r iv' av' => iv' = iv1 ∧ Off [99, 101, 102, 103, 104] av av' ∧ (∀ s_1, s_1 < s → av' 99 (f + s_1) = lns c s lim s_1) ∧ ∀ i, (i < f ∨ f + s ≤ i) → av' 99 i = av 99 i) f lim m 0 iv1 (up2 av2 99 (f + R 0) 1) := by
          refine w_X13_findLengths_312 C (by omega) (by omega) (by omega) ⟨by omega, fun _ => fin _ (hof.up (by decide)) (fun a ha => ?_) (fun t ht hta => ?_) fun i hi => ?_, fun g => absurd g (by omega)⟩
          · have : a = 0 := by omega
            subst this
            rw [up2_at, if_pos rfl, hlv, if_pos hm1]
          · rw [up2_at, if_neg (hta 0 (by omega))]
            exact h3 t ht
          · rw [up2_at, if_neg (by omega)]
            exact h4' i hi
        exact w_X13_findLengths_59 C (by omega) (by omega) (by omega) (by omega) ⟨fun g => absurd g (by omega), fun _ => ⟨fun _ => go, fun g => absurd g (by omega)⟩⟩
    | succ j ih =>
      intro s av2 h1 h2 h3 h4
      refine w_X13_findLengths_11 C (by omega) (by omega) (by omega) ⟨fun g => absurd g (by omega), fun _ => ⟨by omega, ?_⟩⟩
      rw [show ((f : Int) + (s : Int)).toNat = f + s by omega, show (s : Int) + 1 = ((s + 1 : Nat) : Int) by omega]
      refine ih (s + 1) _ (by omega) (h2.up (by decide)) (fun t ht => ?_) fun i hi => ?_
      · rw [up2_at]
        by_cases hts : t = s
        · rw [if_pos (by omega)]
        · rw [if_neg (by omega)]
          exact h3 t (by omega)
      · rw [up2_at, if_neg (by omega)]
        exact h4 i hi
  exact lp n 0 av1 (by omega) (Off.rf _ _) (fun t ht => absurd ht (Nat.not_lt_zero _)) fun i hi => rfl
end RFind
