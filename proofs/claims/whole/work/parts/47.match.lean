/-! Matches: what is looked for, and the class' matcher. -/
def fnd (D : Nat → Int) (p mx : Nat) : Nat → Nat → Nat → Nat → Nat × Nat
  | 0, b, f, _ => (b, f)
  | q + 1, b, f, s => if 16 ≤ s ∨ 32768 < p - q then (b, f) else if 3 ≤ pre D q p mx then fnd D p mx q (if b < pre D q p mx then pre D q p mx else b) (if b < pre D q p mx then p - q else f) (s + 1) else fnd D p mx q b f s
/-- the best match at p in a part up to E: its length (0: none) and its distance -/
def bestM (D : Nat → Int) (p E : Nat) : Nat × Nat := if E < p + 3 then (0, 0) else fnd D p (min 258 (E - p)) p 0 0 0
theorem fnd_stop {D : Nat → Int} {p mx b f s : Nat} : ∀ q, (16 ≤ s ∨ q = 0 ∨ 32768 < p - (q - 1)) → fnd D p mx q b f s = (b, f) := by
  intro q h
  cases q with
  | zero => rfl
  | succ q =>
    unfold fnd
    rw [if_pos]
    rcases h with h | h | h
    · exact Or.inl h
    · omega
    · exact Or.inr (by simpa using h)
theorem fnd_skip {D : Nat → Int} {p mx b f s : Nat} : ∀ (m a : Nat), (∀ q, a ≤ q → q < a + m → pre D q p mx < 3) → fnd D p mx (a + m) b f s = fnd D p mx a b f s := by
  intro m
  induction m with
  | zero => intro a _; rfl
  | succ m ih =>
    intro a h
    rw [show a + (m + 1) = (a + m) + 1 by omega]
    have hm := h (a + m) (by omega) (by omega)
    rw [fnd]
    by_cases hs : 16 ≤ s ∨ 32768 < p - (a + m)
    · rw [if_pos hs]
      symm
      apply fnd_stop
      rcases hs with hs | hs
      · exact Or.inl hs
      · by_cases ha : a = 0
        · exact Or.inr (Or.inl ha)
        · exact Or.inr (Or.inr (by omega))
    · rw [if_neg hs, if_neg (by omega)]
      exact ih a fun q q1 q2 => h q q1 (by omega)
theorem fnd_full {D : Nat → Int} {p mx b f : Nat} (hb : mx ≤ b) : ∀ (q s : Nat), fnd D p mx q b f s = (b, f) := by
  intro q
  induction q with
  | zero => intro s; rfl
  | succ q ih =>
    intro s
    have hp := pre_le D mx q p
    rw [fnd]
    split
    · rfl
    · split
      · rw [if_neg (by omega), if_neg (by omega)]
        exact ih (s + 1)
      · exact ih s
theorem fnd_in {D : Nat → Int} {p mx : Nat} : ∀ (q b f s : Nat), q ≤ p → (b = 0 ∨ (3 ≤ b ∧ b ≤ mx ∧ 1 ≤ f ∧ f ≤ 32768 ∧ f ≤ p)) → ((fnd D p mx q b f s).1 = 0 ∨ (3 ≤ (fnd D p mx q b f s).1 ∧ (fnd D p mx q b f s).1 ≤ mx ∧ 1 ≤ (fnd D p mx q b f s).2 ∧ (fnd D p mx q b f s).2 ≤ 32768 ∧ (fnd D p mx q b f s).2 ≤ p)) := by
  intro q
  induction q with
  | zero => intro b f s _ h; exact h
  | succ q ih =>
    intro b f s hq h
    have hp := pre_le D mx q p
    rw [fnd]
    split
    · exact h
    · split
      · refine ih _ _ _ (by omega) ?_
        split
        · right; omega
        · exact h
      · exact ih b f s (by omega) h
theorem bestM_in (D : Nat → Int) (p E : Nat) : (bestM D p E).1 = 0 ∨ (3 ≤ (bestM D p E).1 ∧ (bestM D p E).1 ≤ 258 ∧ p + (bestM D p E).1 ≤ E ∧ 1 ≤ (bestM D p E).2 ∧ (bestM D p E).2 ≤ 32768 ∧ (bestM D p E).2 ≤ p) := by
  unfold bestM
  split
  · exact Or.inl rfl
  · rcases fnd_in (D := D) (mx := min 258 (E - p)) p 0 0 0 (Nat.le_refl p) (Or.inl rfl) with h | h
    · exact Or.inl h
    · exact Or.inr (by omega)
theorem pre_shift (g : Nat → Int) (F : Nat) : ∀ (m a b : Nat), pre (fun i => g (F + i)) a b m = pre g (F + a) (F + b) m := by
  intro m
  induction m with
  | zero => intro a b; rfl
  | succ m ih =>
    intro a b
    unfold pre
    rw [ih, show F + (a + 1) = F + a + 1 by omega, show F + (b + 1) = F + b + 1 by omega]
/-- the place before, of the same kind -/
def PrevOK (κ : Nat → Nat) (q : Nat) (c : Nat) (v : Int) : Prop := (v < 0 ∧ ∀ q', q' < q → κ q' ≠ c) ∨ ∃ a : Nat, a < q ∧ v = a ∧ κ a = c ∧ ∀ q', a < q' → q' < q → κ q' ≠ c
/-- the class' kind of a place -/
def hC (D : Nat → Int) (q : Nat) : Nat := ((g_or (g_or (D q % 256) (D (q + 1) % 256 * 256)) (D (q + 2) % 256 * 65536) * (-1640531535)) % 4294967296 / 131072).toNat
theorem hC_lt (D : Nat → Int) (q : Nat) : hC D q < 32768 := by unfold hC; omega
theorem hC_same {D : Nat → Int} {q p mx : Nat} (h : 3 ≤ pre D q p mx) : hC D q = hC D p := by
  have h0 := pre_same D mx q p 0 (by omega)
  have h1 := pre_same D mx q p 1 (by omega)
  have h2 := pre_same D mx q p 2 (by omega)
  unfold hC
  rw [Nat.add_zero, Nat.add_zero] at h0
  rw [h0, h1, h2]
/-- the class' chains over the first m places -/
def CHc (iv av : IVt) (D : Nat → Int) (m : Nat) : Prop := (∀ h, h < 32768 → PrevOK (hC D) m h (av 24 h - iv 23 2)) ∧ ∀ q, q < m → PrevOK (hC D) q (hC D q) (av 25 q)
section SMatch
variable {Y : Gl} {X : Cx} {e : Nat} {iv av : IVt} {k : Nat} {F n : Nat}
/-- the class packs n bytes of a row from F on -/
def MX (iv av : IVt) (k F n : Nat) (E : Int) : Prop := iv 23 3 = F ∧ iv 23 4 = ((F + n : Nat) : Int) ∧ ((F + n : Nat) : Int) ≤ iv k 1 ∧ iv k 1 ≤ kl (k + 1) ∧ n ≤ 65536 ∧ (1 ≤ iv 23 2 ∧ iv 23 2 + n ≤ E) ∧ E ≤ 100000000 ∧ ∀ h : Nat, h < 32768 → 0 ≤ av 24 h ∧ av 24 h < iv 23 2 + n
abbrev DB (av : IVt) (k F : Nat) : Nat → Int := fun i => av (k + 1) (F + i)
theorem s_X7_headOf {x : Int} : OkN Y e mX7_headOf [.int (i32 x)] RV iv av 116 (Same iv av (x * (-1640531535) % 4294967296 / 131072)) := o_X7_headOf ⟨rfl, rfl, rfl⟩
theorem b_three_eq (h : MX iv av k F n 100000000) {p : Nat} (hp : p + 3 ≤ n) : b_three iv av k ((F + p : Nat) : Int) = g_or (g_or (DB av k F p % 256) (DB av k F (p + 1) % 256 * 256)) (DB av k F (p + 2) % 256 * 65536) := by
  unfold b_three
  have := h.2.2.1
  rw [if_pos (by omega), Int.toNat_natCast, show (((F + p : Nat) : Int) + 1).toNat = F + (p + 1) by omega, show (((F + p : Nat) : Int) + 2).toNat = F + (p + 2) by omega]
theorem MX.wide {E : Int} (h : MX iv av k F n E) : MX iv av k F n 100000000 := by
  obtain ⟨h1, h2, h3, h4, h5, h6, h7, h8⟩ := h
  exact ⟨h1, h2, h3, h4, h5, by omega, by omega, h8⟩
theorem s_X7_know (K : BytesK k) (hk23 : k ≠ 23) (hk24 : k + 1 ≠ 24) (hk25 : k + 1 ≠ 25) {E : Int} (h : MX iv av k F n E) {p : Nat} (hp : p < n) (hc : CHc iv av (DB av k F) (min p (n - 2))) : OkN Y (e + 2) mX7_know [.ref (gl_b Y + 23), .ref (gl_b Y + k), .int (i32 ((F + p : Nat) : Int))] RV iv av 116
    (fun r iv' av' => iv' = iv ∧ Off [24, 25] av av' ∧ MX iv' av' k F n E ∧ CHc iv' av' (DB av k F) (min (p + 1) (n - 2))) := by
  have hh := h
  obtain ⟨h1, h2, h3, h4, h5, h6, h7, h8⟩ := h
  have hkl := kl_le (k + 1)
  refine o_X7_know K (by omega) (OkN.mono (s_X2_threeFrom K (by omega) (by omega) h4) ?_)
  rintro r iv1 av1 hR1 ⟨rfl, rfl, rfl⟩ hr1
  refine OkN.mono s_X7_headOf ?_
  rintro r iv2 av2 hR2 ⟨rfl, rfl, rfl⟩ hr2 _ _
  rw [h1, h2]
  refine ⟨by omega, fun hlt => ?_, fun hge => ⟨by omega, fun h => absurd h (by omega), fun _ => ⟨fun h => absurd h (by omega), fun _ => ⟨fun h => absurd h (by omega), fun _ => ⟨fun _ => ⟨by omega, fun _ _ => ⟨by omega, ?_⟩⟩, fun h => absurd h (by omega)⟩⟩⟩⟩⟩
  · refine ⟨rfl, Off.rf _ _, hh, ?_⟩
    rw [show min (p + 1) (n - 2) = min p (n - 2) by omega]
    exact hc
  · rw [b_three_eq hh.wide (by omega)]
    have e1 : (g_or (g_or (DB av2 k F p % 256) (DB av2 k F (p + 1) % 256 * 256)) (DB av2 k F (p + 2) % 256 * 65536) * (-1640531535) % 4294967296 / 131072).toNat = hC (DB av2 k F) p := rfl
    rw [e1]
    have hlt := hC_lt (DB av2 k F) p
    have hhd := h8 _ hlt
    have ep : (((F + p : Nat) : Int) - (F : Int)).toNat = p := by omega
    rw [ep]
    have hmin : min p (n - 2) = p := by omega
    rw [hmin] at hc
    refine ⟨by omega, by omega, rfl, ((Off.rf _ _).up (by decide)).up (by decide), ⟨h1, h2, h3, h4, h5, h6, h7, fun g hg => ?_⟩, ?_⟩
    · rw [up2_at, up2_ne (by decide)]
      split
      · omega
      · exact h8 g hg
    · rw [show min (p + 1) (n - 2) = p + 1 by omega]
      refine ⟨fun g hg => ?_, fun q hq => ?_⟩
      · rw [up2_at, up2_ne (by decide)]
        by_cases hgp : g = hC (DB av2 k F) p
        · rw [if_pos hgp]
          refine Or.inr ⟨p, by omega, by omega, hgp.symm, fun q' q1 q2 => by omega⟩
        · rw [if_neg hgp]
          rcases hc.1 g hg with ⟨c1, c2⟩ | ⟨a, c1, c2, c3, c4⟩
          · refine Or.inl ⟨c1, fun q' hq' => ?_⟩
            by_cases hqp : q' = p
            · rw [hqp]
              exact fun h => hgp h.symm
            · exact c2 q' (by omega)
          · refine Or.inr ⟨a, by omega, c2, c3, fun q' q1 q2 => ?_⟩
            by_cases hqp : q' = p
            · rw [hqp]
              exact fun h => hgp h.symm
            · exact c4 q' q1 (by omega)
      · rw [up2_ne (by decide), up2_at]
        by_cases hqp : q = p
        · rw [if_pos hqp, hqp]
          exact hc.1 _ hlt
        · rw [if_neg hqp]
          exact hc.2 q (by omega)
theorem l_X7_find (C : CX Y X RX7 "find" cX7_find 11 (some .boolean) (e + 2) 0 0) (K : BytesK k) (hk23 : k ≠ 23) {E : Int} {iv0 : IVt} (h : MX iv0 av k F n E) {p mx : Nat} (hmx3 : 3 ≤ mx) (hmx : mx ≤ 258) (hpm : p + mx ≤ n) (hc : ∀ q, q < p → PrevOK (hC (DB av k F)) q (hC (DB av k F) q) (av 25 q)) (hA : ∀ q, InR (av 25 q)) {P : PN}
    (hP : ∀ (r : Int) iv', iv' = up2 (up2 iv0 23 5 ((fnd (DB av k F) p mx p 0 0 0).1 : Nat)) 23 6 ((fnd (DB av k F) p mx p 0 0 0).2 : Nat) → r = (if 0 < (fnd (DB av k F) p mx p 0 0 0).1 then 1 else 0) → P r iv' av) :
    ∀ (P0 : Nat) (x7 : Int) (b f s x9 : Nat) (iv : IVt), InR x7 → P0 ≤ p → PrevOK (hC (DB av k F)) P0 (hC (DB av k F) p) x7 → x9 + P0 ≤ p → s ≤ x9 → fnd (DB av k F) p mx p 0 0 0 = fnd (DB av k F) p mx P0 b f s → (b = 0 ∨ (3 ≤ b ∧ b ≤ mx ∧ f ≤ 65536)) → f ≤ 65536 → iv = up2 (up2 iv0 23 5 (b : Nat)) 23 6 (f : Nat) → L_X7_find_82 Y X P k ((F + p : Nat) : Int) mx p x7 s x9 iv av := by
  obtain ⟨h1, h2, h3, h4, h5, h6, h7, h8⟩ := h
  have hkl := kl_le (k + 1)
  intro P0
  induction P0 using Nat.strongRecOn with
  | ind P0 ih =>
  intro x7 b f s x9 iv hx7R hP0 hprev hx9 hs hspec hb hf hiv
  have e5 : iv 23 5 = b := by rw [hiv, up2_nj (by decide), up2_eq]
  have e3 : iv 23 3 = F := by rw [hiv, up2_nj (by decide), up2_nj (by decide), h1]
  have ek : iv k 1 = iv0 k 1 := by rw [hiv, up2_ne hk23, up2_ne hk23]
  -- the end
  have fin : fnd (DB av k F) p mx P0 b f s = (b, f) → L_X7_find_217 Y X P k iv av := by
    intro he
    rw [he] at hspec
    refine w_X7_find_217 C K fun _ => ?_
    rw [e5]
    rw [hspec] at hP
    dsimp only at hP
    refine ⟨fun hle => hP 0 iv hiv ?_, fun hgt => hP 1 iv hiv ?_⟩
    · rw [if_neg (by omega)]
    · rw [if_pos (by omega)]
  have hx7 : x7 < 0 ∨ (0 ≤ x7 ∧ x7 < P0) := by
    rcases hprev with ⟨c1, _⟩ | ⟨a, c1, c2, _⟩
    · exact Or.inl c1
    · exact Or.inr (by omega)
  refine w_X7_find_82 C K (by omega) (by omega) (by omega) (by omega) (by omega) (by omega) ⟨fun h => absurd h (by omega), fun _ => ⟨fun hs16 => fin (fnd_stop _ (Or.inl (by omega))), fun hs16 _ => ?_⟩⟩
  rw [e5]
  refine ⟨fun hle => fin (fnd_full (by omega) _ _), fun hgt => ⟨fun hneg => fin ?_, fun hnn => ⟨fun h => absurd h (by omega), fun _ => ⟨fun h => absurd h (by omega), fun _ => ⟨by omega, fun hnear => ?_, fun hfar => fin ?_⟩⟩⟩⟩⟩
  · obtain ⟨_, c2⟩ := hprev.resolve_right (fun ⟨a, c1, c2, _⟩ => by omega)
    have := fnd_skip (D := DB av k F) (p := p) (mx := mx) (b := b) (f := f) (s := s) P0 0 fun q _ q2 => by
      by_cases h3 : 3 ≤ pre (DB av k F) q p mx
      · exact absurd (hC_same h3) (c2 q (by omega))
      · omega
    rw [Nat.zero_add] at this
    rw [this]
    rfl
  · obtain ⟨a, c1, c2, c3, c4⟩ := hprev.resolve_left (fun h => by omega)
    have hskip := fnd_skip (D := DB av k F) (p := p) (mx := mx) (b := b) (f := f) (s := s) (P0 - (a + 1)) (a + 1) fun q q1 q2 => by
      by_cases h3 : 3 ≤ pre (DB av k F) q p mx
      · exact absurd (hC_same h3) (c4 q (by omega) (by omega))
      · omega
    rw [show a + 1 + (P0 - (a + 1)) = P0 by omega] at hskip
    rw [e3]
    refine fun _ => ⟨by omega, ?_⟩
    have hsf := s_X2_sameFrom (Y := Y) (e := e) (iv := iv) (av := av) K (x1 := (F : Int) + x7) (x2 := ((F + p : Nat) : Int)) (x3 := (mx : Int)) (by omega) (by omega) (by omega) (by omega) (by omega) (by omega) (by rw [ek]; omega) (by rw [ek]; omega) (by rw [ek]; exact h4)
    refine OkN.mono hsf ?_
    rintro r iv2 av2 hR2 ⟨rfl, rfl, rfl⟩ hr2
    have epre : pre (av2 (k + 1)) ((F : Int) + x7).toNat (((F + p : Nat) : Int)).toNat ((mx : Nat) : Int).toNat = pre (DB av2 k F) a p mx := by
      rw [pre_shift, show ((F : Int) + x7).toNat = F + a by omega, Int.toNat_natCast, Int.toNat_natCast]
    rw [epre]
    have hpl := pre_le (DB av2 k F) mx a p
    generalize hN : pre (DB av2 k F) a p mx = N at *
    have hstep : fnd (DB av2 k F) p mx P0 b f s = if 3 ≤ N then fnd (DB av2 k F) p mx a (if b < N then N else b) (if b < N then p - a else f) (s + 1) else fnd (DB av2 k F) p mx a b f s := by
      rw [hskip, fnd, if_neg (by omega), hN]
    -- to the next place
    have go : ∀ (b' f' s' : Nat) (iv3 : IVt), fnd (DB av2 k F) p mx P0 b f s = fnd (DB av2 k F) p mx a b' f' s' → s' ≤ x9 + 1 → (b' = 0 ∨ (3 ≤ b' ∧ b' ≤ mx ∧ f' ≤ 65536)) → f' ≤ 65536 → iv3 = up2 (up2 iv0 23 5 (b' : Nat)) 23 6 (f' : Nat) → L_X7_find_202 Y X P k ((F + p : Nat) : Int) mx p x7 s' x9 iv3 av2 := by
      intro b' f' s' iv3 g1 g2 g3 g4 g5
      refine w_X7_find_202 C K ⟨by omega, fun _ => ?_⟩
      rw [show x7.toNat = a by omega, show (x9 : Int) + 1 = ((x9 + 1 : Nat) : Int) by omega]
      have := hc a (by omega)
      rw [c3] at this
      exact ih a c1 (av2 25 a) b' f' s' (x9 + 1) iv3 (hA a) (by omega) this (by omega) (by omega) (by rw [hspec, g1]) g3 g4 g5
    refine ⟨fun hlt3 => ?_, fun hge3 => ?_⟩
    · refine w_X7_find_172 C K (by omega) ⟨fun _ => ?_, fun h => absurd hlt3 h⟩
      rw [Int.add_zero]
      exact go b f s iv2 (by rw [hstep, if_neg (by omega)]) (by omega) hb hf hiv
    · refine w_X7_find_172 C K (by omega) ⟨fun h => absurd h hge3, fun _ _ => ?_⟩
      rw [e5, show (s : Int) + 1 = ((s + 1 : Nat) : Int) by omega]
      refine ⟨fun hle => ?_, fun hgt2 => ⟨by omega, ?_⟩⟩
      · refine go b f (s + 1) iv2 ?_ (by omega) hb hf hiv
        rw [hstep, if_pos (by omega), if_neg (by omega), if_neg (by omega)]
      · refine go N (p - a) (s + 1) _ ?_ (by omega) (Or.inr ⟨by omega, by omega, by omega⟩) (by omega) ?_
        · rw [hstep, if_pos (by omega), if_pos (by omega), if_pos (by omega)]
        · rw [hiv]
          funext k' j'
          simp only [up2_app]
          have e1 : ((p : Int) - x7) = ((p - a : Nat) : Int) := by omega
          rw [e1]
          grind
  · obtain ⟨a, c1, c2, c3, c4⟩ := hprev.resolve_left (fun h => by omega)
    have hskip := fnd_skip (D := DB av k F) (p := p) (mx := mx) (b := b) (f := f) (s := s) (P0 - (a + 1)) (a + 1) fun q q1 q2 => by
      by_cases h3 : 3 ≤ pre (DB av k F) q p mx
      · exact absurd (hC_same h3) (c4 q (by omega) (by omega))
      · omega
    rw [show a + 1 + (P0 - (a + 1)) = P0 by omega] at hskip
    rw [hskip]
    exact fnd_stop _ (Or.inr (Or.inr (by omega)))
theorem s_X7_find (K : BytesK k) (hk23 : k ≠ 23) {E : Int} (h : MX iv av k F n E) {p en : Nat} (hp : p < en) (hen : en ≤ n) (hc : CHc iv av (DB av k F) (min p (n - 2))) : OkN Y (e + 2) mX7_find [.ref (gl_b Y + 23), .ref (gl_b Y + k), .int (i32 ((F + p : Nat) : Int)), .int (i32 ((F + en : Nat) : Int))] RV iv av 116
    (fun r iv' av' => av' = av ∧ iv' = up2 (up2 iv 23 5 ((bestM (DB av k F) p en).1 : Nat)) 23 6 ((bestM (DB av k F) p en).2 : Nat) ∧ r = if 0 < (bestM (DB av k F) p en).1 then 1 else 0) := by
  have hh := h
  obtain ⟨h1, h2, h3, h4, h5, h6, h7, h8⟩ := h
  have hkl := kl_le (k + 1)
  have ek : up2 (up2 iv 23 5 0) 23 6 0 k 1 = iv k 1 := by rw [up2_ne hk23, up2_ne hk23]
  refine OkN.rng fun hR0 => o_X7_find K (by omega) fun X C => ⟨by omega, OkN.mono (s_X2_threeFrom K (by omega) (by omega) (by rw [ek]; exact h4)) ?_⟩
  rintro r iv1 av1 hR1 ⟨rfl, rfl, rfl⟩ hr1
  refine OkN.mono s_X7_headOf ?_
  rintro r iv2 av2 hR2 ⟨rfl, rfl, rfl⟩ hr2
  rw [show min 258 (((F + en : Nat) : Int) - ((F + p : Nat) : Int)) = ((min 258 (en - p) : Nat) : Int) by omega]
  refine ⟨fun hlt => ?_, fun hge => ⟨fun h => absurd h (by omega), fun _ => ⟨fun _ _ => ⟨by omega, fun _ _ => ?_⟩, fun h => absurd h (by omega)⟩⟩⟩
  · have hb : bestM (DB av2 k F) p en = (0, 0) := by unfold bestM; rw [if_pos (by omega)]
    rw [hb]
    exact ⟨rfl, rfl, rfl⟩
  · have hmin : min p (n - 2) = p := by omega
    rw [hmin] at hc
    have hb3 : b_three (up2 (up2 iv 23 5 0) 23 6 0) av2 k ((F + p : Nat) : Int) = b_three iv av2 k ((F + p : Nat) : Int) := by
      unfold b_three
      rw [ek]
    rw [hb3, b_three_eq hh.wide (by omega)]
    have e1 : (g_or (g_or (DB av2 k F p % 256) (DB av2 k F (p + 1) % 256 * 256)) (DB av2 k F (p + 2) % 256 * 65536) * (-1640531535) % 4294967296 / 131072).toNat = hC (DB av2 k F) p := rfl
    have hlt := hC_lt (DB av2 k F) p
    have hhd := h8 _ hlt
    have e3 : up2 (up2 iv 23 5 0) 23 6 0 23 3 = iv 23 3 := rfl
    have e2 : up2 (up2 iv 23 5 0) 23 6 0 23 2 = iv 23 2 := rfl
    rw [e1, e3, e2, h1, show ((F + p : Nat) : Int) - (F : Int) = (p : Int) by omega]
    have hbm : bestM (DB av2 k F) p en = fnd (DB av2 k F) p (min 258 (en - p)) p 0 0 0 := by unfold bestM; rw [if_neg (by omega)]
    rw [hbm]
    exact l_X7_find C K hk23 (iv0 := iv) hh (p := p) (mx := min 258 (en - p)) (by omega) (by omega) (by omega) hc.2 (fun q => hR0.2 25 q) (fun r iv' g1 g2 => ⟨rfl, g1, g2⟩) p _ 0 0 0 0 _ (by omega) (Nat.le_refl _) (hc.1 _ hlt) (by omega) (by omega) rfl (Or.inl rfl) (by omega) rfl
end SMatch
