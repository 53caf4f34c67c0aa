/-! Cutting a part in bytes and matches: what it gives; the reference's. -/
def gat (D : Nat → Int) (E : Nat) : Nat → Nat → Nat → (Nat → Int) → (Nat → Int) → Nat × (Nat → Int) × (Nat → Int)
  | 0, _, k, TL, TV => (k, TL, TV)
  | m + 1, p, k, TL, TV => if E ≤ p then (k, TL, TV) else gat D E m (p + max (bestM D p E).1 1) (k + 1) (fun i => if i = k then ((bestM D p E).1 : Nat) else TL i) (fun i => if i = k then (if 0 < (bestM D p E).1 then ((bestM D p E).2 : Nat) else D p % 256) else TV i)
/-- a part's tokens -/
def tok (D : Nat → Int) (b E : Nat) : Nat × (Nat → Int) × (Nat → Int) := gat D E (E - b + 1) b 0 (fun _ => 0) (fun _ => 0)
/-- tokens as they may be -/
def TokOK (g : Nat × (Nat → Int) × (Nat → Int)) : Prop := ∀ t, t < g.1 → (g.2.1 t = 0 ∧ 0 ≤ g.2.2 t ∧ g.2.2 t ≤ 255) ∨ (3 ≤ g.2.1 t ∧ g.2.1 t ≤ 258 ∧ 1 ≤ g.2.2 t ∧ g.2.2 t ≤ 32768)
theorem gat_ok (D : Nat → Int) (E : Nat) : ∀ (m p k : Nat) (TL TV : Nat → Int), TokOK (k, TL, TV) → TokOK (gat D E m p k TL TV) := by
  intro m
  induction m with
  | zero => intro p k TL TV h; exact h
  | succ m ih =>
    intro p k TL TV h
    rw [gat]
    split
    · exact h
    · refine ih _ _ _ _ fun t ht => ?_
      dsimp only at ht ⊢
      have hb := bestM_in D p E
      by_cases htk : t = k
      · rw [if_pos htk, if_pos htk]
        split
        · right
          omega
        · left
          omega
      · rw [if_neg htk, if_neg htk]
        exact h t (show t < k by omega)
theorem tok_ok (D : Nat → Int) (b E : Nat) : TokOK (tok D b E) := gat_ok D E _ _ _ _ _ fun t ht => absurd ht (Nat.not_lt_zero _)
theorem gat_cnt (D : Nat → Int) (E : Nat) : ∀ (m p k : Nat) (TL TV : Nat → Int), p ≤ E → (gat D E m p k TL TV).1 + p ≤ k + E := by
  intro m
  induction m with
  | zero => intro p k TL TV h; show k + p ≤ k + E; omega
  | succ m ih =>
    intro p k TL TV h
    rw [gat]
    split
    · show k + p ≤ k + E
      omega
    · have hb := bestM_in D p E
      have := ih (p + max (bestM D p E).1 1) (k + 1) (fun i => if i = k then ((bestM D p E).1 : Nat) else TL i) (fun i => if i = k then (if 0 < (bestM D p E).1 then ((bestM D p E).2 : Nat) else D p % 256) else TV i) (by omega)
      omega
theorem tok_cnt (D : Nat → Int) {b E : Nat} (h : b ≤ E) : (tok D b E).1 ≤ E - b := by
  have := gat_cnt D E (E - b + 1) b 0 (fun _ => 0) (fun _ => 0) h
  unfold tok
  omega
/-- the reference's kind of a place -/
def kR (D : Nat → Int) (q : Nat) : Nat := (D q % 256 * 256 + D (q + 1) % 256).toNat
theorem kR_lt (D : Nat → Int) (q : Nat) : kR D q < 65536 := by unfold kR; omega
abbrev BtD (D : Nat → Int) : Prop := ∀ i, -128 ≤ D i ∧ D i ≤ 127
theorem kR_same {D : Nat → Int} {q p mx : Nat} (h : 3 ≤ pre D q p mx) : kR D q = kR D p := by
  have h0 := pre_same D mx q p 0 (by omega)
  have h1 := pre_same D mx q p 1 (by omega)
  unfold kR
  rw [Nat.add_zero, Nat.add_zero] at h0
  rw [h0, h1]
theorem kR_eq {D : Nat → Int} (hD : BtD D) {q p : Nat} (h : kR D q = kR D p) : D q = D p ∧ D (q + 1) = D (p + 1) := by
  have a := hD q
  have b := hD p
  have c := hD (q + 1)
  have d := hD (p + 1)
  unfold kR at h
  omega
theorem or256 (x y : Int) : g_or (x % 256 * 256) (y % 256) = x % 256 * 256 + y % 256 := by
  have h := g_or_bm (c := x % 256) (a := y % 256) (p := 8) (by omega) (by omega) (by rw [show (2 : Int) ^ 8 = 256 from rfl]; omega)
  rw [show (2 : Int) ^ 8 = 256 from rfl] at h
  rw [h]
  unfold bm32
  exact Int.bmod_eq_of_le (by omega) (by omega)
/-- the reference's tokens -/
def TkR (iv av : IVt) (g : Nat × (Nat → Int) × (Nat → Int)) : Prop := iv 73 34 = g.1 ∧ ∀ t, t < g.1 → av 96 t = g.2.1 t ∧ av 97 t = g.2.2 t
section SRcut
variable {Y : Gl} {X : Cx} {e : Nat} {iv av : IVt} {a : Nat} {F n : Nat}
theorem btd (Ka : ArrK 101 a) (hR : Rng iv av) (F : Nat) : BtD fun i => av a (F + i) := fun i => by
  have h := hR.2 a (F + i)
  unfold tyR at h
  rw [Ka.1, if_pos rfl] at h
  exact h
theorem s_X13_notePairs (Ka : ArrK 101 a) (ha94 : a ≠ 94) (ha95 : a ≠ 95) (hF : F + n ≤ kl a) (hn : n ≤ 65536) : OkN Y e mX13_notePairs [.ref (gl_b Y + 73), .ref (gl_b Y + a), .int (i32 (F : Int)), .int (i32 (n : Int))] RV iv av 116
    (fun r iv' av' => iv' = iv ∧ Off [94, 95] av av' ∧ ∀ q, q + 1 < n → PrevOK (kR fun i => av a (F + i)) q (kR (fun i => av a (F + i)) q) (av' 94 q)) := by
  have hk := kl_le a
  refine o_X13_notePairs Ka fun X C => ?_
  have lp2 : ∀ (m p : Nat) (av1 : IVt), p + m = n - 1 → Off [94, 95] av av1 → (∀ c, c < 65536 → PrevOK (kR fun i => av a (F + i)) p c (av1 95 c)) → (∀ q, q < p → PrevOK (kR fun i => av a (F + i)) q (kR (fun i => av a (F + i)) q) (av1 94 q)) → L_X13_notePairs_27 Y X (fun r iv' av' => iv' = iv ∧ Off [94, 95] av av' ∧ ∀ q, q + 1 < n → PrevOK (kR fun i => av a (F + i)) q (kR (fun i => av a (F + i)) q) (av' 94 q)) a F n p iv av1 := by
    intro m
    induction m with
    | zero =>
      intro p av1 h1 h2 h3 h4
      exact w_X13_notePairs_27 C Ka (by omega) (by omega) ⟨by omega, fun _ => ⟨rfl, h2, fun q hq => h4 q (by omega)⟩, fun h => absurd h (by omega)⟩
    | succ m ih =>
      intro p av1 h1 h2 h3 h4
      refine w_X13_notePairs_27 C Ka (by omega) (by omega) ⟨by omega, fun h => absurd h (by omega), fun _ => ⟨by omega, fun _ => ⟨by omega, fun _ => ?_⟩⟩⟩
      rw [h2 a (by simp [ha94, ha95]), or256, show ((F : Int) + p).toNat = F + p by omega, show ((F : Int) + p + 1).toNat = F + (p + 1) by omega]
      have ek : (av a (F + p) % 256 * 256 + av a (F + (p + 1)) % 256).toNat = kR (fun i => av a (F + i)) p := rfl
      rw [ek]
      have hlt := kR_lt (fun i => av a (F + i)) p
      refine ⟨by omega, fun _ => ⟨by omega, ?_⟩⟩
      rw [Int.toNat_natCast, show (p : Int) + 1 = ((p + 1 : Nat) : Int) by omega]
      refine ih (p + 1) _ (by omega) ((h2.up (by decide)).up (by decide)) (fun c hc => ?_) fun q hq => ?_
      · rw [up2_at, up2_ne (by decide)]
        by_cases hcp : c = kR (fun i => av a (F + i)) p
        · rw [if_pos hcp]
          exact Or.inr ⟨p, by omega, rfl, hcp.symm, fun q' q1 q2 => by omega⟩
        · rw [if_neg hcp]
          rcases h3 c hc with ⟨c1, c2⟩ | ⟨b, c1, c2, c3, c4⟩
          · refine Or.inl ⟨c1, fun q' hq' => ?_⟩
            by_cases hqp : q' = p
            · rw [hqp]
              exact fun h => hcp h.symm
            · exact c2 q' (by omega)
          · refine Or.inr ⟨b, by omega, c2, c3, fun q' q1 q2 => ?_⟩
            by_cases hqp : q' = p
            · rw [hqp]
              exact fun h => hcp h.symm
            · exact c4 q' q1 (by omega)
      · rw [up2_ne (by decide), up2_at]
        by_cases hqp : q = p
        · rw [if_pos hqp, hqp]
          exact h3 _ hlt
        · rw [if_neg hqp]
          exact h4 q (by omega)
  have lp1 : ∀ (m c : Nat) (av1 : IVt), c + m = 65536 → Off [94, 95] av av1 → (∀ j, j < c → av1 95 j = -1) → L_X13_notePairs_3 Y X (fun r iv' av' => iv' = iv ∧ Off [94, 95] av av' ∧ ∀ q, q + 1 < n → PrevOK (kR fun i => av a (F + i)) q (kR (fun i => av a (F + i)) q) (av' 94 q)) a F n c iv av1 := by
    intro m
    induction m with
    | zero =>
      intro c av1 h1 h2 h3
      have hc : c = 65536 := by omega
      subst hc
      refine w_X13_notePairs_3 C Ka (by omega) ⟨fun _ => ?_, fun h => absurd h (by omega)⟩
      by_cases hn0 : n = 0
      · subst hn0
        exact w_X13_notePairs_27 C Ka (by omega) (by omega) ⟨by omega, fun _ => ⟨rfl, h2, fun q hq => absurd hq (by omega)⟩, fun h => absurd h (by omega)⟩
      · refine lp2 (n - 1) 0 av1 (by omega) h2 (fun c hc => Or.inl ⟨by rw [h3 c hc]; omega, fun q' hq' => absurd hq' (Nat.not_lt_zero _)⟩) fun q hq => absurd hq (Nat.not_lt_zero _)
    | succ m ih =>
      intro c av1 h1 h2 h3
      refine w_X13_notePairs_3 C Ka (by omega) ⟨fun h => absurd h (by omega), fun _ => ⟨by omega, ?_⟩⟩
      rw [show (c : Int) + 1 = ((c + 1 : Nat) : Int) by omega, Int.toNat_natCast]
      refine ih (c + 1) _ (by omega) (h2.up (by decide)) fun j hj => ?_
      rw [up2_at]
      by_cases hjc : j = c
      · rw [if_pos hjc]
      · rw [if_neg hjc]
        exact h3 j (by omega)
  exact lp1 65536 0 av (by omega) (Off.rf _ _) fun j hj => absurd hj (Nat.not_lt_zero _)
theorem l_X13_cutPart (C : CX Y X RX13 "cutPart" cX13_cutPart 11 none e 0 0) (Ka : ArrK 101 a) (ha96 : a ≠ 96) (ha97 : a ≠ 97) (hF : F + n ≤ kl a) (hn : n ≤ 65536) {b E : Nat} (hbE : E - b ≤ 4096) (hE : E ≤ n) {iv0 av0 : IVt} (hD : BtD fun i => av0 a (F + i)) (hA : ∀ q, InR (av0 94 q)) (hc : ∀ q, q + 1 < n → PrevOK (kR fun i => av0 a (F + i)) q (kR (fun i => av0 a (F + i)) q) (av0 94 q)) {P : PN}
    (hP : ∀ iv' av', OffM [] [34] iv0 iv' → Off [96, 97] av0 av' → TkR iv' av' (tok (fun i => av0 a (F + i)) b E) → P 0 iv' av') :
    ∀ (m p k : Nat) (TL TV : Nat → Int) (iv av : IVt), E < p + m → b + k ≤ p → p ≤ E → OffM [] [34] iv0 iv → Off [96, 97] av0 av → TkR iv av (k, TL, TV) → gat (fun i => av0 a (F + i)) E m p k TL TV = tok (fun i => av0 a (F + i)) b E → L_X13_cutPart_8 Y X P a F E p iv av := by
  have hkl := kl_le a
  intro m
  induction m with
  | zero => intro p k TL TV iv av h1 h2 h3; omega
  | succ m ih =>
    intro p k TL TV iv av h1 h2 h3 h4 h5 h6 h7
    have ea : av a = av0 a := h5 a (by simp [ha96, ha97])
    have e94 : av 94 = av0 94 := h5 94 (by decide)
    have h34 := h6.1
    dsimp only at h34
    refine w_X13_cutPart_8 C Ka (by omega) (by omega) ⟨fun hle => hP iv av h4 h5 ?_, fun hgt => ⟨by omega, ?_⟩⟩
    · rw [gat, if_pos (by omega)] at h7
      rw [← h7]
      exact h6
    rw [gat, if_neg (by omega)] at h7
    -- a token
    have emit : ∀ bf : Nat × Nat, bf = bestM (fun i => av0 a (F + i)) p E → ∀ v : Int, v = (if 0 < bf.1 then ((bf.2 : Nat) : Int) else av0 a (F + p) % 256) → L_X13_cutPart_232 Y X P a F E p bf.1 iv (up2 (up2 av 96 (iv 73 34).toNat (bf.1 : Nat)) 97 (iv 73 34).toNat v) := by
      intro bf hbf v hv
      have hbi := bestM_in (fun i => av0 a (F + i)) p E
      rw [← hbf] at hbi h7
      have hres : TkR (up2 iv 73 34 (iv 73 34 + 1)) (up2 (up2 av 96 (iv 73 34).toNat (bf.1 : Nat)) 97 (iv 73 34).toNat v) (k + 1, (fun i => if i = k then ((bf.1 : Nat) : Int) else TL i), (fun i => if i = k then (if 0 < bf.1 then ((bf.2 : Nat) : Int) else av0 a (F + p) % 256) else TV i)) := by
        refine ⟨by rw [up2_eq]; dsimp only; omega, fun t ht => ?_⟩
        dsimp only at ht ⊢
        rw [up2_ne (by decide), up2_at, up2_at, up2_ne (by decide), show (iv 73 34).toNat = k by omega]
        by_cases htk : t = k
        · rw [if_pos htk, if_pos htk, if_pos htk, if_pos htk, hv]
          exact ⟨rfl, rfl⟩
        · rw [if_neg htk, if_neg htk, if_neg htk, if_neg htk]
          exact h6.2 t (show t < k by omega)
      refine w_X13_cutPart_232 C Ka (by omega) fun _ => ⟨by omega, fun hle => w_X13_cutPart_261 C Ka ?_, fun hgt => w_X13_cutPart_261 C Ka ?_⟩
      · rw [show (p : Int) + 1 = ((p + max bf.1 1 : Nat) : Int) by omega]
        exact ih (p + max bf.1 1) (k + 1) _ _ _ _ (by omega) (by omega) (by omega) (h4.up (by decide)) ((h5.up (by decide)).up (by decide)) hres h7
      · rw [show (p : Int) + ((bf.1 : Nat) : Int) = ((p + max bf.1 1 : Nat) : Int) by omega]
        exact ih (p + max bf.1 1) (k + 1) _ _ _ _ (by omega) (by omega) (by omega) (h4.up (by decide)) ((h5.up (by decide)).up (by decide)) hres h7
    have emit2 : ∀ (bb ff : Nat) , (bb, ff) = bestM (fun i => av0 a (F + i)) p E → ((bb : Int) ≤ 0 → (0 ≤ ((F : Int) + p) ∧ ((F : Int) + p) < (kl a : Int)) ∧ ((-128 ≤ ((up2 av 96 ((iv 73 34).toNat) bb) a ((F : Int) + p).toNat) ∧ ((up2 av 96 ((iv 73 34).toNat) bb) a ((F : Int) + p).toNat) ≤ 127) → L_X13_cutPart_232 Y X P a F E p bb iv (up2 (up2 av 96 ((iv 73 34).toNat) bb) 97 ((iv 73 34).toNat) (((up2 av 96 ((iv 73 34).toNat) bb) a ((F : Int) + p).toNat) % 256)))) ∧ ((¬ (bb : Int) ≤ 0) → L_X13_cutPart_232 Y X P a F E p bb iv (up2 (up2 av 96 ((iv 73 34).toNat) bb) 97 ((iv 73 34).toNat) ff)) := by
      intro bb ff hb
      refine ⟨fun hle => ⟨by omega, fun _ => ?_⟩, fun hgt => ?_⟩
      · refine emit (bb, ff) hb _ ?_
        rw [if_neg (show ¬ 0 < bb by omega), up2_ne ha96, ea, show ((F : Int) + p).toNat = F + p by omega]
      · refine emit (bb, ff) hb _ ?_
        rw [if_pos (show 0 < bb by omega)]
    have hk4096 : 0 ≤ iv 73 34 ∧ iv 73 34 < 4096 := by omega
    -- looking for the best
    refine ⟨fun hlt3 => ?_, fun hge3 => ⟨by omega, fun _ => ?_⟩⟩
    · have hb : ((0 : Nat), (0 : Nat)) = bestM (fun i => av0 a (F + i)) p E := by unfold bestM; rw [if_pos (by omega)]
      obtain ⟨q1, q2⟩ := emit2 0 0 hb
      exact w_X13_cutPart_46 C Ka (by omega) (by omega) (by omega) (by omega) ⟨fun _ _ => ⟨hk4096, q1, q2⟩, fun h => absurd h (by omega)⟩
    · have hbm : bestM (fun i => av0 a (F + i)) p E = fnd (fun i => av0 a (F + i)) p (min 258 (E - p)) p 0 0 0 := by unfold bestM; rw [if_neg (by omega)]
      have lp : ∀ (P0 : Nat) (x9 : Int) (bb ff s : Nat), InR x9 → P0 ≤ p → PrevOK (kR fun i => av0 a (F + i)) P0 (kR (fun i => av0 a (F + i)) p) x9 → fnd (fun i => av0 a (F + i)) p (min 258 (E - p)) p 0 0 0 = fnd (fun i => av0 a (F + i)) p (min 258 (E - p)) P0 bb ff s → bb ≤ 258 → ff ≤ 65536 → s ≤ 100 → L_X13_cutPart_46 Y X P a F E p bb ff s x9 iv av := by
        intro P0
        induction P0 using Nat.strongRecOn with
        | ind P0 ihP =>
        intro x9 bb ff s hx9 hP0 hprev hspec hbb hff hs
        have fin : fnd (fun i => av0 a (F + i)) p (min 258 (E - p)) P0 bb ff s = (bb, ff) → _ := fun he => emit2 bb ff (by rw [hbm, hspec, he])
        have hx9b : x9 < 0 ∨ (0 ≤ x9 ∧ x9 < P0) := by
          rcases hprev with ⟨c1, _⟩ | ⟨y, c1, c2, _⟩
          · exact Or.inl c1
          · exact Or.inr (by omega)
        refine w_X13_cutPart_46 C Ka (by omega) (by omega) (by omega) hx9 ⟨fun hneg _ => ⟨hk4096, fin ?_⟩, fun hnn => ⟨by omega, fun hfar _ => ⟨hk4096, fin ?_⟩, fun hnear => ⟨fun hs16 _ => ⟨hk4096, fin (fnd_stop _ (Or.inl (by omega)))⟩, fun hs16 => ?_⟩⟩⟩
        · obtain ⟨_, c2⟩ := hprev.resolve_right (fun ⟨y, c1, c2, _⟩ => by omega)
          have := fnd_skip (D := fun i => av0 a (F + i)) (p := p) (mx := min 258 (E - p)) (b := bb) (f := ff) (s := s) P0 0 fun q _ q2 => by
            by_cases h3 : 3 ≤ pre (fun i => av0 a (F + i)) q p (min 258 (E - p))
            · exact absurd (kR_same h3) (c2 q (by omega))
            · omega
          rw [Nat.zero_add] at this
          rw [this]
          rfl
        · obtain ⟨y, c1, c2, c3, c4⟩ := hprev.resolve_left (fun h => by omega)
          have hskip := fnd_skip (D := fun i => av0 a (F + i)) (p := p) (mx := min 258 (E - p)) (b := bb) (f := ff) (s := s) (P0 - (y + 1)) (y + 1) fun q q1 q2 => by
            by_cases h3 : 3 ≤ pre (fun i => av0 a (F + i)) q p (min 258 (E - p))
            · exact absurd (kR_same h3) (c4 q (by omega) (by omega))
            · omega
          rw [show y + 1 + (P0 - (y + 1)) = P0 by omega] at hskip
          rw [hskip]
          exact fnd_stop _ (Or.inr (Or.inr (by omega)))
        · obtain ⟨y, c1, c2, c3, c4⟩ := hprev.resolve_left (fun h => by omega)
          have hskip := fnd_skip (D := fun i => av0 a (F + i)) (p := p) (mx := min 258 (E - p)) (b := bb) (f := ff) (s := s) (P0 - (y + 1)) (y + 1) fun q q1 q2 => by
            by_cases h3 : 3 ≤ pre (fun i => av0 a (F + i)) q p (min 258 (E - p))
            · exact absurd (kR_same h3) (c4 q (by omega) (by omega))
            · omega
          rw [show y + 1 + (P0 - (y + 1)) = P0 by omega] at hskip
          have hsame := kR_eq hD c3
          subst c2
          have hstep : ∀ N : Nat, pre (fun i => av0 a (F + i)) y p (min 258 (E - p)) = N → fnd (fun i => av0 a (F + i)) p (min 258 (E - p)) P0 bb ff s = if 3 ≤ N then fnd (fun i => av0 a (F + i)) p (min 258 (E - p)) y (if bb < N then N else bb) (if bb < N then p - y else ff) (s + 1) else fnd (fun i => av0 a (F + i)) p (min 258 (E - p)) y bb ff s := by
            intro N hN
            rw [hskip, fnd, if_neg (by omega), hN]
          have hprevy := hc y (by omega)
          rw [c3] at hprevy
          -- the next place
          have nxt : ∀ (b' f' s' : Nat), fnd (fun i => av0 a (F + i)) p (min 258 (E - p)) P0 bb ff s = fnd (fun i => av0 a (F + i)) p (min 258 (E - p)) y b' f' s' → b' ≤ 258 → f' ≤ 65536 → s' ≤ 100 → L_X13_cutPart_180 Y X P a F E p b' f' s' y iv av := by
            intro b' f' s' g1 g2 g3 g4
            refine w_X13_cutPart_180 C Ka ⟨by omega, fun _ => ?_⟩
            rw [Int.toNat_natCast, e94]
            exact ihP y c1 (av0 94 y) b' f' s' (hA y) (by omega) hprevy (by rw [hspec, g1]) g2 g3 g4
          -- behind the count
          have cnt : ∀ N : Nat, 2 ≤ N → N ≤ 258 → pre (fun i => av0 a (F + i)) y p (min 258 (E - p)) = N → ((((N : Int) ≤ 2) → L_X13_cutPart_133 Y X P a F E p bb ff s y N iv av) ∧ ((¬ (N : Int) ≤ 2) → L_X13_cutPart_133 Y X P a F E p bb ff ((s : Int) + 1) y N iv av)) := by
            intro N hN2 hN258 hN
            have hst := hstep N hN
            refine ⟨fun hle => w_X13_cutPart_133 C Ka (by omega) (by omega) ⟨fun _ => w_X13_cutPart_154 C Ka (w_X13_cutPart_158 C Ka (by omega) (by omega) ⟨fun _ => w_X13_cutPart_176 C Ka ?_, fun h => absurd hle h⟩), fun h => absurd hle h⟩, fun hgt => ?_⟩
            · exact nxt bb ff s (by rw [hst, if_neg (by omega)]) hbb hff hs
            · rw [show (s : Int) + 1 = ((s + 1 : Nat) : Int) by omega]
              refine w_X13_cutPart_133 C Ka (by omega) (by omega) ⟨fun h => absurd h hgt, fun _ => ⟨fun hle => w_X13_cutPart_154 C Ka (w_X13_cutPart_158 C Ka (by omega) (by omega) ⟨fun h => absurd h hgt, fun _ => ⟨fun _ => w_X13_cutPart_176 C Ka ?_, fun h => absurd hle h⟩⟩), fun hlt => w_X13_cutPart_158 C Ka (by omega) (by omega) ⟨fun h => absurd h hgt, fun _ => ⟨fun h => absurd h hlt, fun _ => ?_⟩⟩⟩⟩
              · exact nxt bb ff (s + 1) (by rw [hst, if_pos (by omega), if_neg (by omega), if_neg (by omega)]) hbb hff (by omega)
              · rw [show (p : Int) - (y : Int) = ((p - y : Nat) : Int) by omega]
                exact nxt N (p - y) (s + 1) (by rw [hst, if_pos (by omega), if_pos (by omega), if_pos (by omega)]) hN258 (by omega) (by omega)
          have lpc : ∀ (M N : Nat), N + M = min 258 (E - p) → 2 ≤ N → (∀ j, j < N → av0 a (F + (y + j)) = av0 a (F + (p + j))) → L_X13_cutPart_71 Y X P a F E p bb ff s y N iv av := by
            intro M
            induction M with
            | zero =>
              intro N g1 g2 g3
              obtain ⟨w1, w2⟩ := cnt N g2 (by omega) (pre_eq _ (by omega) g3 (fun h => absurd h (by omega)))
              refine w_X13_cutPart_71 C Ka (by omega) (by omega) ⟨by omega, fun _ => ⟨w1, w2⟩, fun _ => ⟨fun _ => ⟨w1, w2⟩, fun h => absurd h (by omega)⟩⟩
            | succ M ihM =>
              intro N g1 g2 g3
              refine w_X13_cutPart_71 C Ka (by omega) (by omega) ⟨by omega, fun h => absurd h (by omega), fun _ => ⟨fun h => absurd h (by omega), fun _ => ⟨by omega, fun _ => ⟨by omega, fun _ => ?_⟩⟩⟩⟩
              rw [ea, show ((F : Int) + y + N).toNat = F + (y + N) by omega, show ((F : Int) + p + N).toNat = F + (p + N) by omega]
              refine ⟨fun hne => ?_, fun heq => ?_⟩
              · exact cnt N g2 (by omega) (pre_eq _ (by omega) g3 (fun _ => hne))
              · rw [show (N : Int) + 1 = ((N + 1 : Nat) : Int) by omega]
                refine ihM (N + 1) (by omega) (by omega) fun j hj => ?_
                by_cases hjN : j = N
                · rw [hjN]
                  exact heq
                · exact g3 j (by omega)
          refine lpc (min 258 (E - p) - 2) 2 (by omega) (by omega) fun j hj => ?_
          rcases (show j = 0 ∨ j = 1 by omega) with h | h
          · rw [h]
            exact hsame.1
          · rw [h]
            exact hsame.2
      rw [Int.toNat_natCast, e94]
      exact lp p (av0 94 p) 0 0 0 (hA p) (Nat.le_refl _) (hc p (by omega)) rfl (by omega) (by omega) (by omega)
theorem s_X13_cutPart (Ka : ArrK 101 a) (ha96 : a ≠ 96) (ha97 : a ≠ 97) (hF : F + n ≤ kl a) (hn : n ≤ 65536) {b E : Nat} (hb : b ≤ E) (hbE : E - b ≤ 4096) (hE : E ≤ n) (hc : ∀ q, q + 1 < n → PrevOK (kR fun i => av a (F + i)) q (kR (fun i => av a (F + i)) q) (av 94 q)) :
    OkN Y e mX13_cutPart [.ref (gl_b Y + 73), .ref (gl_b Y + a), .int (i32 (F : Int)), .int (i32 (b : Int)), .int (i32 (E : Int))] RV iv av 116
    (fun r iv' av' => OffM [] [34] iv iv' ∧ Off [96, 97] av av' ∧ TkR iv' av' (tok (fun i => av a (F + i)) b E)) := by
  refine OkN.rng fun hR => o_X13_cutPart Ka fun X C => ?_
  exact l_X13_cutPart C Ka ha96 ha97 hF hn hbE hE (iv0 := iv) (av0 := av) (btd Ka hR F) (fun q => hR.2 94 q) hc (fun iv' av' h1 h2 h3 => ⟨h1, h2, h3⟩) (E - b + 1) b 0 (fun _ => 0) (fun _ => 0) _ av (by omega) (by omega) hb ((OffM.rf _ _ _).up (by decide)) (Off.rf _ _) ⟨up2_eq _ _ _ _, fun t ht => absurd ht (Nat.not_lt_zero _)⟩ rfl
end SRcut
