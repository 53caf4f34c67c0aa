/-! The reference's unpacking: all of it. -/
abbrev LVj : List Nat := [53, 54, 55, 56, 57, 58, 59, 60]
abbrev LVa : List Nat := [92, 100, 105, 110, 112, 114, 115]
section SRunpack
variable {Y : Gl} {X : Cx} {e : Nat} {iv av : IVt} {fr N p room : Nat} {w : Int} {o : Outp}
theorem s_X13_makeFixed : OkN Y e mX13_makeFixed [.ref (gl_b Y + 73)] RV iv av 116 (fun r iv' av' => iv' = iv ∧ Off [100] av av' ∧ ∀ k : Nat, k < 320 → av' 100 k = if k < 288 then fxL k else 5) := by
  refine o_X13_makeFixed fun X C => ?_
  have key : ∀ (m s : Nat) (av1 : IVt), s + m = 320 → Off [100] av av1 → (∀ j : Nat, j < s → av1 100 j = if j < 288 then fxL j else 5) → L_X13_makeFixed_2 Y X (fun r iv' av' => iv' = iv ∧ Off [100] av av' ∧ ∀ k : Nat, k < 320 → av' 100 k = if k < 288 then fxL k else 5) s iv av1 := by
    intro m
    induction m with
    | zero =>
      intro s av1 h1 h2 h3
      have hs : s = 320 := by omega
      subst hs
      exact w_X13_makeFixed_2 C (by omega) ⟨fun _ => ⟨rfl, h2, h3⟩, fun h => absurd h (by omega)⟩
    | succ m ih =>
      intro s av1 h1 h2 h3
      have next : ∀ v : Int, v = (if s < 288 then fxL s else 5) → L_X13_makeFixed_2 Y X (fun r iv' av' => iv' = iv ∧ Off [100] av av' ∧ ∀ k : Nat, k < 320 → av' 100 k = if k < 288 then fxL k else 5) ((s : Int) + 1) iv (up2 av1 100 (s : Int).toNat v) := by
        intro v hv
        rw [show (s : Int) + 1 = ((s + 1 : Nat) : Int) by omega]
        refine ih (s + 1) _ (by omega) (h2.up (by decide)) fun j hj => ?_
        rw [up2_at]
        by_cases hjs : j = (s : Int).toNat
        · rw [if_pos hjs, hv, show j = s by omega]
        · rw [if_neg hjs]
          exact h3 j (by omega)
      refine w_X13_makeFixed_2 C (by omega) ⟨fun h => absurd h (by omega), fun _ => ⟨fun h1 => ⟨fun h2 => ⟨fun h3 => ⟨fun h4 => ⟨by omega, next 5 ?_⟩, fun h4 => ⟨by omega, next 8 ?_⟩⟩, fun h3 => ⟨by omega, next 7 ?_⟩⟩, fun h2 => ⟨by omega, next 9 ?_⟩⟩, fun h1 => ⟨by omega, next 8 ?_⟩⟩⟩
      · rw [if_neg (by omega)]
      · rw [if_pos (by omega)]; unfold fxL; rw [if_neg (by omega), if_neg (by omega), if_neg (by omega)]
      · rw [if_pos (by omega)]; unfold fxL; rw [if_neg (by omega), if_neg (by omega), if_pos (by omega)]
      · rw [if_pos (by omega)]; unfold fxL; rw [if_neg (by omega), if_pos (by omega)]
      · rw [if_pos (by omega)]; unfold fxL; rw [if_pos (by omega)]
  exact key 320 0 av (by omega) (Off.rf _ _) fun j hj => absurd hj (Nat.not_lt_zero _)
/-- a part's end -/
def RP (iv0 av0 iv' av' : IVt) (fr N room : Nat) (d : Option (Nat × Outp)) (w : Int) : Prop :=
  OffM LMi LRj iv0 iv' ∧ Off LVa av0 av' ∧ ((w = 0 ∧ ∃ p' o', d = some (p', o') ∧ RS iv' fr N p' 0 ∧ RO iv' av' room o') ∨ ((w = 1 ∨ d = none) ∧ (∃ q, RS iv' fr N q 1) ∧ RB iv'))
theorem ak89 : ArrK 101 89 := ⟨rfl, by decide⟩
theorem ak92 : ArrK 101 92 := ⟨rfl, by decide⟩
theorem g_cmp_eq {x y : Int} : g_cmp x y = 0 ↔ x = y := by
  unfold g_cmp
  split
  · omega
  · split <;> omega
theorem l_X13_up296w (C : CX Y X RX13 "unpack" cX13_unpack 12 (some .int) (e + 3) 0 0) {iv0 av0 : IVt} {L : List Nat} {P : PN} (hP : ∀ iv', OffM L LRj iv0 iv' → RB iv' → P (-1) iv' av) : ∀ (m k : Nat) (x : Int) (iv : IVt) (q : Nat), k + m = 4 → 0 ≤ x → x < 256 ^ k → OffM L LRj iv0 iv → RB iv → RS iv fr N q 1 → L_X13_unpack_296 Y X P 89 92 x k iv av := by
  have e4 : (256 : Int) ^ 4 = 4294967296 := rfl
  have hp : ∀ k, k ≤ 4 → (256 : Int) ^ k ≤ 4294967296 := by
    intro k hk
    rcases (show k = 0 ∨ k = 1 ∨ k = 2 ∨ k = 3 ∨ k = 4 by omega) with rfl | rfl | rfl | rfl | rfl <;> decide
  intro m
  induction m with
  | zero =>
    intro k x iv q h1 h2 h3 h4 h5 h6
    have hw := h6.2.2.2.2.1
    have := hp k (by omega)
    exact w_X13_unpack_296 C ak89 ak92 (by omega) (by omega) ⟨fun _ _ => ⟨fun _ => hP iv h4 h5, fun h => absurd h (by omega)⟩, fun h => absurd h (by omega)⟩
  | succ m ih =>
    intro k x iv q h1 h2 h3 h4 h5 h6
    have := hp k (by omega)
    have e256 : (256 : Int) ^ (k + 1) = 256 * 256 ^ k := by rw [Int.pow_succ, Int.mul_comm]
    refine w_X13_unpack_296 C ak89 ak92 (by omega) (by omega) ⟨fun h => absurd h (by omega), fun _ => OkN.mono (s_X13_readNumber 8 rfl h6 (by decide)) ?_⟩
    rintro r iv1 av1 hR1 ⟨rfl, g1, g2⟩ hr
    rcases g2 with ⟨h10, _⟩ | ⟨_, b2, b3, q2, b4⟩
    · exact absurd h10 (by decide)
    rw [show (k : Int) + 1 = ((k + 1 : Nat) : Int) by omega]
    have e8 : (2 : Int) ^ 8 = 256 := rfl
    have f1 : OffM L LRj iv0 iv1 := h4.tr (g1.mono (by intro k hk; cases hk) (by decide))
    exact ih (k + 1) _ iv1 q2 (by omega) (by omega) (by omega) f1 (h5.offm g1) b4
theorem l_X13_up126w (C : CX Y X RX13 "unpack" cX13_unpack 12 (some .int) (e + 3) 0 0) {iv0 : IVt} {L : List Nat} {P : PN} (hP : ∀ iv', OffM L LRj iv0 iv' → RB iv' → P (-1) iv' av) {x6 x8 : Int} (hx8 : InR x8) {q : Nat} (h4 : OffM L LRj iv0 iv) (h5 : RB iv) (h6 : RS iv fr N q 1) : L_X13_unpack_126 Y X P 89 92 x6 x8 iv av := by
  have hw := h6.2.2.2.2.1
  have go : OkN Y (e + 2) mX13_toByte [.ref (gl_b Y + 73)] RV iv av 116 (fun r2 iv3 av4 => L_X13_unpack_296 Y X P 89 92 0 0 iv3 av4) := by
    refine OkN.mono (s_X13_toByte h6) ?_
    rintro r iv1 av1 hR1 ⟨rfl, g1, g2⟩
    exact l_X13_up296w (av0 := av1) C hP 4 0 0 iv1 _ (by omega) (by omega) (by decide) (h4.tr (g1.mono (by intro k hk; cases hk) (by decide))) (h5.offm g1) g2
  exact w_X13_unpack_126 C ak89 ak92 hx8 ⟨fun _ => go, fun _ _ => ⟨fun _ => go, fun h => absurd h (by omega)⟩⟩
theorem l_X13_up296 (C : CX Y X RX13 "unpack" cX13_unpack 12 (some .int) (e + 3) 0 0) {iv0 : IVt} {L : List Nat} (hB : Bit (BB (av 89) fr N)) {P : PN} (hP : ∀ (r : Int) iv', OffM L LRj iv0 iv' → ((r = -1 ∧ unpC (BB (av 89) fr N) N (some (p, o)) = none) ∨ (r = o.1 ∧ unpC (BB (av 89) fr N) N (some (p, o)) = some o ∧ o.1 ≤ room ∧ ∀ j : Nat, j < o.1 → av 92 j = o.2 j)) → P r iv' av) : ∀ (m k : Nat) (iv : IVt), k + m = 4 → OffM L LRj iv0 iv → RO iv av room o → RS iv fr N (toB p + 8 * k) 0 → L_X13_unpack_296 Y X P 89 92 (ckq (BB (av 89) fr N) (toB p) k) k iv av := by
  have hck : ∀ k, k ≤ 4 → 0 ≤ ckq (BB (av 89) fr N) (toB p) k ∧ ckq (BB (av 89) fr N) (toB p) k < 256 ^ k := by
    intro k
    induction k with
    | zero => intro _; exact ⟨Int.le_refl 0, by show (0 : Int) < 1; decide⟩
    | succ k ih =>
      intro hk
      have h1 := ih (by omega)
      have h2 := nv_in hB (toB p + 8 * k) 8
      have e8 : (2 : Int) ^ 8 = 256 := rfl
      have e256 : (256 : Int) ^ (k + 1) = 256 * 256 ^ k := by rw [Int.pow_succ, Int.mul_comm]
      have e1 : ckq (BB (av 89) fr N) (toB p) (k + 1) = ckq (BB (av 89) fr N) (toB p) k * 256 + nv (BB (av 89) fr N) (toB p + 8 * k) 8 := rfl
      omega
  have hp : ∀ k, k ≤ 4 → (256 : Int) ^ k ≤ 4294967296 := by
    intro k hk
    rcases (show k = 0 ∨ k = 1 ∨ k = 2 ∨ k = 3 ∨ k = 4 by omega) with rfl | rfl | rfl | rfl | rfl <;> decide
  have espec : unpC (BB (av 89) fr N) N (some (p, o)) = if toB p + 32 = N ∧ chk4 (BB (av 89) fr N) (toB p) = 65536 * (adl o.2 o.1).2 + (adl o.2 o.1).1 then some o else none := rfl
  rw [← ckq_4] at espec
  intro m
  induction m with
  | zero =>
    intro k iv h1 h2 h3 h4
    have hk : k = 4 := by omega
    subst hk
    have h5 := hck 4 (by omega)
    have h6 := hp 4 (by omega)
    have hw := h4.2.2.2.2.1
    have hpos := h4.2.2.2.1
    have hend := h4.2.2.1
    refine w_X13_unpack_296 C ak89 ak92 (by omega) (by omega) ⟨fun _ _ => ⟨fun h => absurd hw h, fun _ _ _ => ⟨fun hne => ?_, fun heq _ => ?_⟩⟩, fun h => absurd h (by omega)⟩
    · refine hP (-1) iv h2 (Or.inl ⟨rfl, ?_⟩)
      rw [espec, if_neg (by omega)]
    · obtain ⟨z1, z2, z3, z4, z5, z6⟩ := h3
      rw [z2]
      have hk92 : kl 92 = 65536 := rfl
      have hco := s_X13_checkOf (Y := Y) (e := e + 2) (iv := iv) (av := av) ak92 (n := o.1) (by omega) (f := 0) (by omega)
      refine OkN.mono hco ?_
      rintro r iv1 av1 hR1 ⟨rfl, rfl, rfl⟩ hr
      have ead : adl (fun j => av1 92 (0 + j)) o.1 = adl o.2 o.1 := adl_eq _ fun j hj => by
        rw [Nat.zero_add]
        exact z6 j hj
      rw [ead, z2]
      refine ⟨fun hc _ => hP _ iv1 h2 (Or.inr ⟨rfl, ?_, z4, z6⟩), fun hc => hP (-1) iv1 h2 (Or.inl ⟨rfl, ?_⟩)⟩
      · rw [espec, if_pos ⟨by omega, g_cmp_eq.mp hc⟩]
      · rw [espec, if_neg]
        rintro ⟨_, hh⟩
        exact hc (g_cmp_eq.mpr hh)
  | succ m ih =>
    intro k iv h1 h2 h3 h4
    have h5 := hck k (by omega)
    have h5' := hck (k + 1) (by omega)
    have h6 := hp k (by omega)
    refine w_X13_unpack_296 C ak89 ak92 (by omega) (by omega) ⟨fun h => absurd h (by omega), fun _ => OkN.mono (s_X13_readNumber 8 rfl h4 (by decide)) ?_⟩
    rintro r iv1 av1 hR1 ⟨rfl, g1, g2⟩ hr
    have f1 : OffM L LRj iv0 iv1 := h2.tr (g1.mono (by intro k hk; cases hk) (by decide))
    have e8 : (2 : Int) ^ 8 = 256 := rfl
    have e256 : (256 : Int) ^ (k + 1) = 256 * 256 ^ k := by rw [Int.pow_succ, Int.mul_comm]
    rw [show (k : Int) + 1 = ((k + 1 : Nat) : Int) by omega]
    rcases g2 with ⟨_, b1, rfl, b2⟩ | ⟨b1, b2, b3, q2, b4⟩
    · have e1 : 256 * ckq (BB (av1 89) fr N) (toB p) k + nv (BB (av1 89) fr N) (toB p + 8 * k) 8 = ckq (BB (av1 89) fr N) (toB p) (k + 1) := by
        show _ = ckq (BB (av1 89) fr N) (toB p) k * 256 + nv (BB (av1 89) fr N) (toB p + 8 * k) 8
        omega
      rw [e1]
      exact ih (k + 1) iv1 (by omega) f1 (h3.offm g1) (by rw [show toB p + 8 * (k + 1) = toB p + 8 * k + 8 by omega]; exact b2)
    · refine l_X13_up296w (av0 := av1) C (fun iv' c1 c2 => hP (-1) iv' c1 (Or.inl ⟨rfl, ?_⟩)) m (k + 1) _ iv1 q2 (by omega) (by omega) (by omega) f1 (h3.rb.offm g1) b4
      rw [espec, if_neg (by omega)]
theorem l_X13_unpack (C : CX Y X RX13 "unpack" cX13_unpack 12 (some .int) (e + 3) 0 0) {iv0 av0 : IVt} {x : Nat} (hx : x < 256) {P : PN} :
    ∀ (m p : Nat) (o : Outp) (iv av : IVt), N < p + m → OffM LMi LRj iv0 iv → Off LVa av0 av → RS iv fr N p 0 → RO iv av room o →
    (∀ (r : Int) iv' av', OffM LMi LRj iv0 iv' → Off LVa av0 av' → ((r = -1 ∧ unpC (BB (av0 89) fr N) N (unpF (BB (av0 89) fr N) N room (256 * 2 ^ (x / 16)) m p o) = none) ∨ (∃ o', r = o'.1 ∧ unpC (BB (av0 89) fr N) N (unpF (BB (av0 89) fr N) N room (256 * 2 ^ (x / 16)) m p o) = some o' ∧ o'.1 ≤ room ∧ ∀ j : Nat, j < o'.1 → av' 92 j = o'.2 j)) → P r iv' av') → L_X13_unpack_126 Y X P 89 92 x 0 iv av := by
  have hB := BB_bit (av0 89) fr N
  have hwin : 256 * 2 ^ (x / 16) ≤ 8388608 := by
    have : 2 ^ (x / 16) ≤ 2 ^ 15 := Nat.pow_le_pow_right (by omega) (by omega)
    omega
  have ewin : (256 : Int) * 2 ^ ((x : Int) / 16).toNat = ((256 * 2 ^ (x / 16) : Nat) : Int) := by
    rw [show ((x : Int) / 16).toNat = x / 16 by omega]
    simp
  intro m
  induction m with
  | zero =>
    intro p o iv av h1 h2 h3 h4
    have := h4.2.2.2.2.2.1
    omega
  | succ m ih =>
    intro p o iv av h1 h2 h3 h4 h5 hP
    have hw := h4.2.2.2.2.1
    have e89 : av 89 = av0 89 := h3 89 (by decide)
    refine w_X13_unpack_126 C ak89 ak92 (by omega) ⟨fun h => absurd rfl h, fun _ _ => ⟨fun h => absurd hw h, fun _ => OkN.mono (s_X13_readBit h4) ?_⟩⟩
    rintro r iv1 av1 hR1 ⟨rfl, g1, g2⟩ hr1
    rw [e89] at g2
    have f1 : OffM LMi LRj iv0 iv1 := h2.tr (g1.mono (by intro k hk; cases hk) (by decide))
    have o1 := h5.offm g1
    have bad : unpF (BB (av0 89) fr N) N room (256 * 2 ^ (x / 16)) (m + 1) p o = none → ∀ iv' av', OffM LMi LRj iv0 iv' → Off LVa av0 av' → P (-1) iv' av' := fun hd iv' av' c1 c2 => hP (-1) iv' av' c1 c2 (Or.inl ⟨rfl, by rw [hd]; rfl⟩)
    -- a part
    have part : ∀ (last sort w : Int) (p3 : Nat) (iv2 : IVt), (last = 0 ∨ last = 1) → 0 ≤ sort → sort ≤ 3 → OffM LMi LRj iv0 iv2 → RS iv2 fr N p3 w → RO iv2 av1 room o → (w = 0 → sort ≠ 3 ∧ p + 3 ≤ N ∧ p3 = p + 3 ∧ sort = nv (BB (av0 89) fr N) (p + 1) 2 ∧ last = BB (av0 89) fr N p) → (w = 1 → unpF (BB (av0 89) fr N) N room (256 * 2 ^ (x / 16)) (m + 1) p o = none) → L_X13_unpack_182 Y X P 89 92 x last sort iv2 av1 := by
      intro last sort w p3 iv2 hl hs0 hs3 c1 c2 c3 c4 c5
      have hw01 := c2.2.2.2.2.2.2.2.2
      -- behind the part
      have behind : ∀ (iv3 av3 : IVt), OffM LMi LRj iv0 iv3 → Off LVa av0 av3 → ((w = 0 ∧ ∃ p' o', partF (BB (av0 89) fr N) N room (256 * 2 ^ (x / 16)) sort p3 o = some (p', o') ∧ RS iv3 fr N p' 0 ∧ RO iv3 av3 room o' ∧ p < p') ∨ ((w = 1 ∨ partF (BB (av0 89) fr N) N room (256 * 2 ^ (x / 16)) sort p3 o = none) ∧ (∃ q, RS iv3 fr N q 1) ∧ RB iv3)) → L_X13_unpack_283 Y X P 89 92 x last iv3 av3 := by
        intro iv3 av3 d1 d2 d3
        refine w_X13_unpack_283 C ak89 ak92 ?_
        rcases d3 with ⟨hw0, p', o', d3, d4, d5, d6⟩ | ⟨d3, ⟨q, d4⟩, d5⟩
        · subst hw0
          obtain ⟨c6, c7, c8, c9, c10⟩ := c4 rfl
          subst c8
          have espec : unpF (BB (av0 89) fr N) N room (256 * 2 ^ (x / 16)) (m + 1) p o = if BB (av0 89) fr N p = 1 then some (p', o') else unpF (BB (av0 89) fr N) N room (256 * 2 ^ (x / 16)) m p' o' := by
            rw [unpF, if_neg (by omega), ← c9, d3]
          have hw3 := d4.2.2.2.2.1
          rcases hl with rfl | rfl
          · refine ih p' o' iv3 av3 (by omega) d1 d2 d4 d5 ?_
            intro r iv' av' b1 b2 b3
            refine hP r iv' av' b1 b2 ?_
            rw [espec, if_neg (by omega)]
            exact b3
          · have e89' : av3 89 = av0 89 := d2 89 (by decide)
            refine w_X13_unpack_126 C ak89 ak92 (by omega) ⟨fun _ => OkN.mono (s_X13_toByte d4) ?_, fun h => absurd h (by decide)⟩
            rintro r iv4 av4 hR4 ⟨rfl, b1, b2⟩
            have := l_X13_up296 (iv0 := iv0) (L := LMi) (p := p') (o := o') (room := room) (fr := fr) (N := N) (av := av4) (P := P) C (by rw [e89']; exact hB) ?_ 4 0 iv4 (by omega) (d1.tr (b1.mono (by intro k hk; cases hk) (by decide))) (d5.offm b1) b2
            · exact this
            · intro r iv' b3 b4
              rw [e89'] at b4
              refine hP r iv' av4 b3 d2 ?_
              rw [espec, if_pos (by omega)]
              rcases b4 with b4 | b4
              · exact Or.inl b4
              · exact Or.inr ⟨o', b4⟩
        · have hd : unpF (BB (av0 89) fr N) N room (256 * 2 ^ (x / 16)) (m + 1) p o = none := by
            rcases hw01 with hw0 | hw1
            · obtain ⟨c6, c7, c8, c9, c10⟩ := c4 hw0
              subst c8
              rcases d3 with d3 | d3
              · omega
              · rw [unpF, if_neg (by omega), ← c9, d3]
            · exact c5 hw1
          exact l_X13_up126w C (fun iv' b1 b2 => bad hd iv' av3 b1 d2) (by omega) d1 d5 d4
      have rsm : w = 0 → ∀ {fS fD : Nat → Int} {q : Nat} {o' : Outp} (p' : Nat) , symsF (BB (av0 89) fr N) N fS fD room (256 * 2 ^ (x / 16)) (N + 1) q o = some (p', o') → q ≤ p' := by
        intro _
        have g : ∀ {fS fD : Nat → Int} (m2 q : Nat) (o2 : Outp) (p' : Nat) (o' : Outp), symsF (BB (av0 89) fr N) N fS fD room (256 * 2 ^ (x / 16)) m2 q o2 = some (p', o') → q ≤ p' := by
          intro fS fD m2
          induction m2 with
          | zero => intro q o2 p' o' h; simp [symsF] at h
          | succ m2 ih2 =>
            intro q o2 p' o' h
            rw [symsF] at h
            cases hs : sym (BB (av0 89) fr N) N fS 288 q with
            | none => rw [hs] at h; simp at h
            | some v =>
              obtain ⟨s, q1⟩ := v
              rw [hs] at h
              dsimp only at h
              have hq1 := (sym_some hB hs).2.1
              split at h
              · have := congrArg Prod.fst (Option.some.inj h)
                dsimp only at this
                omega
              · split at h
                · split at h
                  · simp at h
                  · have := ih2 _ _ _ _ h
                    omega
                · split at h
                  · simp at h
                  · cases hs2 : sym (BB (av0 89) fr N) N fD 32 (q1 + lbits s) with
                    | none => rw [hs2] at h; simp at h
                    | some v2 =>
                      obtain ⟨d, q3⟩ := v2
                      rw [hs2] at h
                      dsimp only at h
                      have hq3 := (sym_some hB hs2).2.1
                      split at h
                      · simp at h
                      · have := ih2 _ _ _ _ h
                        omega
        intro fS fD q o' p' h
        exact g _ _ _ _ _ h
      -- the symbols of a part
      have syms : ∀ (iv3 av3 : IVt) (q : Nat) (w3 : Int) (fS fD : Nat → Int), OffM LMi LRj iv0 iv3 → Off LVa av0 av3 → RS iv3 fr N q w3 → RB iv3 → (w3 = 0 → RO iv3 av3 room o) → (w3 = 0 → TR av3 109 fS 288) → (w3 = 0 → TR av3 111 fD 32) → (w = 1 → w3 = 1) → (w3 = 1 → w = 1 ∨ partF (BB (av0 89) fr N) N room (256 * 2 ^ (x / 16)) sort p3 o = none) → (w3 = 0 → p < q ∧ partF (BB (av0 89) fr N) N room (256 * 2 ^ (x / 16)) sort p3 o = symsF (BB (av0 89) fr N) N fS fD room (256 * 2 ^ (x / 16)) (N + 1) q o) → OkN Y (e + 2) mX13_readSymbols [.ref (gl_b Y + 73), .int (i32 (256 * 2 ^ ((x : Int) / 16).toNat))] RV iv3 av3 116 (fun r10 iv11 av12 => L_X13_unpack_283 Y X P 89 92 x last iv11 av12) := by
        intro iv3 av3 q w3 fS fD d1 d2 d3 d4 d5 d6 d7 d8 d9 d10
        rw [ewin]
        refine OkN.mono (s_X13_readSymbols hwin d3 d4 d5 (fS := fS) (fD := fD) d6 d7) ?_
        rintro r iv4 av4 hR4 ⟨b1, b2, b3⟩
        have e89' : av3 89 = av0 89 := d2 89 (by decide)
        rw [e89'] at b3
        refine behind iv4 av4 (d1.tr (b1.mono (by intro k hk; cases hk) (by decide))) (d2.tr (b2.mono (by decide))) ?_
        rcases b3 with ⟨rfl, p', o', b4, b5, b6⟩ | ⟨b4, b5, b6⟩
        · obtain ⟨d11, d12⟩ := d10 rfl
          have hw0 : w = 0 := by
            rcases hw01 with h | h
            · exact h
            · have := d8 h
              omega
          have := rsm hw0 _ b4
          exact Or.inl ⟨hw0, p', o', by rw [d12]; exact b4, b5, b6, by omega⟩
        · refine Or.inr ⟨?_, b5, b6⟩
          rcases d3.2.2.2.2.2.2.2.2 with h3 | h3
          · rcases b4 with b4 | b4
            · omega
            · exact Or.inr (by rw [(d10 h3).2]; exact b4)
          · exact d9 h3
      have hb2 := c3.rb
      refine w_X13_unpack_182 C ak89 ak92 (by omega) (by omega) ⟨fun h0 => ⟨fun h1 => OkN.mono (s_X13_readMade c2) ?_, fun h1 => OkN.mono s_X13_makeFixed ?_⟩, fun h0 => OkN.mono (s_X13_readStored (room := room) (o := o) c2 hb2 fun _ => c3) ?_⟩
      · -- a made part
        rintro r iv3 av3 hR3 ⟨b1, b2, b3⟩
        rw [e89] at b3
        have d1 : OffM LMi LRj iv0 iv3 := c1.tr (b1.mono (by decide) (by decide))
        have d2 : Off LVa av0 av3 := h3.tr (b2.mono (by decide))
        have d3 : RB iv3 := hb2.offm b1
        refine ⟨by omega, by omega, by rw [ewin]; omega, ?_⟩
        rcases b3 with ⟨hw0, p', fS, fD, b4, b5, b6, b7⟩ | ⟨b4, q, b5⟩
        · subst hw0
          obtain ⟨c6, c7, c8, c9, c10⟩ := c4 rfl
          subst c8
          have h2 : sort = 2 := by omega
          have hmp : p + 3 ≤ p' := by
            unfold madeF at b4
            by_cases hh : N < p + 3 + 14 + 3 * (nn (BB (av0 89) fr N) (p + 3 + 10) 4 + 4) ∨ 286 < nn (BB (av0 89) fr N) (p + 3) 5 + 257 ∨ 30 < nn (BB (av0 89) fr N) (p + 3 + 5) 5 + 1 ∨ ¬ okC (zs (BB (av0 89) fr N) (p + 3 + 14) (nn (BB (av0 89) fr N) (p + 3 + 10) 4 + 4)) 19 False
            · rw [cif_pos hh] at b4
              simp at b4
            · rw [cif_neg hh] at b4
              have rg : ∀ {z : Nat → Int} {all : Nat} (m2 q a : Nat) (row : Nat → Int) (p' : Nat) (row' : Nat → Int), rowF (BB (av0 89) fr N) N z all m2 q a row = some (p', row') → q ≤ p' := by
                intro z all m2
                induction m2 with
                | zero => intro q a row p' row' h; simp [rowF] at h
                | succ m2 ih2 =>
                  intro q a row p' row' h
                  rw [rowF] at h
                  split at h
                  · have := congrArg Prod.fst (Option.some.inj h)
                    dsimp only at this
                    omega
                  · cases hs : sym (BB (av0 89) fr N) N z 19 q with
                    | none => rw [hs] at h; simp at h
                    | some v =>
                      obtain ⟨s, q1⟩ := v
                      rw [hs] at h
                      dsimp only at h
                      have hq1 := (sym_some hB hs).2.1
                      split at h
                      · simp at h
                      · have := ih2 _ _ _ _ _ h
                        omega
              cases hrow : rowF (BB (av0 89) fr N) N (zs (BB (av0 89) fr N) (p + 3 + 14) (nn (BB (av0 89) fr N) (p + 3 + 10) 4 + 4)) (nn (BB (av0 89) fr N) (p + 3) 5 + 257 + (nn (BB (av0 89) fr N) (p + 3 + 5) 5 + 1)) 400 (p + 3 + 14 + 3 * (nn (BB (av0 89) fr N) (p + 3 + 10) 4 + 4)) 0 (fun _ => 0) with
              | none => rw [hrow] at b4; simp [madeC] at b4
              | some v =>
                obtain ⟨pr, row⟩ := v
                have := rg _ _ _ _ _ _ hrow
                rw [hrow, madeC_some] at b4
                by_cases hc : codeC (nn (BB (av0 89) fr N) (p + 3) 5 + 257) (nn (BB (av0 89) fr N) (p + 3 + 5) 5 + 1) row
                · rw [cif_pos hc] at b4
                  simp at b4
                · rw [cif_neg hc] at b4
                  have := congrArg Prod.fst (Option.some.inj b4)
                  dsimp only at this
                  omega
          refine syms iv3 av3 p' 0 fS fD d1 d2 b5 d3 (fun _ => c3.of (b1.2 58 (by decide)) (b1.2 59 (by decide)) (b1.2 60 (by decide)) (b2 92 (by decide))) (fun _ => b6) (fun _ => b7) (fun h => h) (fun h => absurd h (by decide)) fun _ => ⟨by omega, ?_⟩
          rw [partF, if_neg (by omega), if_neg (by omega), if_pos h2, b4]
          rfl
        · refine syms iv3 av3 q 1 fxL fxL d1 d2 b5 d3 (fun h => absurd h (by decide)) (fun h => absurd h (by decide)) (fun h => absurd h (by decide)) (fun _ => rfl) (fun _ => ?_) fun h => absurd h (by decide)
          rcases hw01 with hw0 | hw1
          · obtain ⟨c6, c7, c8, c9, c10⟩ := c4 hw0
            have h2 : sort = 2 := by omega
            rcases b4 with b4 | b4
            · exact Or.inl b4
            · right
              rw [partF, if_neg (by omega), if_neg (by omega), if_pos h2, b4]
              rfl
          · exact Or.inl hw1
      · -- a fixed part
        rintro r iv3 av3 hR3 ⟨rfl, b1, b2⟩
        have hq0 : ((0 : Int) ≠ 0) ↔ False := ⟨fun h => h rfl, fun h => h.elim⟩
        have hf15 : ∀ s, 0 ≤ fxL s ∧ fxL s ≤ 15 := fun s => by
          unfold fxL
          split
          · omega
          · split
            · omega
            · split <;> omega
        have l1 : Len av3 100 0 288 fxL := ⟨by decide, by omega, fun s hs => ⟨by rw [Nat.zero_add, b2 s (by omega), if_pos hs], hf15 s⟩⟩
        refine OkN.mono (s_X12_make tk_109 ak_100 (by decide) (by omega) l1) ?_
        rintro r4 iv4 av4 hR4 ⟨d1, d2, d3⟩ hr4
        rw [okC_q hq0] at d3
        have l2 : Len av4 100 288 32 (fun _ => 5) := ⟨by decide, by omega, fun s hs => ⟨by rw [d2 100 (by decide), b2 (288 + s) (by omega), if_neg (by omega)], by show (0 : Int) ≤ 5; decide, by show (5 : Int) ≤ 15; decide⟩⟩
        refine ⟨fun hz => absurd okF_S ?_, fun hnz => OkN.mono (s_X12_make tk_111 ak_100 (by decide) (by omega) l2) ?_⟩
        · rcases d3 with ⟨_, d3⟩ | ⟨d3, _⟩
          · exact d3
          · omega
        rintro r5 iv5 av5 hR5 ⟨f1', f2', f3'⟩ hr5
        rw [okC_q hq0] at f3'
        have t1 := (d3.resolve_left (fun h => hnz h.1)).2.2
        have i5 : OffM LMi LRj iv0 iv5 := (c1.tr (d1.mono (by decide) (by decide))).tr (f1'.mono (by decide) (by decide))
        have a5 : Off LVa av0 av5 := ((h3.tr (b1.mono (by decide))).tr (d2.mono (by decide))).tr (f2'.mono (by decide))
        have i5' : OffM LMi [] iv3 iv5 := (d1.mono (by decide) (by decide)).tr (f1'.mono (by decide) (by decide))
        refine ⟨fun hz => absurd okF_D ?_, fun hnz2 => w_X13_unpack_250 C ak89 ak92 (by omega) ⟨by omega, by omega, by rw [ewin]; omega, ?_⟩⟩
        · rcases f3' with ⟨_, f3'⟩ | ⟨f3', _⟩
          · exact f3'
          · omega
        have t2 := (f3'.resolve_left (fun h => hnz2 h.1)).2.2
        have r5 := c2.offm i5' (by decide)
        have o5 : RO iv5 av5 room o := c3.of (i5'.2 58 (by decide)) (i5'.2 59 (by decide)) (i5'.2 60 (by decide)) (by rw [f2' 92 (by decide), d2 92 (by decide), b1 92 (by decide)])
        refine syms iv5 av5 p3 w fxL (fun _ => 5) i5 a5 r5 o5.rb (fun _ => o5) (fun _ => t1.of (f2' 110 (by decide))) (fun _ => t2) (fun h => h) (fun h => Or.inl h) fun hw0 => ?_
        obtain ⟨c6, c7, c8, c9, c10⟩ := c4 hw0
        refine ⟨by omega, ?_⟩
        rw [partF, if_neg (by omega), if_pos h1]
      · -- a stored part
        rintro r iv3 av3 hR3 ⟨b1, b2, b3⟩
        rw [e89] at b3
        refine behind iv3 av3 (c1.tr (b1.mono (by intro k hk; cases hk) (by decide))) (h3.tr (b2.mono (by decide))) ?_
        have esp : partF (BB (av0 89) fr N) N room (256 * 2 ^ (x / 16)) sort p3 o = storedF (BB (av0 89) fr N) N room p3 o := by rw [partF, if_pos h0]
        rw [esp]
        rcases b3 with ⟨hw0, p', o', b4, b5, b6⟩ | b3
        · refine Or.inl ⟨hw0, p', o', b4, b5, b6, ?_⟩
          obtain ⟨c6, c7, c8, c9, c10⟩ := c4 hw0
          unfold storedF at b4
          split at b4
          · simp at b4
          · have := congrArg Prod.fst (Option.some.inj b4)
            dsimp only at this
            have htb : toB p3 = (p3 + 7) / 8 * 8 := rfl
            omega
        · exact Or.inr b3
    -- the sort
    have e4 : (2 : Int) ^ 2 = 4 := rfl
    rcases g2 with ⟨_, b1, rfl, b2⟩ | ⟨b1, rfl, b2⟩
    · have hb := hB p
      have go : ∀ last : Int, last = BB (av0 89) fr N p → OkN Y (e + 2) mX13_readNumber [.ref (gl_b Y + 73), .int (i32 2)] RV iv1 av1 116 (fun r17 iv18 av19 =>
                (InR r17) →
                ((InR (iv18 73 57)) →
                  ((¬ (iv18 73 57) = 0) →
                    L_X13_unpack_182 Y X P 89 92 x last r17 (up2 iv18 73 57 1) av19
                  ) ∧
                  (((iv18 73 57) = 0) →
                    ((¬ r17 = 3) →
                      L_X13_unpack_182 Y X P 89 92 x last r17 (up2 iv18 73 57 0) av19
                    ) ∧
                    ((r17 = 3) →
                      L_X13_unpack_182 Y X P 89 92 x last r17 (up2 iv18 73 57 1) av19
                    )
                  )
                )) := by
        intro last hlast
        refine OkN.mono (s_X13_readNumber 2 rfl b2 (by decide)) ?_
        rintro r17 iv2 av2 hR2 ⟨rfl, g3, g4⟩ hr17
        rw [e89] at g4
        have f2 : OffM LMi LRj iv0 iv2 := f1.tr (g3.mono (by intro k hk; cases hk) (by decide))
        have o2 := o1.offm g3
        rcases g4 with ⟨_, c1, rfl, c2⟩ | ⟨c1, c2, c3, q, c4⟩
        · have hnv := nv_in hB (p + 1) 2
          have hw2 := c2.2.2.2.2.1
          refine fun _ => ⟨fun h => absurd hw2 h, fun _ => ⟨fun h3 => ?_, fun h3 => ?_⟩⟩
          · exact part last _ 0 (p + 1 + 2) _ (by omega) hnv.1 (by omega) (f2.up (by decide)) (c2.wr (Or.inl rfl)) o2 (fun _ => ⟨h3, by omega, by omega, rfl, hlast⟩) fun h => absurd h (by decide)
          · refine part last _ 1 (p + 1 + 2) _ (by omega) hnv.1 (by omega) (f2.up (by decide)) (c2.wr (Or.inr rfl)) o2 (fun h => absurd h (by decide)) fun _ => ?_
            rw [unpF, if_neg (by omega), partF, if_neg (by omega), if_neg (by omega), if_neg (by omega)]
        · have hw2 := c4.2.2.2.2.1
          refine fun _ => ⟨fun _ => ?_, fun h => absurd h (by omega)⟩
          refine part last _ 1 q _ (by omega) c2 (by omega) (f2.up (by decide)) (c4.wr (Or.inr rfl)) o2 (fun h => absurd h (by decide)) fun _ => ?_
          rw [unpF, if_pos (by omega)]
      exact ⟨fun h => go 0 (by omega), fun h => go 1 h.symm⟩
    · have hd : unpF (BB (av0 89) fr N) N room (256 * 2 ^ (x / 16)) (m + 1) p o = none := by
        rw [unpF, if_pos (by omega)]
      refine ⟨fun _ => OkN.mono (s_X13_readNumber 2 rfl b2 (by decide)) ?_, fun h => absurd h (by decide)⟩
      rintro r17 iv2 av2 hR2 ⟨rfl, g3, g4⟩ hr17
      have f2 : OffM LMi LRj iv0 iv2 := f1.tr (g3.mono (by intro k hk; cases hk) (by decide))
      have o2 := o1.offm g3
      rcases g4 with ⟨h10, _⟩ | ⟨c1, c2, c3, q, c4⟩
      · exact absurd h10 (by decide)
      have hw2 := c4.2.2.2.2.1
      refine fun _ => ⟨fun _ => ?_, fun h => absurd h (by omega)⟩
      exact part 0 _ 1 q _ (by omega) c2 (by omega) (f2.up (by decide)) (c4.wr (Or.inr rfl)) o2 (fun h => absurd h (by decide)) fun _ => hd
/-- a whole unpacking's end, of the reference -/
def RE (iv0 av0 iv' av' : IVt) (room : Nat) (d : Option Outp) (r : Int) : Prop := OffM LMi LVj iv0 iv' ∧ Off LVa av0 av' ∧ ((r = -1 ∧ d = none) ∨ (∃ o', r = o'.1 ∧ d = some o' ∧ o'.1 ≤ room ∧ ∀ j : Nat, j < o'.1 → av' 92 j = o'.2 j))
theorem s_X13_unpack {k : Nat} (hN : N = 8 * k) (hk : fr + k ≤ 131072) (hm : room ≤ 65536) : OkN Y (e + 3) mX13_unpack [.ref (gl_b Y + 73), .ref (gl_b Y + 89), .int (i32 (fr : Int)), .int (i32 (k : Int)), .ref (gl_b Y + 92), .int (i32 (room : Int))] RV iv av 116
    (fun r iv' av' => RE iv av iv' av' room (unpackF (BB (av 89) fr N) N room) r) := by
  have hB := BB_bit (av 89) fr N
  refine o_X13_unpack ak89 ak92 (by omega) (by omega) fun X C => ⟨by omega, ?_⟩
  have e8 : (2 : Int) ^ 8 = 256 := rfl
  have f0 : OffM LMi LVj iv (up2 (up2 (up2 (up2 (up2 (up2 (up2 (up2 iv 73 53 ((89 + 1 : Nat) : Int)) 73 54 (fr : Int)) 73 55 (8 * (k : Int))) 73 56 0) 73 57 0) 73 58 ((92 + 1 : Nat) : Int)) 73 59 0) 73 60 (room : Int)) :=
    ((((((((OffM.rf _ _ _).up (by decide)).up (by decide)).up (by decide)).up (by decide)).up (by decide)).up (by decide)).up (by decide)).up (by decide)
  have r0 : RS (up2 (up2 (up2 (up2 (up2 (up2 (up2 (up2 iv 73 53 ((89 + 1 : Nat) : Int)) 73 54 (fr : Int)) 73 55 (8 * (k : Int))) 73 56 0) 73 57 0) 73 58 ((92 + 1 : Nat) : Int)) 73 59 0) 73 60 (room : Int)) fr N 0 0 :=
    ⟨rfl, rfl, by show 8 * (k : Int) = _; omega, rfl, rfl, by omega, by omega, by omega, Or.inl rfl⟩
  have o0 : RO (up2 (up2 (up2 (up2 (up2 (up2 (up2 (up2 iv 73 53 ((89 + 1 : Nat) : Int)) 73 54 (fr : Int)) 73 55 (8 * (k : Int))) 73 56 0) 73 57 0) 73 58 ((92 + 1 : Nat) : Int)) 73 59 0) 73 60 (room : Int)) av room (0, fun _ => 0) :=
    ⟨rfl, rfl, rfl, by dsimp only; omega, hm, fun j hj => absurd hj (Nat.not_lt_zero _)⟩
  refine OkN.mono (s_X13_readNumber 8 rfl r0 (by decide)) ?_
  rintro r2 iv1 av1 hR1 ⟨rfl, g1, g2⟩ hr2
  have f1 : OffM LMi LVj iv iv1 := f0.tr (g1.mono (by intro k hk; cases hk) (by decide))
  have o1 := o0.offm g1
  have wrongs : ∀ (x : Int) (iv3 : IVt) (q : Nat), OffM LMi LVj iv iv3 → RB iv3 → RS iv3 fr N q 1 → unpackF (BB (av1 89) fr N) N room = none → L_X13_unpack_126 Y X (fun r iv' av' => RE iv av1 iv' av' room (unpackF (BB (av1 89) fr N) N room) r) 89 92 x 0 iv3 av1 := by
    intro x iv3 q c1 c2 c3 c4
    exact l_X13_up126w (iv0 := iv3) (L := LMi) C (fun iv' d1 d2 => ⟨c1.tr (d1.mono (fun _ h => h) (by decide)), Off.rf _ _, Or.inl ⟨rfl, c4⟩⟩) (by omega) (OffM.rf _ _ _) c2 c3
  rcases g2 with ⟨_, a1, rfl, a2⟩ | ⟨a1, a2, a3, q, a4⟩
  rotate_left
  · refine OkN.mono (s_X13_readNumber 8 rfl a4 (by decide)) ?_
    rintro r6 iv2 av2 hR2 ⟨rfl, g3, g4⟩ hr6
    rcases g4 with ⟨h10, _⟩ | ⟨c1, c2, c3, q, c4⟩
    · exact absurd h10 (by decide)
    have hw2 := c4.2.2.2.2.1
    refine fun _ => ⟨fun _ => ?_, fun h => absurd h (by omega)⟩
    refine wrongs _ _ q ((f1.tr (g3.mono (by intro k hk; cases hk) (by decide))).up (by decide)) (o1.rb.offm g3).wr (c4.wr (Or.inr rfl)) ?_
    unfold unpackF
    rw [if_pos (Or.inl (by omega))]
  have hx := nv_in hB 0 8
  have nnx := nn_eq hB 0 8
  have l1 : nn (BB (av1 89) fr N) 0 8 < 256 := nn_lt hB 0 8
  refine OkN.mono (s_X13_readNumber 8 rfl a2 (by decide)) ?_
  rintro r6 iv2 av2 hR2 ⟨rfl, g3, g4⟩ hr6
  have f2 : OffM LMi LVj iv iv2 := f1.tr (g3.mono (by intro k hk; cases hk) (by decide))
  have o2 := o1.offm g3
  rcases g4 with ⟨_, c1, rfl, c2⟩ | ⟨c1, c2, c3, q, c4⟩
  rotate_left
  · have hw2 := c4.2.2.2.2.1
    refine fun _ => ⟨fun _ => ?_, fun h => absurd h (by omega)⟩
    refine wrongs _ _ q (f2.up (by decide)) o2.rb.wr (c4.wr (Or.inr rfl)) ?_
    unfold unpackF
    rw [if_pos (Or.inl (by omega))]
  rw [show 0 + 8 = 8 from rfl] at c1 c2 hr6 ⊢
  rw [show 8 + 8 = 16 from rfl] at c1 c2
  have hy := nv_in hB 8 8
  have hw2 := c2.2.2.2.2.1
  have bad : (N < 16 ∨ (256 * nv (BB (av2 89) fr N) 0 8 + nv (BB (av2 89) fr N) 8 8) % 31 ≠ 0 ∨ nv (BB (av2 89) fr N) 0 8 % 16 ≠ 8 ∨ 7 < nv (BB (av2 89) fr N) 0 8 / 16 ∨ nv (BB (av2 89) fr N) 8 8 / 32 % 2 = 1) → L_X13_unpack_126 Y X (fun r iv' av' => RE iv av2 iv' av' room (unpackF (BB (av2 89) fr N) N room) r) 89 92 (nv (BB (av2 89) fr N) 0 8) 0 (up2 iv2 73 57 1) av2 := by
    intro hd
    refine wrongs _ _ 16 (f2.up (by decide)) o2.rb.wr (c2.wr (Or.inr rfl)) ?_
    unfold unpackF
    rw [if_pos hd]
  refine fun _ => ⟨fun h => absurd hw2 h, fun _ => ⟨by omega, by omega, fun h31 => bad (Or.inr (Or.inl h31)), fun h31 => ⟨by omega, fun h16 => bad (Or.inr (Or.inr (Or.inl h16))), fun h16 => ⟨fun h7 => bad (Or.inr (Or.inr (Or.inr (Or.inl h7)))), fun h7 => ⟨by omega, by omega, fun h32 => ?_, fun h32 => bad (Or.inr (Or.inr (Or.inr (Or.inr h32))))⟩⟩⟩⟩⟩
  rw [nnx]
  refine l_X13_unpack (iv0 := up2 iv2 73 57 0) (av0 := av2) C l1 (N + 1) 16 (0, fun _ => 0) (up2 iv2 73 57 0) av2 (by omega) (OffM.rf _ _ _) (Off.rf _ _) (c2.wr (Or.inl rfl)) o2 ?_
  intro r iv' av' b1 b2 b3
  refine ⟨(f2.up (by decide)).tr (b1.mono (fun _ h => h) (by decide)), b2, ?_⟩
  unfold unpackF
  rw [if_neg (by omega)]
  exact b3
end SRunpack
