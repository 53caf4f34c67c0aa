/-! The reference's reader of bits, and its trees. -/
/-- outside of these keys, and of these fields of the reference's object, nothing has changed -/
def OffM (L J : List Nat) (f g : IVt) : Prop := (∀ k, k ≠ 73 → k ∉ L → g k = f k) ∧ ∀ j, j ∉ J → g 73 j = f 73 j
theorem OffM.rf (L J : List Nat) (f : IVt) : OffM L J f f := ⟨fun _ _ _ => rfl, fun _ _ => rfl⟩
theorem OffM.tr {L J : List Nat} {f g h : IVt} (a : OffM L J f g) (b : OffM L J g h) : OffM L J f h := ⟨fun k h1 h2 => (b.1 k h1 h2).trans (a.1 k h1 h2), fun j hj => (b.2 j hj).trans (a.2 j hj)⟩
theorem OffM.mono {L J L' J' : List Nat} {f g : IVt} (a : OffM L J f g) (h1 : ∀ k, k ∈ L → k ∈ L') (h2 : ∀ k, k ∈ J → k ∈ J') : OffM L' J' f g := ⟨fun k g1 g2 => a.1 k g1 fun g3 => g2 (h1 k g3), fun j hj => a.2 j fun g3 => hj (h2 j g3)⟩
theorem OffM.up {L J : List Nat} {f g : IVt} (a : OffM L J f g) {j : Nat} {v : Int} (hj : j ∈ J) : OffM L J f (up2 g 73 j v) := by
  refine ⟨fun k h1 h2 => ?_, fun j' hj' => ?_⟩
  · rw [up2_ne h1]
    exact a.1 k h1 h2
  · rw [up2_nj (fun h => hj' (by rw [h]; exact hj))]
    exact a.2 j' hj'
theorem OffM.upL {L J : List Nat} {f g : IVt} (a : OffM L J f g) {k j : Nat} {v : Int} (hk : k ∈ L) (h73 : k ≠ 73) : OffM L J f (up2 g k j v) := by
  refine ⟨fun k' h1 h2 => ?_, fun j' hj' => ?_⟩
  · rw [up2_ne (fun h => h2 (by rw [h]; exact hk))]
    exact a.1 k' h1 h2
  · rw [up2_ne (Ne.symm h73)]
    exact a.2 j' hj'
/-- the reference's reader -/
def RS (iv : IVt) (fr N p : Nat) (w : Int) : Prop := iv 73 53 = ((89 + 1 : Nat) : Int) ∧ iv 73 54 = fr ∧ iv 73 55 = N ∧ iv 73 56 = p ∧ iv 73 57 = w ∧ p ≤ N ∧ N % 8 = 0 ∧ fr + N / 8 ≤ 131072 ∧ (w = 0 ∨ w = 1)
theorem RS.of {iv iv' : IVt} {fr N p : Nat} {w : Int} (h : RS iv fr N p w) (e1 : iv' 73 53 = iv 73 53) (e2 : iv' 73 54 = iv 73 54) (e3 : iv' 73 55 = iv 73 55) (e4 : iv' 73 56 = iv 73 56) (e5 : iv' 73 57 = iv 73 57) : RS iv' fr N p w := by
  unfold RS at *
  rw [e1, e2, e3, e4, e5]
  exact h
/-- wrong is set -/
theorem RS.wr {iv : IVt} {fr N p : Nat} {w v : Int} (h : RS iv fr N p w) (hv : v = 0 ∨ v = 1) : RS (up2 iv 73 57 v) fr N p v := by
  obtain ⟨h1, h2, h3, h4, h5, h6, h7, h8, h9⟩ := h
  exact ⟨h1, h2, h3, h4, up2_eq _ _ _ _, h6, h7, h8, hv⟩
/-- how something was read -/
def RdR (iv' : IVt) (fr N : Nat) (d : Option (Nat × Nat)) (w r : Int) : Prop := (w = 0 ∧ ∃ s q, d = some (s, q) ∧ r = s ∧ RS iv' fr N q 0) ∨ ((w = 1 ∨ d = none) ∧ r = 0 ∧ ∃ q, RS iv' fr N q 1)
section SRread
variable {Y : Gl} {X : Cx} {e : Nat} {iv av : IVt} {fr N p : Nat} {w : Int}
theorem s_X13_readBit (h : RS iv fr N p w) : OkN Y e mX13_readBit [.ref (gl_b Y + 73)] RV iv av 116
    (fun r iv' av' => av' = av ∧ OffM [] [56, 57] iv iv' ∧ ((w = 0 ∧ p < N ∧ r = BB (av 89) fr N p ∧ RS iv' fr N (p + 1) 0) ∨ ((w = 1 ∨ p = N) ∧ r = 0 ∧ RS iv' fr N p 1))) := by
  have hh := h
  obtain ⟨h1, h2, h3, h4, h5, h6, h7, h8, h9⟩ := h
  refine o_X13_readBit (sk := 89) (by decide) rfl h1 fun _ => ⟨fun hne => ?_, fun h0 _ _ => ⟨fun hne _ => ?_, fun heq => ?_⟩⟩
  · exact ⟨rfl, (OffM.rf _ _ _).up (by decide), Or.inr ⟨Or.inl (by omega), rfl, hh.wr (Or.inr rfl)⟩⟩
  · rw [h2, h4]
    have hk : ((kl 89 : Nat) : Int) = 131072 := rfl
    rw [hk]
    refine ⟨by omega, by omega, fun _ => ⟨by omega, by omega, rfl, ((OffM.rf _ _ _).up (by decide)).up (by decide), Or.inl ⟨by omega, by omega, ?_, ?_⟩⟩⟩
    · unfold BB
      rw [if_pos (by omega), show ((fr : Int) + (p : Int) / 8).toNat = fr + p / 8 by omega, show ((p : Int) % 8).toNat = p % 8 by omega]
    · exact ⟨h1, h2, h3, by rw [up2_eq]; omega, by rw [up2_nj (by decide), up2_eq], by omega, h7, h8, Or.inl rfl⟩
  · exact ⟨rfl, (OffM.rf _ _ _).up (by decide), Or.inr ⟨Or.inr (by omega), rfl, hh.wr (Or.inr rfl)⟩⟩
theorem l_X13_readNumber (C : CX Y X RX13 "readNumber" cX13_readNumber 4 (some .int) (e + 1) 0 0) {k : Nat} (hk : k ≤ 16) {iv0 : IVt} {P : PN}
    (hP : ∀ r iv', OffM [] [56, 57] iv0 iv' → ((w = 0 ∧ p + k ≤ N ∧ r = nv (BB (av 89) fr N) p k ∧ RS iv' fr N (p + k) 0) ∨ ((w = 1 ∨ N < p + k) ∧ 0 ≤ r ∧ r < 2 ^ k ∧ ∃ q, RS iv' fr N q 1)) → P r iv' av) :
    ∀ (m j : Nat) (x : Int) (iv : IVt), j + m = k → OffM [] [56, 57] iv0 iv → 0 ≤ x → x < 2 ^ j → ((w = 0 ∧ p + j ≤ N ∧ x = nv (BB (av 89) fr N) p j ∧ RS iv fr N (p + j) 0) ∨ ((w = 1 ∨ N < p + j) ∧ ∃ q, RS iv fr N q 1)) → L_X13_readNumber_4 Y X P k x j iv av := by
  intro m
  induction m with
  | zero =>
    intro j x iv h1 h2 h3 h4 h5
    have hj : j = k := by omega
    subst hj
    have hp := pwL (show j ≤ 16 by omega)
    have e16 : (2 : Int) ^ 16 = 65536 := rfl
    refine w_X13_readNumber_4 C (by omega) (by omega) (by omega) ⟨fun _ => hP x iv h2 ?_, fun h => absurd h (by omega)⟩
    rcases h5 with h5 | ⟨h5, h6⟩
    · exact Or.inl h5
    · exact Or.inr ⟨h5, h3, h4, h6⟩
  | succ m ih =>
    intro j x iv h1 h2 h3 h4 h5
    have hp := pwL (show j + 1 ≤ 16 by omega)
    have hpj := pwS j
    have e16 : (2 : Int) ^ 16 = 65536 := rfl
    have hB := BB_bit (av 89) fr N (p + j)
    refine w_X13_readNumber_4 C (by omega) (by omega) (by omega) ⟨fun h => absurd h (by omega), fun _ => ?_⟩
    rcases h5 with ⟨a1, a2, a3, a4⟩ | ⟨a1, q, a2⟩
    · refine OkN.mono (s_X13_readBit a4) ?_
      rintro r iv1 av1 hR1 ⟨rfl, g1, g2⟩ hr1
      refine ⟨by omega, ?_⟩
      rw [show (j : Int) + 1 = ((j + 1 : Nat) : Int) by omega, Int.toNat_natCast]
      rcases g2 with ⟨_, b1, rfl, b2⟩ | ⟨b1, rfl, b2⟩
      · have e1 : g_or x (BB (av1 89) fr N (p + j) * 2 ^ j) = x + BB (av1 89) fr N (p + j) * 2 ^ j := by
          rcases hB with h | h <;> rw [h] <;> exact g_or_add h3 h4 (by omega) (by omega)
        rw [e1]
        refine ih (j + 1) _ iv1 (by omega) (h2.tr g1) ?_ ?_ (Or.inl ⟨a1, by omega, by rw [a3]; rfl, b2⟩)
        · rcases hB with h | h <;> rw [h] <;> omega
        · rcases hB with h | h <;> rw [h] <;> omega
      · have e1 : g_or x (0 * 2 ^ j) = x + 0 * 2 ^ j := g_or_add h3 h4 (by omega) (by omega)
        rw [e1]
        exact ih (j + 1) _ iv1 (by omega) (h2.tr g1) (by omega) (by omega) (Or.inr ⟨Or.inr (by omega), _, b2⟩)
    · refine OkN.mono (s_X13_readBit a2) ?_
      rintro r iv1 av1 hR1 ⟨rfl, g1, g2⟩ hr1
      refine ⟨by omega, ?_⟩
      rw [show (j : Int) + 1 = ((j + 1 : Nat) : Int) by omega, Int.toNat_natCast]
      rcases g2 with ⟨h10, _⟩ | ⟨_, rfl, b2⟩
      · exact absurd h10 (by decide)
      · have e1 : g_or x (0 * 2 ^ j) = x + 0 * 2 ^ j := g_or_add h3 h4 (by omega) (by omega)
        rw [e1]
        exact ih (j + 1) _ iv1 (by omega) (h2.tr g1) (by omega) (by omega) (Or.inr ⟨by omega, _, b2⟩)
theorem s_X13_readNumber (k : Nat) {x : Int} (hx : x = k) (h : RS iv fr N p w) (hk : k ≤ 16) : OkN Y (e + 1) mX13_readNumber [.ref (gl_b Y + 73), .int (i32 x)] RV iv av 116
    (fun r iv' av' => av' = av ∧ OffM [] [56, 57] iv iv' ∧ ((w = 0 ∧ p + k ≤ N ∧ r = nv (BB (av 89) fr N) p k ∧ RS iv' fr N (p + k) 0) ∨ ((w = 1 ∨ N < p + k) ∧ 0 ≤ r ∧ r < 2 ^ k ∧ ∃ q, RS iv' fr N q 1))) := by
  subst hx
  refine o_X13_readNumber fun X C => ?_
  have h6 := h.2.2.2.2.2.1
  have h9 := h.2.2.2.2.2.2.2.2
  refine l_X13_readNumber (w := w) (p := p) C hk (iv0 := iv) (fun r iv' g1 g2 => ⟨rfl, g1, g2⟩) k 0 0 iv (by omega) (OffM.rf _ _ _) (by omega) (by decide) ?_
  rcases h9 with h9 | h9
  · subst h9
    exact Or.inl ⟨rfl, by omega, rfl, h⟩
  · subst h9
    exact Or.inr ⟨Or.inl rfl, p, h⟩
theorem s_X13_toByte (h : RS iv fr N p w) : OkN Y e mX13_toByte [.ref (gl_b Y + 73)] RV iv av 116
    (fun r iv' av' => av' = av ∧ OffM [] [56, 57] iv iv' ∧ RS iv' fr N (toB p) w) := by
  refine o_X13_toByte fun X C => ?_
  have key : ∀ (m p' : Nat) (iv' : IVt), p' + m = toB p → p ≤ p' → OffM [] [56, 57] iv iv' → RS iv' fr N p' w → L_X13_toByte_0 Y X (fun r iv' av' => av' = av ∧ OffM [] [56, 57] iv iv' ∧ RS iv' fr N (toB p) w) iv' av := by
    intro m
    induction m with
    | zero =>
      intro p' iv' h1 h2 h3 h4
      have : p' = toB p := by omega
      subst this
      have h5 := h4.2.2.2.1
      have h6 := h4.2.2.2.2.2
      refine w_X13_toByte_0 C fun _ => ⟨by omega, fun _ => ⟨rfl, h3, h4⟩, fun hne => absurd ?_ hne⟩
      rw [h5]
      unfold toB
      omega
    | succ m ih =>
      intro p' iv' h1 h2 h3 h4
      have h5 := h4.2.2.2.1
      have h6 := h4.2.2.2.2.2.2.2.1
      have h7 := h4.2.2.2.2.2.1
      have h8 := h4.2.2.2.2.2.2.1
      have htb : toB p = (p + 7) / 8 * 8 := rfl
      refine w_X13_toByte_0 C fun _ => ⟨by omega, fun h0 => absurd h0 (by omega), fun hne => ⟨by omega, ?_⟩⟩
      refine ih (p' + 1) _ (by omega) (by omega) (h3.up (by decide)) ?_
      obtain ⟨a1, a2, a3, a4, a5, a6, a7, a8, a9⟩ := h4
      refine ⟨a1, a2, a3, ?_, a5, by omega, a7, a8, a9⟩
      rw [up2_eq, a4]
      omega
  exact key (toB p - p) p iv (by unfold toB; omega) (Nat.le_refl _) (OffM.rf _ _ _) h
theorem Fs_step (c : Int) : ∀ q, Fs (c - 1) q ≤ Fs c q := by
  intro q
  induction q with
  | zero => exact Int.le_refl _
  | succ q ih =>
    show Fs (c - 1) q + (c - 1) / 2 ^ (q + 1) ≤ Fs c q + c / 2 ^ (q + 1)
    have := Int.ediv_le_ediv (pw0 (q + 1)) (show c - 1 ≤ c by omega)
    omega
/-- the reference's tree, made -/
def TR (av : IVt) (k : Nat) (f : Nat → Int) (n : Nat) : Prop := ∃ (M : Nat) (K : Nat → Nat) (V : Nat → Int), M ≤ 400 ∧ TG (av (k + 1)) M f n 16 (2 * ac f n 15) 0 K V
theorem TR.of {av av' : IVt} {k : Nat} {f : Nat → Int} {n : Nat} (h : TR av k f n) (e : av' (k + 1) = av (k + 1)) : TR av' k f n := by
  unfold TR at *
  rw [e]
  exact h
theorem l_X12_grow {k : Nat} (C : CX Y X RX12 "grow" cX12_grow 7 none e 0 0) (Kk : TreeK k) {f : Nat → Int} {n l : Nat} (hl : 1 ≤ l) (hl15 : l ≤ 15) {c : Int} (hc0 : 0 ≤ c) (hcR : c ≤ 100000000) (hc : 2 * ac f n (l - 1) ≤ c) {s : Nat} (hs : s < n) (hn : n ≤ 288) (hfs : f s = l) (hcd : cd f n s = c) {ins : Int} (hins : ins ≤ 288) {iv0 av0 : IVt} {P : PN}
    (hP : ∀ iv' av' (M : Nat) K V, OffM [k] [] iv0 iv' → Off [k + 1] av0 av' → iv' k 1 = M → TG (av' (k + 1)) M f n l (c + 1) 0 K V → (M : Int) ≤ 1 + l - (c + 1) + (ins + 1) + Fs c (l - 1) → P 0 iv' av') :
    ∀ (q i : Nat) (iv av : IVt) (M : Nat) (K : Nat → Nat) (V : Nat → Int), q + 1 ≤ l → OffM [k] [] iv0 iv → Off [k + 1] av0 av → iv k 1 = M → TG (av (k + 1)) M f n l c (l - 1 - q) K V → i < M → K i = l - 1 - q → V i = c / 2 ^ (q + 1) → (M : Int) ≤ 1 + l - c + ins + (Fs c (l - 1) - Fs c q) + Fs (c - 1) q →
    L_X12_grow_8 Y X P k c s i q iv av := by
  have hk73 : k ≠ 73 := by
    intro h
    have := Kk.1
    rw [h] at this
    exact absurd this (by decide)
  have hFle := Fs_le hc0 (l - 1)
  have hdv : 0 ≤ c / 2 ^ (l - 1) := Int.ediv_nonneg hc0 (Int.le_of_lt (pw0 _))
  intro q
  induction q with
  | zero =>
    intro i iv av M K V h1 h2 h3 h4 h5 h6 h7 h8 h9
    have hM : M ≤ 400 := by
      have e1 : Fs c 0 = 0 := rfl
      have e2 : Fs (c - 1) 0 = 0 := rfl
      omega
    rw [Nat.sub_zero] at h5 h7
    rw [show (2 : Int) ^ (0 + 1) = 2 from rfl] at h8
    refine w_X12_grow_8 C Kk (by omega) (by omega) ⟨fun _ => ⟨by omega, by omega, ?_⟩, fun h => absurd h (by omega)⟩
    have e1 : (2 * (i : Int) + c % 2).toNat = 2 * i + (c % 2).toNat := by omega
    have e2 : (((c % 2).toNat : Nat) : Int) = c % 2 := by omega
    have ht := h5.leaf (e := (c % 2).toNat) (s := s) (T' := up2 av (k + 1) (2 * (i : Int) + c % 2).toNat (-1 - (s : Int)) (k + 1)) hl hc0 hc h6 h7 h8 e2 hs hfs hcd (by rw [e1, up2_eq]) (fun j hj => by rw [up2_nj (by omega)])
    exact hP iv _ M K V h2 (h3.up (by simp)) h4 ht (by
      have e1 : Fs c 0 = 0 := rfl
      have e2 : Fs (c - 1) 0 = 0 := rfl
      omega)
  | succ q ih =>
    intro i iv av M K V h1 h2 h3 h4 h5 h6 h7 h8 h9
    have hst := Fs_step c (q + 1)
    have hM : M ≤ 400 := by omega
    have hd : l - 1 - (q + 1) + 1 = l - 1 - q := by omega
    have hl1 : l - (l - 1 - (q + 1)) = q + 1 + 1 := by omega
    have hl2 : l - (l - 1 - (q + 1) + 1) = q + 1 := by omega
    have hmod0 := Int.emod_nonneg (c / 2 ^ (q + 1)) (show (2 : Int) ≠ 0 by decide)
    have hmod1 := Int.emod_lt_of_pos (c / 2 ^ (q + 1)) (show (0 : Int) < 2 by decide)
    have e2 : (((c / 2 ^ (q + 1) % 2).toNat : Nat) : Int) = c / 2 ^ (q + 1) % 2 := by omega
    have e1 : (2 * (i : Int) + c / 2 ^ (q + 1) % 2).toNat = 2 * i + (c / 2 ^ (q + 1) % 2).toNat := by omega
    have eF : Fs c (q + 1) = Fs c q + c / 2 ^ (q + 1) := rfl
    have eF1 : Fs (c - 1) (q + 1) = Fs (c - 1) q + (c - 1) / 2 ^ (q + 1) := rfl
    have hdle := Int.ediv_le_ediv (pw0 (q + 1)) (show c - 1 ≤ c by omega)
    refine w_X12_grow_8 C Kk (by omega) (by omega) ⟨fun h => absurd h (by omega), fun _ => ⟨by omega, ?_⟩⟩
    rw [Int.toNat_natCast, e1]
    refine ⟨by omega, fun _ => ⟨fun hne => ?_, fun heq _ => ⟨by omega, by omega, by omega, fun _ => ?_⟩⟩⟩
    · obtain ⟨y, y1, y2, y3, y4, y5⟩ := h5.walk hc h6 h7 (by rw [h8, hl1]) (e := (c / 2 ^ (q + 1) % 2).toNat) (q := q + 1) (by omega) (by omega) e2 hne
      rw [y2, show ((q + 1 : Nat) : Int) + -1 = (q : Nat) by omega]
      rw [hd] at y3 y5
      rw [hl2] at y4
      exact ih y iv av M K V (by omega) h2 h3 h4 y5 y1 y3 y4 (by omega)
    · have eM2 : (2 * iv k 1).toNat = 2 * M := by omega
      have eM3 : (2 * iv k 1 + 1).toNat = 2 * M + 1 := by omega
      have hlt : 2 * i + (c / 2 ^ (q + 1) % 2).toNat < 2 * M := by omega
      rw [eM2, eM3]
      obtain ⟨y1, K', V', y2, y3, y4⟩ := h5.new hc h6 h7 (by rw [h8, hl1]) (e := (c / 2 ^ (q + 1) % 2).toNat) (q := q + 1) (by omega) (by omega) e2 heq
        (T' := up2 (up2 (up2 av (k + 1) (2 * i + (c / 2 ^ (q + 1) % 2).toNat) (iv k 1)) (k + 1) (2 * M) 0) (k + 1) (2 * M + 1) 0 (k + 1))
        (by rw [up2_nj (by omega), up2_nj (by omega), up2_eq, h4]) (by rw [up2_nj (by omega), up2_eq]) (by rw [up2_eq]) (fun j j1 j2 => by rw [up2_nj (by omega), up2_nj (by omega), up2_nj (by omega)])
      rw [hd] at y2 y4
      rw [hl2] at y3
      rw [up2_nj (by omega), up2_nj (by omega), up2_eq, h4, show ((q + 1 : Nat) : Int) + -1 = (q : Nat) by omega]
      rw [h4] at y4
      have hnew : c / 2 ^ (q + 1) = (c - 1) / 2 ^ (q + 1) + 1 := by
        have hp := pw0 (q + 1)
        have g1 : (c - 1) / 2 ^ (q + 1) < c / 2 ^ (q + 1) := by
          apply Int.ediv_lt_of_lt_mul hp
          omega
        have g2 : c / 2 ^ (q + 1) - 1 ≤ (c - 1) / 2 ^ (q + 1) := by
          apply Int.le_ediv_of_mul_le hp
          rw [Int.sub_mul]
          omega
        omega
      refine ih M _ _ (M + 1) K' V' (by omega) (h2.upL (by simp) hk73) (((h3.up (by simp)).up (by simp)).up (by simp)) ?_ y4 (by omega) y2 y3 (by omega)
      rw [up2_eq]
      omega
theorem l_X13_readSymbol {k : Nat} (C : CX Y X RX13 "readSymbol" cX13_readSymbol 4 (some .int) (e + 1) 0 0) (Kk : TreeK k) {f : Nat → Int} {n : Nat} (hn : n ≤ 288) {M : Nat} {K : Nat → Nat} {V : Nat → Int} (hM : M ≤ 400) (hT : TG (av (k + 1)) M f n 16 (2 * ac f n 15) 0 K V) {iv0 : IVt} {P : PN} :
    ∀ (m l i : Nat) (iv : IVt), l + m = 15 → i < M → K i = l → V i = cv (BB (av 89) fr N) p l → ac f n l ≤ cv (BB (av 89) fr N) p l → OffM [] [56, 57] iv0 iv → RS iv fr N (p + l) 0 → (∀ r iv', OffM [] [56, 57] iv0 iv' → RdR iv' fr N (dec (BB (av 89) fr N) N f n p m l) 0 r → P r iv' av) → L_X13_readSymbol_2 Y X P k i iv av := by
  have hB := BB_bit (av 89) fr N
  have wrongs : ∀ (x : Int) (iv1 : IVt) (q : Nat), RS iv1 fr N q 1 → (∀ iv' : IVt, iv' = iv1 → P 0 iv' av) → L_X13_readSymbol_2 Y X P k x iv1 av := by
    intro x iv1 q hq hP
    have h5 := hq.2.2.2.2.1
    exact w_X13_readSymbol_2 C Kk fun _ => ⟨fun _ => hP iv1 rfl, fun h => absurd h (by omega)⟩
  intro m
  induction m with
  | zero =>
    intro l i iv h1 hi hK
    have := (hT.read hi).1
    omega
  | succ m ih =>
    intro l i iv h1 hi hK hV hac hoff hRS hP
    have h5 := hRS.2.2.2.2.1
    obtain ⟨hK14, hrd⟩ := hT.read hi
    refine w_X13_readSymbol_2 C Kk fun _ => ⟨fun h => absurd h5 h, fun _ => OkN.mono (s_X13_readBit hRS) ?_⟩
    rintro r iv1 av1 hR1 ⟨rfl, g1, g2⟩ hr1
    have hb := hB (p + l)
    rcases g2 with ⟨_, b1, rfl, b2⟩ | ⟨b1, rfl, b2⟩
    · obtain ⟨E, hE, hE1⟩ : ∃ E : Nat, BB (av1 89) fr N (p + l) = E ∧ E ≤ 1 := by
        rcases hb with h | h
        · exact ⟨0, h, by omega⟩
        · exact ⟨1, h, by omega⟩
      have hcv : cv (BB (av1 89) fr N) p (l + 1) = 2 * V i + E := by
        rw [hV, ← hE]
        rfl
      obtain ⟨r1, r2⟩ := hrd E hE1
      rw [hK, ← hcv] at r1 r2
      have hw := b2.2.2.2.2.1
      rw [hE]
      have eidx : (2 * (i : Int) + (E : Int)).toNat = 2 * i + E := by omega
      rw [eidx]
      refine ⟨by omega, fun hin _ => ⟨fun h => absurd hw h, fun _ => ⟨fun hne => ⟨fun hge => ?_, fun hneg => ⟨?_, ?_⟩⟩, fun h0 => ?_⟩⟩⟩
      · -- a node
        have hge' : ac f n (l + 1) ≤ cv (BB (av1 89) fr N) p (l + 1) := by
          by_cases hh : cv (BB (av1 89) fr N) p (l + 1) < ac f n (l + 1)
          · obtain ⟨s, s1, s2, s3, s4⟩ := r1 hh
            omega
          · omega
        rcases r2 hge' with ⟨y, y1, y2, y3, y4, y5⟩ | ⟨y1, y2⟩
        · rw [y3]
          refine ih (l + 1) y iv1 (by omega) y2 y4 y5 hge' (hoff.tr g1) b2 fun r iv' c1 c2 => hP r iv' c1 ?_
          have : dec (BB (av1 89) fr N) N f n p (m + 1) l = dec (BB (av1 89) fr N) N f n p m (l + 1) := by
            rw [dec, if_pos b1, if_neg (by omega)]
          rw [this]
          exact c2
        · exact absurd y1 hne
      · omega
      · -- a symbol
        have hlt : cv (BB (av1 89) fr N) p (l + 1) < ac f n (l + 1) := by
          by_cases hh : cv (BB (av1 89) fr N) p (l + 1) < ac f n (l + 1)
          · exact hh
          · rcases r2 (by omega) with ⟨y, y1, y2, y3, y4, y5⟩ | ⟨y1, y2⟩ <;> omega
        obtain ⟨s, s1, s2, s3, s4⟩ := r1 hlt
        rw [s4]
        refine hP _ iv1 (hoff.tr g1) (Or.inl ⟨rfl, s, p + l + 1, ?_, by omega, b2⟩)
        rw [dec, if_pos b1, if_pos hlt]
        have hcd : cd f n s = 2 * ac f n ((f s).toNat - 1) + cn f (f s) s := rfl
        have hfl : f s = (l : Int) + 1 := by rw [s2]; omega
        have e3 : cv (BB (av1 89) fr N) p (l + 1) - 2 * ac f n l = cn f ((l : Int) + 1) s := by
          rw [← s3, hcd, hfl, show ((l : Int) + 1).toNat - 1 = l by omega]
          omega
        rw [e3, sy_eq hfl n s1]
      · rw [h0]
        have hge' : ac f n (l + 1) ≤ cv (BB (av1 89) fr N) p (l + 1) := by
          by_cases hh : cv (BB (av1 89) fr N) p (l + 1) < ac f n (l + 1)
          · obtain ⟨s, s1, s2, s3, s4⟩ := r1 hh
            omega
          · omega
        refine wrongs 0 _ _ (b2.wr (Or.inr rfl)) fun iv' e => ?_
        subst e
        refine hP 0 _ ((hoff.tr g1).up (by decide)) (Or.inr ⟨Or.inr ?_, rfl, _, b2.wr (Or.inr rfl)⟩)
        rcases r2 hge' with ⟨y, y1, y2, y3, y4, y5⟩ | ⟨y1, y2⟩
        · omega
        · rw [dec, if_pos b1, if_neg (by omega)]
          refine dec_none hB m (l + 1) (by omega) ?_
          rw [show 14 - l = m by omega] at y2
          exact y2
    · have hw := b2.2.2.2.2.1
      refine ⟨by omega, fun hin _ => ⟨fun _ => ?_, fun h => absurd h (by omega)⟩⟩
      refine wrongs _ _ _ (b2.wr (Or.inr rfl)) fun iv' e => ?_
      subst e
      refine hP 0 _ ((hoff.tr g1).up (by decide)) (Or.inr ⟨Or.inr ?_, rfl, _, b2.wr (Or.inr rfl)⟩)
      rw [dec, if_neg (by omega)]
theorem s_X13_readSymbol {k : Nat} (Kk : TreeK k) {f : Nat → Int} {n : Nat} (hn : n ≤ 288) (h : RS iv fr N p w) (hT : w = 0 → TR av k f n) : OkN Y (e + 1) mX13_readSymbol [.ref (gl_b Y + 73), .ref (gl_b Y + k)] RV iv av 116
    (fun r iv' av' => av' = av ∧ OffM [] [56, 57] iv iv' ∧ RdR iv' fr N (sym (BB (av 89) fr N) N f n p) w r) := by
  refine o_X13_readSymbol Kk fun X C => ?_
  have h9 := h.2.2.2.2.2.2.2.2
  rcases h9 with h9 | h9
  · subst h9
    obtain ⟨M, K, V, hM, hT⟩ := hT rfl
    exact l_X13_readSymbol (iv0 := iv) C Kk hn hM hT 15 0 0 iv (by omega) (by have := hT.1.1; omega) hT.1.2.1 hT.1.2.2 (Int.le_refl 0) (OffM.rf _ _ _) h fun r iv' g1 g2 => ⟨rfl, g1, g2⟩
  · subst h9
    have h5 := h.2.2.2.2.1
    exact w_X13_readSymbol_2 C Kk fun _ => ⟨fun _ => ⟨rfl, OffM.rf _ _ _, Or.inr ⟨Or.inl rfl, rfl, p, h⟩⟩, fun h => absurd h (by omega)⟩
end SRread
