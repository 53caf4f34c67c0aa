/-! The class' unpacking: symbols, stored parts, the check. -/
theorem bm32_eq {x y : Int} (h : x % 4294967296 = y % 4294967296) : bm32 x = bm32 y := by
  unfold bm32
  rw [Int.bmod_def, Int.bmod_def, show ((4294967296 : Nat) : Int) = 4294967296 from rfl, h]
theorem bm32_mod (x : Int) : bm32 x % 4294967296 = x % 4294967296 := by
  unfold bm32
  exact Int.bmod_emod
theorem i32_toInt_bm (x : Int) : (i32 x).toInt = bm32 x := by
  rw [← i32_bm, i32_toInt (bm32_in x)]
/-- or of bits that don't meet, where the upper ones may run over -/
theorem g_or_bm {c a : Int} {p : Nat} (hp : p ≤ 31) (h0 : 0 ≤ a) (h1 : a < 2 ^ p) : g_or (c * 2 ^ p) a = bm32 (c * 2 ^ p + a) := by
  have key : i32 (c * 2 ^ p) ||| i32 a = i32 (c * 2 ^ p + a) := by
    obtain ⟨a, rfl⟩ := Int.eq_ofNat_of_zero_le h0
    apply Int32.toBitVec_inj.mp
    apply BitVec.eq_of_toNat_eq
    rw [Int32.toBitVec_or, BitVec.toNat_or]
    unfold i32
    simp only [Int32.toBitVec_ofInt, BitVec.toNat_ofInt]
    have ha : a < 2 ^ p := by exact_mod_cast h1
    have hpow : (2 : Int) ^ 32 = 2 ^ p * 2 ^ (32 - p) := by rw [← pwA]; congr 1; omega
    have hm : (((2 : Nat) ^ 32 : Nat) : Int) = 2 ^ p * 2 ^ (32 - p) := by rw [← hpow]; rfl
    have hq := pw0 (32 - p)
    have hpp := pw0 p
    have e0 : c * 2 ^ p % (2 ^ p * 2 ^ (32 - p)) = 2 ^ p * (c % 2 ^ (32 - p)) := by
      rw [Int.mul_comm c, Int.mul_emod_mul_of_pos _ _ hpp]
    have hc0 := Int.emod_nonneg c (Int.ne_of_gt hq)
    have hc1 := Int.emod_lt_of_pos c hq
    have hle : 2 ^ p * (c % 2 ^ (32 - p)) + 2 ^ p ≤ (2 : Int) ^ p * 2 ^ (32 - p) := by
      have : (2 : Int) ^ p * (c % 2 ^ (32 - p) + 1) ≤ 2 ^ p * 2 ^ (32 - p) := Int.mul_le_mul_of_nonneg_left (by omega) (by omega)
      rw [Int.mul_add, Int.mul_one] at this
      exact this
    have hnn : (0 : Int) ≤ 2 ^ p * (c % 2 ^ (32 - p)) := Int.mul_nonneg (by omega) hc0
    have e1 : (c * 2 ^ p + (a : Int)) % (2 ^ p * 2 ^ (32 - p)) = 2 ^ p * (c % 2 ^ (32 - p)) + a := by
      have hsplit : c * 2 ^ p + (a : Int) = (2 ^ p * (c % 2 ^ (32 - p)) + a) + (2 ^ p * 2 ^ (32 - p)) * (c / 2 ^ (32 - p)) := by
        have h5 := Int.emod_add_mul_ediv c (2 ^ (32 - p))
        have h6 : c * 2 ^ p = 2 ^ p * (c % 2 ^ (32 - p) + 2 ^ (32 - p) * (c / 2 ^ (32 - p))) := by rw [h5, Int.mul_comm]
        rw [h6, Int.mul_add, Int.mul_assoc]
        omega
      rw [hsplit, Int.add_mul_emod_self_left, Int.emod_eq_of_lt (by omega) (by omega)]
    have e2 : (a : Int) % (2 ^ p * 2 ^ (32 - p)) = a := Int.emod_eq_of_lt (by omega) (by omega)
    simp only [hm]
    rw [e0, e1]
    have e3 : ((Int.ofNat a) % (2 ^ p * 2 ^ (32 - p))).toNat = a := by
      show ((a : Int) % _).toNat = a
      rw [e2]
      rfl
    have hC : ∃ C : Nat, c % 2 ^ (32 - p) = C := ⟨(c % 2 ^ (32 - p)).toNat, by omega⟩
    obtain ⟨C, hC⟩ := hC
    rw [hC]
    have e4 : ((2 : Int) ^ p * (C : Int)).toNat = 2 ^ p * C := by
      have : ((2 : Int) ^ p * (C : Int)) = ((2 ^ p * C : Nat) : Int) := by simp
      rw [this]
      rfl
    have e5 : ((2 : Int) ^ p * (C : Int) + (a : Int)).toNat = 2 ^ p * C + a := by
      have : ((2 : Int) ^ p * (C : Int) + (a : Int)) = ((2 ^ p * C + a : Nat) : Int) := by simp
      rw [this]
      rfl
    rw [e4]
    first
      | rw [e3, e5, Nat.two_pow_add_eq_or_of_lt ha]
      | (rw [show ((a : Int) % (2 ^ p * 2 ^ (32 - p))).toNat = a from e3, e5, Nat.two_pow_add_eq_or_of_lt ha])
  unfold g_or
  rw [key, i32_toInt_bm]
/-- what the class knows of its unpacking -/
def US (iv av : IVt) (most win : Nat) (o : Outp) : Prop := iv 16 1 = o.1 ∧ iv 58 8 = most ∧ iv 58 9 = win ∧ o.1 ≤ most ∧ most ≤ 65536 ∧ win ≤ 8388608 ∧ ∀ j : Nat, j < o.1 → av 17 j = o.2 j
theorem US.of {iv av iv' av' : IVt} {most win : Nat} {o : Outp} (h : US iv av most win o) (e1 : iv' 16 = iv 16) (e2 : iv' 58 = iv 58) (e3 : av' 17 = av 17) : US iv' av' most win o := by
  unfold US at *
  rw [e1, e2, e3]
  exact h
/-- the end of a piece of unpacking -/
def UR (Li La : List Nat) (iv0 av0 iv' av' : IVt) (fr N most win : Nat) (d : Option (Nat × Outp)) (ms r : Int) : Prop :=
  Off Li iv0 iv' ∧ Off La av0 av' ∧ ∃ p' ms', CS iv' fr N p' ms' ∧
    ((ms = 0 ∧ r = 1 ∧ ms' = 0 ∧ ∃ o', d = some (p', o') ∧ US iv' av' most win o') ∨ ((d = none ∨ ms = 1) ∧ (r = 0 ∨ ms' = 1) ∧ 0 ≤ iv' 16 1 ∧ iv' 16 1 ≤ 65536))
section SUnsym
variable {Y : Gl} {X : Cx} {e : Nat} {iv av : IVt} {fr N p most win : Nat} {ms : Int} {o : Outp}
theorem l_X11_checkOf {k : Nat} (C : CX Y X RX11 "checkOf" cX11_checkOf 6 (some .int) (e + 1) 0 0) (K : BytesK k) {f n : Nat} (h1 : (f : Int) + n ≤ iv k 1) (h2 : iv k 1 ≤ kl (k + 1)) {P : PN} (hP : P (g_or ((adl (fun j => av (k + 1) (f + j)) n).2 * 65536) (adl (fun j => av (k + 1) (f + j)) n).1) iv av) :
    ∀ (m j : Nat), j + m = n → L_X11_checkOf_8 Y X P k f n (adl (fun j => av (k + 1) (f + j)) j).1 (adl (fun j => av (k + 1) (f + j)) j).2 j iv av := by
  have hk := kl_le (k + 1)
  intro m
  induction m with
  | zero =>
    intro j hj
    have : j = n := by omega
    subst this
    exact w_X11_checkOf_8 C K (by omega) (by omega) ⟨fun _ => hP, fun h => absurd h (by omega)⟩
  | succ m ih =>
    intro j hj
    refine w_X11_checkOf_8 C K (by omega) (by omega) ⟨fun h => absurd h (by omega), fun _ => ⟨by omega, OkN.mono (s_X2_at K (by omega)) ?_⟩⟩
    rintro r iv' av' hR ⟨rfl, rfl, rfl⟩ hr
    have ha := adl_in (fun j => av' (k + 1) (f + j)) j
    have e1 : b_at iv' av' k ((f : Int) + j) = av' (k + 1) (f + j) % 256 := by
      unfold b_at
      rw [if_pos (by omega), show ((f : Int) + j).toNat = f + j by omega]
    rw [e1] at hr ⊢
    refine ⟨by omega, by omega, by omega, by omega, ?_⟩
    rw [show (j : Int) + 1 = ((j + 1 : Nat) : Int) by omega]
    exact ih (j + 1) (by omega)
theorem s_X11_checkOf {k : Nat} (K : BytesK k) {f n : Nat} (h1 : (f : Int) + n ≤ iv k 1) (h2 : iv k 1 ≤ kl (k + 1)) : OkN Y (e + 1) mX11_checkOf [.ref (gl_b Y + k), .int (i32 (f : Int)), .int (i32 (n : Int))] RV iv av 116
    (Same iv av (bm32 (65536 * (adl (fun j => av (k + 1) (f + j)) n).2 + (adl (fun j => av (k + 1) (f + j)) n).1))) := by
  refine o_X11_checkOf K fun X C => ?_
  have ha := adl_in (fun j => av (k + 1) (f + j)) n
  refine l_X11_checkOf C K h1 h2 ?_ n 0 (by omega)
  have := g_or_bm (c := (adl (fun j => av (k + 1) (f + j)) n).2) (a := (adl (fun j => av (k + 1) (f + j)) n).1) (p := 16) (by omega) ha.1 (by have : (2 : Int) ^ 16 = 65536 := rfl; omega)
  rw [show (2 : Int) ^ 16 = 65536 from rfl] at this
  exact ⟨by rw [this, Int.mul_comm 65536], rfl, rfl⟩
theorem byte_back {iv av : IVt} (hR : Rng iv av) {j : Nat} : bm8 (av 17 j % 256) = av 17 j := by
  have hb : -128 ≤ av 17 j ∧ av 17 j ≤ 127 := hR.2 17 j
  rw [show bm8 (av 17 j % 256) = bm8 (av 17 j) from bm8_of (by omega), bm8_id hb]
theorem l_X10_repeat (C : CX Y X RX10 "repeat" cX10_repeat 4 (some .boolean) (e + 1) 0 0) {len far : Nat} (hl : len ≤ 1000) (hf : 1 ≤ far) {P : PN} : ∀ (m x3 n : Nat) (g : Nat → Int) (iv av : IVt), x3 + m = len → far ≤ n → n + m ≤ 65536 → iv 16 1 = n → (∀ j, j < n → av 17 j = g j) → Rng iv av →
    (∀ iv' av', iv' = up2 iv 16 1 ((n + m : Nat) : Int) → Off [17] av av' → (∀ j, j < n + m → av' 17 j = cpyF far m n g j) → P 1 iv' av') → L_X10_repeat_39 Y X P len far x3 iv av := by
  intro m
  induction m with
  | zero =>
    intro x3 n g iv av h1 h2 h3 h4 h5 hR hP
    refine w_X10_repeat_39 C (by omega) (by omega) ⟨fun _ => ?_, fun h => absurd h (by omega)⟩
    exact hP iv av (by rw [Nat.add_zero, ← h4, up2_self]) (Off.rf _ _) h5
  | succ m ih =>
    intro x3 n g iv av h1 h2 h3 h4 h5 hR hP
    refine w_X10_repeat_39 C (by omega) (by omega) ⟨fun h => absurd h (by omega), fun _ => OkN.mono (s_X2_count bk_16) ?_⟩
    rintro r iv' av' hR' ⟨rfl, rfl, rfl⟩ hr
    refine ⟨by omega, OkN.mono (s_X2_at bk_16 (by omega)) ?_⟩
    rintro r iv' av' hR' ⟨rfl, rfl, rfl⟩ hr2
    have e1 : b_at iv' av' 16 (iv' 16 1 - far) = av' 17 (n - far) % 256 := by
      unfold b_at
      rw [if_pos ⟨by omega, by omega, by show _ < ((65536 : Nat) : Int); omega⟩, show (iv' 16 1 - far).toNat = n - far by omega]
    rw [e1]
    refine OkN.mono (s_X2_add bk_16 (by omega) (by show _ < ((65536 : Nat) : Int); omega)) ?_
    rintro r iv2 av2 hR2 ⟨rfl, rfl⟩
    rw [byte_back hR'] at hR2 ⊢
    rw [show (x3 : Int) + 1 = ((x3 + 1 : Nat) : Int) by omega]
    refine ih (x3 + 1) (n + 1) (fun i => if i = n then g (n - far) else g i) _ _ (by omega) (by omega) (by omega) (by rw [up2_eq]; omega) ?_ hR2 ?_
    · intro j hj
      rw [up2_at, show (iv' 16 1).toNat = n by omega]
      by_cases hjn : j = n
      · rw [if_pos hjn, if_pos hjn, h5 (n - far) (by omega)]
      · rw [if_neg hjn, if_neg hjn]
        exact h5 j (by omega)
    · rintro iv2 av2 rfl q1 q2
      refine hP _ _ ?_ (((Off.rf _ _).up (by decide)).tr q1) ?_
      · rw [up2_up2]
        congr 1
        omega
      · intro j hj
        exact q2 j (by omega)
theorem s_X10_repeat (h : US iv av most win o) {len far : Nat} (hl : len ≤ 1000) (hf : 1 ≤ far) (hf2 : far ≤ 100000) : OkN Y (e + 1) mX10_repeat [.ref (gl_b Y + 58), .int (i32 (len : Int)), .int (i32 (far : Int))] RV iv av 116
    (fun r iv' av' => (r = 0 ∧ (o.1 < far ∨ win < far ∨ most < o.1 + len) ∧ iv' = iv ∧ av' = av) ∨
      (r = 1 ∧ ¬ (o.1 < far ∨ win < far ∨ most < o.1 + len) ∧ Off [16] iv iv' ∧ Off [17] av av' ∧ US iv' av' most win (o.1 + len, cpyF far len o.1 o.2))) := by
  obtain ⟨h1, h2, h3, h4, h5, h6, h7⟩ := h
  refine OkN.rng fun hR0 => o_X10_repeat (by omega) (by omega) fun X C => OkN.mono (s_X2_count bk_16) ?_
  rintro r iv' av' hR ⟨rfl, rfl, rfl⟩ hr
  refine ⟨fun h => Or.inl ⟨rfl, by omega, rfl, rfl⟩, fun h _ => ⟨fun h => Or.inl ⟨rfl, by omega, rfl, rfl⟩, fun h _ => OkN.mono (s_X2_count bk_16) ?_⟩⟩
  rintro r iv' av' hR ⟨rfl, rfl, rfl⟩ hr
  refine ⟨by omega, fun h => ?_, fun h => Or.inl ⟨rfl, by omega, rfl, rfl⟩⟩
  refine l_X10_repeat C hl hf len 0 o.1 o.2 iv' av' (by omega) (by omega) (by omega) h1 h7 hR ?_
  rintro iv2 av2 rfl q1 q2
  refine Or.inr ⟨rfl, by omega, (Off.rf _ _).up (by decide), q1, ?_, h2, h3, by dsimp only; omega, h5, h6, q2⟩
  exact up2_eq _ _ _ _
theorem l_X10_readSymbols (C : CX Y X RX10 "readSymbols" cX10_readSymbols 6 (some .boolean) (e + 3) 0 0) {iv0 av0 : IVt} (hr : fr + N / 8 ≤ iv0 12 1) {fS fD : Nat → Int} (hS : RC av0 59 fS 288) {qS qD : Prop} (okS : okC fS 288 qS) (hD : RC av0 63 fD 32) (okD : okC fD 32 qD) {P : PN} :
    ∀ (m p x1 : Nat) (o : Outp) (iv av : IVt) (ms : Int), N < p + m → x1 + 1 ≤ p → CS iv fr N p ms → US iv av most win o → Off [16, 72] iv0 iv → Off [17] av0 av → 
    (∀ r iv' av', UR [16, 72] [17] iv0 av0 iv' av' fr N most win (symsF (BB (av0 13) fr N) N fS fD most win m p o) ms r → P r iv' av') → L_X10_readSymbols_2 Y X P x1 iv av := by
  have hB := BB_bit (av0 13) fr N
  intro m
  induction m with
  | zero =>
    intro p x1 o iv av ms h1 h2 h3 h4 h5 h6 hP
    have := h3.2.2.2.2.1
    omega
  | succ m ih =>
    intro p x1 o iv av ms h1 h2 h3 h4 h5 h6 hP
    have hpN := h3.2.2.2.2.1
    have hN8 := h3.2.2.2.2.2.2.1
    have hNm := h3.2.2.2.2.2.1
    have hms := h3.2.2.2.2.2.2.2
    have e13 : av 13 = av0 13 := h6 13 (by decide)
    refine w_X10_readSymbols_2 C (by omega) ⟨fun h => absurd h (by omega), fun _ => OkN.mono (s_X9_symbol rk_59 h3 (hS.of (h6 60 (by decide)) (h6 61 (by decide))) okS (by rw [h5 12 (by decide)]; exact hr)) ?_⟩
    rintro r iv1 av1 hR1 ⟨rfl, g1, p1, ms1, g2, g3, g4⟩ hr1
    rw [e13] at g4
    have f1 : Off [16, 72] iv0 iv1 := h5.tr (g1.mono (by decide))
    have u1 : US iv1 av1 most win o := h4.of (g1 16 (by decide)) (g1 58 (by decide)) rfl
    have hbd : 0 ≤ iv1 16 1 ∧ iv1 16 1 ≤ 65536 := by have := u1.1; have := u1.2.2.2.1; have := u1.2.2.2.2.1; omega
    have hp1 := g2.2.2.2.2.1
    have fault : (symsF (BB (av0 13) fr N) N fS fD most win (m + 1) p o = none ∨ ms = 1) → P 0 iv1 av1 := fun hd => hP 0 iv1 av1 ⟨f1, h6, p1, ms1, g2, Or.inr ⟨hd, Or.inl rfl, hbd.1, hbd.2⟩⟩
    refine ⟨fun hneg => w_X10_readSymbols_41 C (fault ?_), fun hnn => ⟨fun hbig => w_X10_readSymbols_41 C (fault ?_), fun hsm => OkN.mono (s_X1_isMissing g2) ?_⟩⟩
    · rcases g4 with ⟨s, q, a1, a2, a3, a4⟩ | ⟨a1, a2⟩
      · omega
      · left; unfold symsF; rw [a1]
    · rcases g4 with ⟨s, q, a1, a2, a3, a4⟩ | ⟨a1, a2⟩
      · left; unfold symsF; rw [a1]; dsimp only; rw [if_neg (by omega), if_neg (by omega), if_pos (Or.inl (by omega))]
      · left; unfold symsF; rw [a1]
    rintro r8 iv1' av1' hR8 ⟨rfl, rfl, rfl⟩ hr8
    refine ⟨fun hz => ?_, fun hnz => w_X10_readSymbols_41 C (fault ?_)⟩
    rotate_left
    · rcases g4 with ⟨s, q, a1, a2, a3, a4⟩ | ⟨a1, a2⟩
      · right; omega
      · left; unfold symsF; rw [a1]
    subst hz
    obtain ⟨s, rfl, a1, rfl, a4⟩ : ∃ s : Nat, r = s ∧ sym (BB (av0 13) fr N) N fS 288 p = some (s, p1) ∧ ms = 0 ∧ s < 288 := by
      rcases g4 with ⟨s, q, a1, a2, a3, a4⟩ | ⟨a1, a2⟩
      · subst a3
        exact ⟨s, a2, a1, a4.symm, (sym_some hB a1).1⟩
      · omega
    have hpp := (sym_some hB a1).2.1
    refine ⟨fun hne => ⟨fun hge => ?_, fun hlt => OkN.mono (s_X2_count bk_16) ?_⟩, fun heq => ?_⟩
    rotate_left
    · -- a byte
      rintro r iv2 av2 hR2 ⟨rfl, rfl, rfl⟩ hr2
      have esp : ∀ x, symsF (BB (av0 13) fr N) N fS fD most win (m + 1) p o = x ↔ (if most ≤ o.1 then none else symsF (BB (av0 13) fr N) N fS fD most win m p1 (o.1 + 1, fun i => if i = o.1 then bm8 s else o.2 i)) = x := fun x => by
        rw [symsF, a1]; dsimp only; rw [if_neg (by omega), if_pos (by omega)]
      have u0 := u1
      obtain ⟨v1, v2, v3, v4, v5, v6, v7⟩ := u1
      refine fun _ => ⟨fun hlt2 => OkN.mono (s_X2_add bk_16 (by omega) (by show _ < ((65536 : Nat) : Int); omega)) ?_, fun hge2 => fault (Or.inl ?_)⟩
      · rintro r iv3 av3 hR3 ⟨rfl, rfl⟩
        refine w_X10_readSymbols_172 C ?_
        rw [show (x1 : Int) + 1 = ((x1 + 1 : Nat) : Int) by omega]
        refine ih p1 (x1 + 1) (o.1 + 1, fun i => if i = o.1 then bm8 s else o.2 i) _ _ 0 (by omega) (by omega) (g2.of (up2_ne (by decide))) ?_ (f1.up (by decide)) (h6.up (by decide)) ?_
        · refine ⟨?_, v2, v3, by dsimp only; omega, v5, v6, fun j hj => ?_⟩
          · show up2 iv2 16 1 (iv2 16 1 + 1) 16 1 = _
            rw [up2_eq]
            dsimp only
            omega
          · show up2 av2 17 (iv2 16 1).toNat (bm8 (s : Int)) 17 j = _
            dsimp only at hj ⊢
            rw [up2_at, show (iv2 16 1).toNat = o.1 by omega]
            split
            · rfl
            · exact v7 j (by omega)
        · intro r iv' av' hu
          refine hP r iv' av' ?_
          rw [(esp _).mpr rfl, if_neg (by omega)]
          exact hu
      · rw [esp, if_pos (by omega)]
    · -- the end
      refine hP 1 _ _ ⟨f1, h6, p1, 0, g2, Or.inl ⟨rfl, rfl, rfl, o, ?_, u1⟩⟩
      rw [symsF, a1]; dsimp only; rw [if_pos (by omega)]
    · -- a match
      have hlb := lbase_le (show 257 ≤ s by omega) (by omega)
      have hlk := lbits_le s
      refine OkN.mono (s_X11_lengthBase (by omega) (by omega)) ?_
      rintro r iv2 av2 hR2 ⟨rfl, rfl, rfl⟩ hr2
      refine OkN.mono (s_X11_lengthBits (by omega)) ?_
      rintro r iv2 av2 hR2 ⟨rfl, rfl, rfl⟩ hr2
      refine OkN.mono (s_X1_bits g2 (by omega) (by rw [f1 12 (by decide)]; exact hr)) ?_
      rintro r iv3 av3 hR3 ⟨rfl, g5, rfl, g6⟩ hr3
      rw [e13] at hr3 ⊢
      have f2 : Off [16, 72] iv0 iv3 := f1.tr (g5.mono (by decide))
      have u2 : US iv3 av3 most win o := u1.of (g5 16 (by decide)) (g5 58 (by decide)) rfl
      refine OkN.mono (s_X9_symbol rk_63 g6 (hD.of (h6 64 (by decide)) (h6 65 (by decide))) okD (by rw [f2 12 (by decide)]; exact hr)) ?_
      rintro r iv4 av4 hR4 ⟨rfl, g7, p3, ms3, g8, g9, g10⟩ hr4
      rw [e13] at g10
      have f3 : Off [16, 72] iv0 iv4 := f2.tr (g7.mono (by decide))
      have u3 : US iv4 av4 most win o := u2.of (g7 16 (by decide)) (g7 58 (by decide)) rfl
      have hnn := nn_eq hB p1 (lbits s)
      have hnl := nn_lt hB p1 (lbits s)
      have hnl5 : nn (BB (av0 13) fr N) p1 (lbits s) < 32 := by
        have : 2 ^ lbits s ≤ 2 ^ 5 := Nat.pow_le_pow_right (by omega) hlk
        omega
      have esp : symsF (BB (av0 13) fr N) N fS fD most win (m + 1) p o = (if N < p1 + lbits s then none else match sym (BB (av0 13) fr N) N fD 32 (p1 + lbits s) with
        | none => none
        | some (d, p3) => if 29 < d ∨ N < p3 + dbits d ∨ o.1 < dbase d + nn (BB (av0 13) fr N) p3 (dbits d) ∨ win < dbase d + nn (BB (av0 13) fr N) p3 (dbits d) ∨ most < o.1 + (lbase s + nn (BB (av0 13) fr N) p1 (lbits s)) then none
          else symsF (BB (av0 13) fr N) N fS fD most win m (p3 + dbits d) (o.1 + (lbase s + nn (BB (av0 13) fr N) p1 (lbits s)), cpyF (dbase d + nn (BB (av0 13) fr N) p3 (dbits d)) (lbase s + nn (BB (av0 13) fr N) p1 (lbits s)) o.1 o.2)) := by
        rw [symsF, a1]; dsimp only; rw [if_neg (by omega), if_neg (by omega)]
        by_cases hN : N < p1 + lbits s
        · rw [if_pos (Or.inr hN), if_pos hN]
        · rw [if_neg (by omega), if_neg hN]
          rfl
      have fault2 : ∀ {iv5 : IVt} {p5 : Nat} {ms5 : Int}, Off [16, 72] iv0 iv5 → CS iv5 fr N p5 ms5 → US iv5 av4 most win o → symsF (BB (av0 13) fr N) N fS fD most win (m + 1) p o = none → P 0 iv5 av4 := fun b1 b2 b3 hd => hP 0 _ av4 ⟨b1, h6, _, _, b2, Or.inr ⟨Or.inl hd, Or.inl rfl, by have := b3.1; omega, by have := b3.1; have := b3.2.2.2.1; have := b3.2.2.2.2.1; omega⟩⟩
      have hnone : (∀ d q, sym (BB (av0 13) fr N) N fD 32 (min (p1 + lbits s) N) = some (d, q) → ¬ N < p1 + lbits s → 29 < d) → symsF (BB (av0 13) fr N) N fS fD most win (m + 1) p o = none := by
        intro hh
        rw [esp]
        by_cases hN : N < p1 + lbits s
        · rw [if_pos hN]
        · rw [if_neg hN]
          rw [show min (p1 + lbits s) N = p1 + lbits s by omega] at hh
          cases hsy : sym (BB (av0 13) fr N) N fD 32 (p1 + lbits s) with
          | none => rfl
          | some q =>
            obtain ⟨d, q⟩ := q
            dsimp only
            rw [if_pos (Or.inl (hh d q hsy hN))]
      refine ⟨fun hneg => w_X10_readSymbols_128 C (fault2 f3 g8 u3 (hnone fun d q hd _ => ?_)), fun hnn0 => ⟨fun hle => ?_, fun hgt => w_X10_readSymbols_128 C (fault2 f3 g8 u3 (hnone fun d q hd _ => ?_))⟩⟩
      · rcases g10 with ⟨s2, q2, b1, b2, b3, b4⟩ | ⟨b1, b2⟩
        · omega
        · rw [b1] at hd; cases hd
      · obtain ⟨d, rfl⟩ := Int.eq_ofNat_of_zero_le (show 0 ≤ r by omega)
        have hdk := dbits_le (show d ≤ 31 by omega)
        have hdb := dbase_le (show d ≤ 31 by omega)
        refine OkN.mono (s_X11_distanceBase (by omega)) ?_
        rintro r iv5 av5 hR5 ⟨rfl, rfl, rfl⟩ hr5
        refine OkN.mono (s_X11_distanceBits (by omega)) ?_
        rintro r iv5 av5 hR5 ⟨rfl, rfl, rfl⟩ hr6
        refine OkN.mono (s_X1_bits g8 (by omega) (by rw [f3 12 (by decide)]; exact hr)) ?_
        rintro r iv6 av6 hR6 ⟨rfl, g11, rfl, g12⟩ hr7
        rw [e13] at hr7 ⊢
        have f4 : Off [16, 72] iv0 iv6 := f3.tr (g11.mono (by decide))
        have u4 : US iv6 av6 most win o := u3.of (g11 16 (by decide)) (g11 58 (by decide)) rfl
        refine OkN.mono (s_X1_isMissing g12) ?_
        rintro r iv6' av6' hR6' ⟨rfl, rfl, rfl⟩ hr8'
        have hnn2 := nn_eq hB p3 (dbits d)
        have hnl2 := nn_lt hB p3 (dbits d)
        have hnl14 : nn (BB (av0 13) fr N) p3 (dbits d) < 16384 := by
          have : 2 ^ dbits d ≤ 2 ^ 14 := Nat.pow_le_pow_right (by omega) hdk
          omega
        by_cases hgood : ¬ N < p1 + lbits s ∧ ms3 = 0 ∧ p3 + dbits d ≤ N
        · obtain ⟨hg1, hg2, hg3⟩ := hgood
          subst hg2
          rw [if_pos hg3] at g12 hr8' ⊢
          refine ⟨fun h => absurd rfl h, fun _ => ?_⟩
          rw [hnn, hnn2]
          refine ⟨by omega, by omega, ?_⟩
          have g10' : sym (BB (av0 13) fr N) N fD 32 (p1 + lbits s) = some (d, p3) := by
            rcases g10 with ⟨s2, q2, b1, b2, b3, b4⟩ | ⟨b1, b2⟩
            · rw [show min (p1 + lbits s) N = p1 + lbits s by omega] at b1
              rw [b1, b3]
              congr 2
              omega
            · omega
          have hp3 := (sym_some hB g10').2.1
          have esp2 := esp
          rw [if_neg hg1, g10'] at esp2
          dsimp only at esp2
          rw [show ((lbase s : Nat) : Int) + ((nn (BB (av0 13) fr N) p1 (lbits s) : Nat) : Int) = ((lbase s + nn (BB (av0 13) fr N) p1 (lbits s) : Nat) : Int) by omega, show ((dbase d : Nat) : Int) + ((nn (BB (av0 13) fr N) p3 (dbits d) : Nat) : Int) = ((dbase d + nn (BB (av0 13) fr N) p3 (dbits d) : Nat) : Int) by omega]
          refine OkN.mono (s_X10_repeat u4 (by omega) (by omega) (by omega)) ?_
          rintro r iv7 av7 hR7 (⟨rfl, c1, rfl, rfl⟩ | ⟨rfl, c1, c2, c3, c4⟩) hr9
          · refine ⟨fun h => absurd rfl h, fun _ => w_X10_readSymbols_170 C (fault2 f4 g12 u4 ?_)⟩
            rw [esp2, if_pos (by omega)]
          · refine ⟨fun _ => w_X10_readSymbols_172 C ?_, fun h => absurd h (by decide)⟩
            rw [show (x1 : Int) + 1 = ((x1 + 1 : Nat) : Int) by omega]
            rw [show min (p3 + dbits d) N = p3 + dbits d by omega] at g12
            refine ih (p3 + dbits d) (x1 + 1) _ iv7 av7 0 (by omega) (by omega) (g12.of (c2 72 (by decide))) c4 (f4.tr (c2.mono (by decide))) (h6.tr c3) ?_
            intro r iv' av' hu
            refine hP r iv' av' ?_
            rw [esp2, if_neg (by omega)]
            exact hu
        · have hms5 : ¬ (if p3 + dbits d ≤ N then ms3 else 1) = 0 := by
            intro h0
            refine hgood ?_
            split at h0
            · rename_i h00
              refine ⟨fun hN => ?_, h0, h00⟩
              rw [if_neg (by omega)] at g10
              rcases g10 with ⟨s2, q2, b1, b2, b3, b4⟩ | ⟨b1, b2⟩ <;> omega
            · omega
          refine ⟨fun _ => w_X10_readSymbols_170 C (fault2 f4 g12 u4 ?_), fun h => absurd h hms5⟩
          rw [esp]
          by_cases hN : N < p1 + lbits s
          · rw [if_pos hN]
          · rw [if_neg hN]
            rw [if_pos (show p1 + lbits s ≤ N by omega), show min (p1 + lbits s) N = p1 + lbits s by omega] at g10
            rcases g10 with ⟨s2, q2, b1, b2, b3, b4⟩ | ⟨b1, b2⟩
            · rw [b1]
              dsimp only
              rw [if_pos]
              right
              left
              have : s2 = d := by omega
              subst this
              rw [← b3]
              omega
            · rw [b1]
      · rcases g10 with ⟨s2, q2, b1, b2, b3, b4⟩ | ⟨b1, b2⟩
        · rw [b1] at hd
          have := Option.some.inj hd
          have := congrArg Prod.fst this
          dsimp only at this
          omega
        · rw [b1] at hd; cases hd
theorem s_X10_readSymbols (h : CS iv fr N p ms) (hr : fr + N / 8 ≤ iv 12 1) (hp : 1 ≤ p) {fS fD : Nat → Int} (hS : RC av 59 fS 288) {qS qD : Prop} (okS : okC fS 288 qS) (hD : RC av 63 fD 32) (okD : okC fD 32 qD) (hU : US iv av most win o) : OkN Y (e + 3) mX10_readSymbols [.ref (gl_b Y + 58)] RV iv av 116
    (fun r iv' av' => UR [16, 72] [17] iv av iv' av' fr N most win (symsF (BB (av 13) fr N) N fS fD most win (N + 1) p o) ms r) :=
  o_X10_readSymbols fun X C => l_X10_readSymbols C hr hS okS hD okD (N + 1) p 0 o iv av ms (by omega) (by omega) h hU (Off.rf _ _) (Off.rf _ _) fun r iv' av' hu => hu
end SUnsym
