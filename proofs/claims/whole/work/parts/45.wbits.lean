/-! Bits that are written, on both sides. -/
abbrev Bw : Type := Nat × (Nat → Int)
/-- k bits of v more, the lowest first -/
def wr (v : Int) (k : Nat) (b : Bw) : Bw := (b.1 + k, fun i => if i < b.1 then b.2 i else v / 2 ^ (i - b.1) % 2)
/-- bits up to a byte's end -/
def wrB (b : Bw) : Bw := wr 0 ((8 - b.1 % 8) % 8) b
theorem wr_bit {v : Int} {k : Nat} {b : Bw} (h : Bit b.2) : Bit (wr v k b).2 := fun p => by
  unfold wr
  dsimp only
  split
  · exact h p
  · omega
theorem nv_congr {f g : Nat → Int} {p : Nat} : ∀ k, (∀ i, i < k → f (p + i) = g (p + i)) → nv f p k = nv g p k := by
  intro k
  induction k with
  | zero => exact fun _ => rfl
  | succ k ih =>
    intro h
    show nv f p k + f (p + k) * 2 ^ k = nv g p k + g (p + k) * 2 ^ k
    rw [ih (fun i hi => h i (by omega)), h k (by omega)]
theorem nv_app (f : Nat → Int) (p a : Nat) : ∀ c, nv f p (a + c) = nv f p a + nv f (p + a) c * 2 ^ a := by
  intro c
  induction c with
  | zero => simp [nv]
  | succ c ih =>
    show nv f p (a + c) + f (p + (a + c)) * 2 ^ (a + c) = nv f p a + (nv f (p + a) c + f (p + a + c) * 2 ^ c) * 2 ^ a
    rw [ih, pwA, Int.add_mul, Nat.add_assoc, Int.mul_assoc, Int.mul_comm (2 ^ a) (2 ^ c)]
    omega
theorem nv_val (f : Nat → Int) (v : Int) (p : Nat) : ∀ k, (∀ i, i < k → f (p + i) = v / 2 ^ i % 2) → nv f p k = v % 2 ^ k := by
  intro k
  induction k with
  | zero =>
    intro _
    show (0 : Int) = v % 2 ^ 0
    rw [show (2 : Int) ^ 0 = 1 from rfl]
    omega
  | succ k ih =>
    intro h
    show nv f p k + f (p + k) * 2 ^ k = v % 2 ^ (k + 1)
    rw [ih (fun i hi => h i (by omega)), h k (by omega), pwS]
    have hp := pw0 k
    have h1 := Int.emod_add_mul_ediv v (2 ^ k)
    have h2 := Int.emod_nonneg v (Int.ne_of_gt hp)
    have h3 := Int.emod_lt_of_pos v hp
    have h4 := Int.emod_add_mul_ediv (v / 2 ^ k) 2
    have h5 : v / 2 ^ k % 2 = 0 ∨ v / 2 ^ k % 2 = 1 := by omega
    have e : v = (v % 2 ^ k + v / 2 ^ k % 2 * 2 ^ k) + 2 * 2 ^ k * (v / 2 ^ k / 2) := by
      have e1 : 2 ^ k * (v / 2 ^ k) = v / 2 ^ k % 2 * 2 ^ k + 2 * 2 ^ k * (v / 2 ^ k / 2) := by
        have : v / 2 ^ k = v / 2 ^ k % 2 + 2 * (v / 2 ^ k / 2) := by omega
        calc 2 ^ k * (v / 2 ^ k) = 2 ^ k * (v / 2 ^ k % 2 + 2 * (v / 2 ^ k / 2)) := by rw [← this]
          _ = v / 2 ^ k % 2 * 2 ^ k + 2 * 2 ^ k * (v / 2 ^ k / 2) := by
            rw [Int.mul_add, Int.mul_comm (2 ^ k) (v / 2 ^ k % 2), ← Int.mul_assoc, Int.mul_comm (2 ^ k) 2]
      omega
    have key : ∀ A B q w : Int, 0 ≤ A → A < 2 ^ k → (B = 0 ∨ B = 1) → w = A + B * 2 ^ k + 2 * 2 ^ k * q → A + B * 2 ^ k = w % (2 * 2 ^ k) := by
      intro A B q w a1 a2 a3 a4
      rw [a4, Int.add_mul_emod_self_left, Int.emod_eq_of_lt]
      · rcases a3 with a3 | a3 <;> rw [a3] <;> omega
      · rcases a3 with a3 | a3 <;> rw [a3] <;> omega
    exact key _ _ _ _ h2 h3 h5 e
theorem wr_nv {v : Int} {k : Nat} (b : Bw) : nv (wr v k b).2 b.1 k = v % 2 ^ k := by
  apply nv_val
  intro i hi
  unfold wr
  dsimp only
  rw [if_neg (by omega), show b.1 + i - b.1 = i by omega]
theorem wr_old {v : Int} {k : Nat} (b : Bw) {p c : Nat} (h : p + c ≤ b.1) : nv (wr v k b).2 p c = nv b.2 p c := by
  apply nv_congr
  intro i hi
  unfold wr
  dsimp only
  rw [if_pos (by omega)]
/-- the same bits -/
def BE (b b' : Bw) : Prop := b.1 = b'.1 ∧ ∀ i, i < b.1 → b.2 i = b'.2 i
theorem BE.rf (b : Bw) : BE b b := ⟨rfl, fun _ _ => rfl⟩
theorem BE.tr {a b c : Bw} (h : BE a b) (g : BE b c) : BE a c := ⟨h.1.trans g.1, fun i hi => (h.2 i hi).trans (g.2 i (by rw [← h.1]; exact hi))⟩
theorem BE.nv {b b' : Bw} (h : BE b b') {p c : Nat} (hp : p + c ≤ b.1) : nv b.2 p c = nv b'.2 p c := nv_congr c fun i hi => h.2 (p + i) (by omega)
theorem wr_0 (v : Int) (b : Bw) : BE (wr v 0 b) b := by
  refine ⟨rfl, fun i hi => ?_⟩
  have hi' : i < b.1 := hi
  unfold wr
  dsimp only
  rw [if_pos hi']
theorem wr_S (v : Int) (k : Nat) (b : Bw) : BE (wr (v / 2 ^ k % 2) 1 (wr v k b)) (wr v (k + 1) b) := by
  refine ⟨rfl, fun i hi => ?_⟩
  have hi' : i < b.1 + k + 1 := hi
  unfold wr
  dsimp only
  by_cases h1 : i < b.1 + k
  · rw [if_pos h1]
  · rw [if_neg h1, if_neg (by omega), show i - (b.1 + k) = 0 by omega, show i - b.1 = k by omega]
    simp
theorem wr_BE {b b' : Bw} (h : BE b b') (v : Int) (k : Nat) : BE (wr v k b) (wr v k b') := by
  refine ⟨by show b.1 + k = b'.1 + k; rw [h.1], fun i hi => ?_⟩
  unfold wr
  dsimp only
  rw [← h.1]
  by_cases h1 : i < b.1
  · rw [if_pos h1, if_pos h1]
    exact h.2 i h1
  · rw [if_neg h1, if_neg h1]
/-- the class' row and its bits at hand: b was written from beg on -/
def SK (iv av : IVt) (beg : Nat) (b : Bw) : Prop := Bit b.2 ∧ iv 12 1 = ((beg + b.1 / 8 : Nat) : Int) ∧ iv 57 1 = nv b.2 (8 * (b.1 / 8)) (b.1 % 8) ∧ iv 57 2 = ((b.1 % 8 : Nat) : Int) ∧ ∀ j, j < b.1 / 8 → av 13 (beg + j) = bm8 (nv b.2 (8 * j) 8)
theorem SK.congr {iv av : IVt} {beg : Nat} {b b' : Bw} (h : SK iv av beg b) (e : BE b b') (hb : Bit b'.2) : SK iv av beg b' := by
  obtain ⟨h1, h2, h3, h4, h5⟩ := h
  have e1 := e.1
  refine ⟨hb, by rw [← e1]; exact h2, ?_, by rw [← e1]; exact h4, fun j hj => ?_⟩
  · rw [← e1, ← e.nv (by omega)]
    exact h3
  · rw [← e.nv (by omega)]
    exact h5 j (by omega)
theorem SK.of {iv av iv' av' : IVt} {beg : Nat} {b : Bw} (h : SK iv av beg b) (e12 : iv' 12 = iv 12) (e57 : iv' 57 = iv 57) (a13 : av' 13 = av 13) : SK iv' av' beg b := by
  unfold SK at *
  rw [e12, e57, a13]
  exact h
/-- what a writing of the class leaves -/
def WrC (iv av iv' av' : IVt) (beg : Nat) (b' : Bw) : Prop := Off [12, 57] iv iv' ∧ Off [13] av av' ∧ (∀ j, j < beg → av' 13 j = av 13 j) ∧ SK iv' av' beg b'
theorem WrC.tr {iv av iv1 av1 iv' av' : IVt} {beg : Nat} {b b' : Bw} (h : WrC iv av iv1 av1 beg b) (g : WrC iv1 av1 iv' av' beg b') : WrC iv av iv' av' beg b' := ⟨h.1.tr g.1, h.2.1.tr g.2.1, fun j hj => (g.2.2.1 j hj).trans (h.2.2.1 j hj), g.2.2.2⟩
section SWbits
variable {Y : Gl} {X : Cx} {e : Nat} {iv av : IVt} {beg : Nat} {b : Bw}
theorem l_X0_bits (C : CX Y X RX0 "bits" cX0_bits 3 none (e + 1) 0 0) {iv0 av0 : IVt} {w : Nat → Int} (hw : Bit w) {tot : Nat} (hroom : beg + tot / 8 ≤ 131072) {P : PN} (hP : ∀ iv' av', WrC iv0 av0 iv' av' beg (tot, w) → P 0 iv' av') :
    ∀ (m q rem : Nat) (iv av : IVt), rem / 8 = m → 8 * q + rem = tot → rem ≤ 31 → Off [12, 57] iv0 iv → Off [13] av0 av → (∀ j, j < beg → av 13 j = av0 13 j) → iv 12 1 = ((beg + q : Nat) : Int) → iv 57 1 = nv w (8 * q) rem → iv 57 2 = rem → (∀ j, j < q → av 13 (beg + j) = bm8 (nv w (8 * j) 8)) → L_X0_bits_31 Y X P iv av := by
  intro m
  induction m with
  | zero =>
    intro q rem iv av h1 h2 h3 h4 h5 h6 h7 h8 h9 h10
    refine w_X0_bits_31 C fun _ => ⟨fun _ => hP iv av ⟨h4, h5, h6, hw, ?_, ?_, ?_, fun j hj => ?_⟩, fun h => absurd h (by omega)⟩
    · rw [h7, show (tot, w).1 / 8 = q from by show tot / 8 = q; omega]
    · show iv 57 1 = nv w (8 * (tot / 8)) (tot % 8)
      rw [h8, show tot / 8 = q by omega, show tot % 8 = rem by omega]
    · show iv 57 2 = ((tot % 8 : Nat) : Int)
      rw [h9, show tot % 8 = rem by omega]
    · exact h10 j (by have : j < tot / 8 := hj; omega)
  | succ m ih =>
    intro q rem iv av h1 h2 h3 h4 h5 h6 h7 h8 h9 h10
    have happ := nv_app w (8 * q) 8 (rem - 8)
    rw [show 8 + (rem - 8) = rem by omega, show (2 : Int) ^ 8 = 256 from rfl] at happ
    have hn8 := nv_in hw (8 * q) 8
    have hnr := nv_in hw (8 * q + 8) (rem - 8)
    have hpr := pwL (show rem - 8 ≤ 23 by omega)
    have e23 : (2 : Int) ^ 23 = 8388608 := rfl
    have e8 : (2 : Int) ^ 8 = 256 := rfl
    refine w_X0_bits_31 C fun _ => ⟨fun h => absurd h (by omega), fun _ _ => OkN.mono (s_X2_add bk_12 (by omega) (by show _ < ((131072 : Nat) : Int); omega)) ?_⟩
    rintro r iv1 av1 hR1 ⟨rfl, rfl⟩ _ _
    have e1 : up2 iv 12 1 (iv 12 1 + 1) 57 1 = iv 57 1 := rfl
    have e2 : up2 iv 12 1 (iv 12 1 + 1) 57 2 = iv 57 2 := rfl
    rw [e1, e2]
    refine ⟨by omega, ih (q + 1) (rem - 8) _ _ (by omega) (by omega) (by omega) (((h4.up (by decide)).up (by decide)).up (by decide)) (h5.up (by decide)) (fun j hj => ?_) ?_ ?_ ?_ fun j hj => ?_⟩
    · rw [up2_nj (by omega)]
      exact h6 j hj
    · show up2 iv 12 1 (iv 12 1 + 1) 12 1 = _
      rw [up2_eq]
      omega
    · rw [up2_nj (by decide), up2_eq, h8, happ, show 8 * (q + 1) = 8 * q + 8 by omega]
      omega
    · rw [up2_eq]
      omega
    · rw [up2_at, show (iv 12 1).toNat = beg + q by omega]
      by_cases hjq : j = q
      · rw [if_pos (by omega), hjq, h8]
        apply bm8_of
        rw [happ]
        omega
      · rw [if_neg (by omega)]
        exact h10 j (by omega)
theorem s_X0_bits (h : SK iv av beg b) {v : Int} {k : Nat} (hk : k ≤ 16) (hroom : beg + (b.1 + k) / 8 ≤ 131072) : OkN Y (e + 1) mX0_bits [.ref (gl_b Y + 57), .int (i32 v), .int (i32 (k : Int))] RV iv av 116
    (fun r iv' av' => WrC iv av iv' av' beg (wr v k b)) := by
  obtain ⟨h1, h2, h3, h4, h5⟩ := h
  have hheld := nv_in h1 (8 * (b.1 / 8)) (b.1 % 8)
  have hb' := wr_bit (v := v) (k := k) h1
  have hp7 := pwL (show b.1 % 8 ≤ 7 by omega)
  have hpk := pwL hk
  have e7 : (2 : Int) ^ 7 = 128 := rfl
  have e16 : (2 : Int) ^ 16 = 65536 := rfl
  have hm0 := Int.emod_nonneg v (Int.ne_of_gt (pw0 k))
  have hm1 := Int.emod_lt_of_pos v (pw0 k)
  refine o_X0_bits fun X C _ => ⟨by omega, fun _ => ⟨by omega, by omega, ?_⟩⟩
  rw [Int.toNat_natCast, Int.one_mul, g_and_mask v (show k ≤ 31 by omega), h4, Int.toNat_natCast]
  have hsum : v % 2 ^ k * 2 ^ (b.1 % 8) < 8388608 := by
    have a1 : v % 2 ^ k * 2 ^ (b.1 % 8) ≤ 65535 * 2 ^ (b.1 % 8) := Int.mul_le_mul_of_nonneg_right (by omega) (Int.le_of_lt (pw0 _))
    have a2 : (65535 : Int) * 2 ^ (b.1 % 8) ≤ 65535 * 128 := Int.mul_le_mul_of_nonneg_left (by omega) (by omega)
    omega
  have hor := g_or_add (a := iv 57 1) (c := v % 2 ^ k) (p := b.1 % 8) (by omega) (by omega) hm0 (by omega)
  rw [hor]
  have hH : iv 57 1 + v % 2 ^ k * 2 ^ (b.1 % 8) = nv (wr v k b).2 (8 * (b.1 / 8)) (b.1 % 8 + k) := by
    rw [nv_app, wr_old b (by omega), ← h3, show 8 * (b.1 / 8) + b.1 % 8 = b.1 by omega, wr_nv]
  rw [hH]
  refine l_X0_bits (iv0 := iv) (av0 := av) (beg := beg) (tot := b.1 + k) C hb' (by omega) (fun iv' av' hh => hh) ((b.1 % 8 + k) / 8) (b.1 / 8) (b.1 % 8 + k) _ av rfl (by omega) (by omega) (((Off.rf _ _).up (by decide)).up (by decide)) (Off.rf _ _) (fun _ _ => rfl) h2 (by rw [up2_nj (by decide), up2_eq]) (by rw [up2_eq]; omega) fun j hj => ?_
  rw [wr_old b (by omega)]
  exact h5 j hj
theorem s_X0_bitsK (k : Nat) {x : Int} (hx : x = k) (h : SK iv av beg b) {v : Int} (hk : k ≤ 16) (hroom : beg + (b.1 + k) / 8 ≤ 131072) : OkN Y (e + 1) mX0_bits [.ref (gl_b Y + 57), .int (i32 v), .int (i32 x)] RV iv av 116
    (fun r iv' av' => WrC iv av iv' av' beg (wr v k b)) := by
  subst hx
  exact s_X0_bits h hk hroom
theorem s_X0_bitsToByte (h : SK iv av beg b) {k : Nat} (hk : k ≤ 100) : OkN Y e mX0_bitsToByte [.ref (gl_b Y + 57), .int (i32 (k : Int))] RV iv av 116 (Same iv av (((8 - (b.1 + k) % 8) % 8 : Nat) : Int)) := by
  refine o_X0_bitsToByte fun _ => ⟨?_, rfl, rfl⟩
  have := h.2.2.2.1
  omega
theorem s_X0_endByte (h : SK iv av beg b) (hroom : beg + (b.1 + 7) / 8 ≤ 131072) : OkN Y (e + 2) mX0_endByte [.ref (gl_b Y + 57)] RV iv av 116 (fun r iv' av' => WrC iv av iv' av' beg (wrB b)) := by
  refine o_X0_endByte (OkN.mono (s_X0_bitsToByte (k := 0) h (by omega)) ?_)
  rintro r iv1 av1 hR1 ⟨rfl, rfl, rfl⟩ hr1
  refine OkN.mono (s_X0_bits h (v := 0) (k := (8 - (b.1 + 0) % 8) % 8) (by omega) (by omega)) ?_
  intro r iv2 av2 hR2 hw
  exact hw
/-- the reference's packed bits -/
def PK (iv av : IVt) (b : Bw) : Prop := Bit b.2 ∧ iv 73 31 = b.1 ∧ (∀ j, j < b.1 / 8 → av 93 j = bm8 (nv b.2 (8 * j) 8)) ∧ (b.1 % 8 ≠ 0 → av 93 (b.1 / 8) = bm8 (nv b.2 (8 * (b.1 / 8)) (b.1 % 8)))
theorem PK.congr {b' : Bw} (h : PK iv av b) (e : BE b b') (hb : Bit b'.2) : PK iv av b' := by
  obtain ⟨h1, h2, h3, h4⟩ := h
  have e1 := e.1
  refine ⟨hb, by rw [← e1]; exact h2, fun j hj => ?_, fun hne => ?_⟩
  · rw [← e.nv (by omega)]
    exact h3 j (by omega)
  · rw [← e1, ← e.nv (by omega)]
    exact h4 (by omega)
theorem PK.of {iv' av' : IVt} (h : PK iv av b) (e31 : iv' 73 31 = iv 73 31) (a93 : av' 93 = av 93) : PK iv' av' b := by
  unfold PK at *
  rw [e31, a93]
  exact h
def WrR (iv av iv' av' : IVt) (b' : Bw) : Prop := OffM [] [31] iv iv' ∧ Off [93] av av' ∧ PK iv' av' b'
theorem WrR.tr {iv1 av1 iv' av' : IVt} {b b' : Bw} (h : WrR iv av iv1 av1 b) (g : WrR iv1 av1 iv' av' b') : WrR iv av iv' av' b' := ⟨h.1.tr g.1, h.2.1.tr g.2.1, g.2.2⟩
theorem s_X13_writeBit (h : PK iv av b) {x : Int} (hx : x = 0 ∨ x = 1) (hroom : b.1 < 528000) : OkN Y e mX13_writeBit [.ref (gl_b Y + 73), .int (i32 x)] RV iv av 116 (fun r iv' av' => WrR iv av iv' av' (wr x 1 b)) := by
  obtain ⟨h1, h2, h3, h4⟩ := h
  have hold : ∀ {j : Nat}, j < b.1 / 8 → nv (wr x 1 b).2 (8 * j) 8 = nv b.2 (8 * j) 8 := fun hj => wr_old b (by omega)
  have hval : x % 2 ^ 1 = x := by
    rw [show (2 : Int) ^ 1 = 2 from rfl]
    omega
  have hnew : nv (wr x 1 b).2 (8 * (b.1 / 8)) (b.1 % 8 + 1) = nv b.2 (8 * (b.1 / 8)) (b.1 % 8) + x * 2 ^ (b.1 % 8) := by
    rw [nv_app, wr_old b (by omega), show 8 * (b.1 / 8) + b.1 % 8 = b.1 by omega, wr_nv, hval]
  have fin : ∀ v : Int, v = bm8 (nv (wr x 1 b).2 (8 * (b.1 / 8)) (b.1 % 8 + 1)) → WrR iv av (up2 iv 73 31 (iv 73 31 + 1)) (up2 av 93 (iv 73 31 / 8).toNat v) (wr x 1 b) := by
    intro v hv
    have ek : (iv 73 31 / 8).toNat = b.1 / 8 := by omega
    rw [ek]
    refine ⟨(OffM.rf _ _ _).up (by decide), (Off.rf _ _).up (by decide), wr_bit h1, ?_, fun j hj => ?_, fun hne => ?_⟩
    · rw [up2_eq]
      show _ = ((b.1 + 1 : Nat) : Int)
      omega
    · have hj' : j < (b.1 + 1) / 8 := hj
      rw [up2_at]
      by_cases hjk : j = b.1 / 8
      · rw [if_pos hjk, hv, hjk, show b.1 % 8 + 1 = 8 by omega]
      · rw [if_neg hjk, hold (by omega)]
        exact h3 j (by omega)
    · have hne' : (b.1 + 1) % 8 ≠ 0 := hne
      show up2 av 93 (b.1 / 8) v 93 ((b.1 + 1) / 8) = bm8 (nv (wr x 1 b).2 (8 * ((b.1 + 1) / 8)) ((b.1 + 1) % 8))
      rw [show (b.1 + 1) / 8 = b.1 / 8 by omega, up2_eq, hv, show (b.1 + 1) % 8 = b.1 % 8 + 1 by omega]
  refine o_X13_writeBit fun _ => ⟨by omega, fun hne => ⟨by omega, fun _ => ⟨by omega, by omega, fin _ ?_⟩⟩, fun heq => ⟨by omega, by omega, fin _ ?_⟩⟩
  · have hr : b.1 % 8 ≠ 0 := by omega
    have hy := nv_in h1 (8 * (b.1 / 8)) (b.1 % 8)
    have hp7 := pwL (show b.1 % 8 ≤ 7 by omega)
    have e7 : (2 : Int) ^ 7 = 128 := rfl
    have ecell : av 93 (iv 73 31 / 8).toNat = nv b.2 (8 * (b.1 / 8)) (b.1 % 8) := by
      rw [show (iv 73 31 / 8).toNat = b.1 / 8 by omega, h4 hr, bm8_id (by omega)]
    rw [ecell, show (iv 73 31 % 8).toNat = b.1 % 8 by omega, bm8_bm8, hnew]
    congr 1
    rcases hx with h | h <;> rw [h] <;> exact g_or_add hy.1 hy.2 (by omega) (by omega)
  · have hr : b.1 % 8 = 0 := by omega
    rw [hnew, bm8_bm8, hr]
    show bm8 x = bm8 (0 + x * 2 ^ 0)
    rw [show (2 : Int) ^ 0 = 1 from rfl]
    congr 1
    omega
theorem s_X13_writeNumber (k : Nat) {x v : Int} (hx : x = k) (h : PK iv av b) (hv : InR v) (hk : k ≤ 31) (hroom : b.1 + k ≤ 528000) : OkN Y (e + 1) mX13_writeNumber [.ref (gl_b Y + 73), .int (i32 v), .int (i32 x)] RV iv av 116 (fun r iv' av' => WrR iv av iv' av' (wr v k b)) := by
  subst hx
  refine o_X13_writeNumber fun X C => ?_
  have key : ∀ (m j : Nat) (iv1 av1 : IVt), j + m = k → WrR iv av iv1 av1 (wr v j b) → L_X13_writeNumber_2 Y X (fun r iv' av' => WrR iv av iv' av' (wr v k b)) v k j iv1 av1 := by
    intro m
    induction m with
    | zero =>
      intro j iv1 av1 h1 h2
      have : j = k := by omega
      subst this
      exact w_X13_writeNumber_2 C hv (by omega) (by omega) ⟨fun _ => h2, fun h => absurd h (by omega)⟩
    | succ m ih =>
      intro j iv1 av1 h1 h2
      refine w_X13_writeNumber_2 C hv (by omega) (by omega) ⟨fun h => absurd h (by omega), fun _ => ⟨by omega, OkN.mono (s_X13_writeBit h2.2.2 (by omega) (by show b.1 + j < 528000; omega)) ?_⟩⟩
      intro r iv2 av2 hR2 hw
      rw [Int.toNat_natCast] at hw
      rw [show (j : Int) + 1 = ((j + 1 : Nat) : Int) by omega]
      refine ih (j + 1) iv2 av2 (by omega) ?_
      have := h2.tr hw
      exact ⟨this.1, this.2.1, this.2.2.congr (wr_S v j b) (wr_bit h.1)⟩
  exact key k 0 iv av (by omega) ⟨OffM.rf _ _ _, Off.rf _ _, h.congr ⟨rfl, fun i hi => ((wr_0 v b).2 i hi).symm⟩ (wr_bit h.1)⟩
theorem s_X13_endByte (h : PK iv av b) (hroom : b.1 + 8 ≤ 528000) : OkN Y (e + 1) mX13_endByte [.ref (gl_b Y + 73)] RV iv av 116 (fun r iv' av' => WrR iv av iv' av' (wrB b)) := by
  refine o_X13_endByte fun X C => ?_
  have key : ∀ (m j : Nat) (iv1 av1 : IVt), j + m = (8 - b.1 % 8) % 8 → WrR iv av iv1 av1 (wr 0 j b) → L_X13_endByte_0 Y X (fun r iv' av' => WrR iv av iv' av' (wrB b)) iv1 av1 := by
    intro m
    induction m with
    | zero =>
      intro j iv1 av1 h1 h2
      have hj : j = (8 - b.1 % 8) % 8 := by omega
      subst hj
      have h31 := h2.2.2.2.1
      have e1 : (wr 0 ((8 - b.1 % 8) % 8) b).1 = b.1 + (8 - b.1 % 8) % 8 := rfl
      exact w_X13_endByte_0 C fun _ => ⟨by omega, fun _ => h2, fun hne => absurd (show iv1 73 31 % 8 = 0 by omega) hne⟩
    | succ m ih =>
      intro j iv1 av1 h1 h2
      have h31 := h2.2.2.2.1
      have e1 : (wr 0 j b).1 = b.1 + j := rfl
      refine w_X13_endByte_0 C fun _ => ⟨by omega, fun h => absurd h (by omega), fun _ => OkN.mono (s_X13_writeBit h2.2.2 (Or.inl rfl) (by omega)) ?_⟩
      intro r iv2 av2 hR2 hw
      refine ih (j + 1) iv2 av2 (by omega) ?_
      have := h2.tr hw
      refine ⟨this.1, this.2.1, this.2.2.congr ?_ (wr_bit h.1)⟩
      have := wr_S 0 j b
      rw [show (0 : Int) / 2 ^ j % 2 = 0 by simp] at this
      exact this
  exact key ((8 - b.1 % 8) % 8) 0 iv av (by omega) ⟨OffM.rf _ _ _, Off.rf _ _, h.congr ⟨rfl, fun i hi => ((wr_0 0 b).2 i hi).symm⟩ (wr_bit h.1)⟩
end SWbits
