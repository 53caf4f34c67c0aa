/-! Bytes: what its methods do. -/
theorem up2_app (f : IVt) (k j k' j' : Nat) (v : Int) : up2 f k j v k' j' = if k' = k ∧ j' = j then v else f k' j' := by
  unfold up2
  split
  · rename_i h
    subst h
    simp
  · rename_i h
    simp [h]
theorem upA_app (f : IVt) (k k' i : Nat) (g : Nat → Int) : upA f k g k' i = if k' = k then g i else f k' i := by
  unfold upA
  split <;> simp_all
theorem up2_up2 (f : IVt) (k j : Nat) (v w : Int) : up2 (up2 f k j v) k j w = up2 f k j w := by
  funext k' j'
  simp only [up2_app]
  grind
theorem up2_self (f : IVt) (k j : Nat) : up2 f k j (f k j) = f := by
  funext k' j'
  simp only [up2_app]
  grind
theorem up2_upA (f : IVt) (k j : Nat) (v : Int) : up2 f k j v = upA f k (fun i => if i = j then v else f k i) := rfl
theorem upA_upA (f : IVt) (k : Nat) (g h : Nat → Int) : upA (upA f k g) k h = upA f k h := by
  funext k' j'
  simp only [upA_app]
  grind
theorem upA_self (f : IVt) (k : Nat) : upA f k (f k) = f := by
  funext k' j'
  simp only [upA_app]
  grind
theorem upA_of {f : IVt} {k : Nat} {g : Nat → Int} (h : ∀ i, g i = f k i) : upA f k g = f := by
  funext k' j'
  simp only [upA_app]
  grind
theorem bm8_bm8 (x : Int) : bm8 (bm8 x) = bm8 x := by simp [bm8]
theorem bm8_0 : bm8 0 = 0 := rfl
theorem bm8_id {x : Int} (h : -128 ≤ x ∧ x ≤ 127) : bm8 x = x := by unfold bm8; exact Int.bmod_eq_of_le (by omega) (by omega)
theorem bm8_mod (x : Int) : bm8 x % 256 = x % 256 := by
  unfold bm8
  exact Int.bmod_emod
theorem bm8_def (x : Int) : bm8 x = if x % 256 < 128 then x % 256 else x % 256 - 256 := by
  unfold bm8
  rw [Int.bmod_def]
  rfl
theorem bm8_of {x y : Int} (h : x % 256 = y % 256) : bm8 x = bm8 y := by rw [bm8_def, bm8_def, h]
section SBytes
variable {Y : Gl} {X : Cx} {e k : Nat} {iv av : IVt}
abbrev Same (iv av : IVt) (r0 : Int) : PN := fun r iv' av' => r = r0 ∧ iv' = iv ∧ av' = av
theorem s_X2_count (K : BytesK k) : OkN Y e mX2_count [.ref (gl_b Y + k)] RV iv av 116 (Same iv av (iv k 1)) := by
  refine o_X2_count K ?_
  intro _
  exact ⟨rfl, rfl, rfl⟩
theorem s_X2_room (K : BytesK k) (h : 0 ≤ iv k 1) : OkN Y e mX2_room [.ref (gl_b Y + k)] RV iv av 116 (Same iv av (kl (k + 1) - iv k 1)) := by
  refine o_X2_room K ?_
  have := kl_le (k + 1)
  grind
def b_at (iv av : IVt) (k : Nat) (i : Int) : Int := if 0 ≤ i ∧ i < iv k 1 ∧ i < kl (k + 1) then av (k + 1) i.toNat % 256 else 0
theorem s_X2_at (K : BytesK k) {x : Int} (hx : InR x) : OkN Y e mX2_at [.ref (gl_b Y + k), .int (i32 x)] RV iv av 116 (Same iv av (b_at iv av k x)) := by
  refine o_X2_at K hx ?_
  unfold b_at
  grind
theorem s_X2_set (K : BytesK k) {x b : Int} (hx : InR x) (h0 : 0 ≤ x) (h1 : x < iv k 1) (h2 : iv k 1 ≤ kl (k + 1)) : OkN Y e mX2_set [.ref (gl_b Y + k), .int (i32 x), .int (i32 b)] RV iv av 116 (fun r iv' av' => iv' = iv ∧ av' = up2 av (k + 1) x.toNat (bm8 b)) := by
  refine o_X2_set K hx ?_
  have hb := bm8_bm8 b
  grind
theorem s_X2_add (K : BytesK k) {x : Int} (h0 : 0 ≤ iv k 1) (h1 : iv k 1 < kl (k + 1)) : OkN Y e mX2_add [.ref (gl_b Y + k), .int (i32 x)] RV iv av 116 (fun r iv' av' => iv' = up2 iv k 1 (iv k 1 + 1) ∧ av' = up2 av (k + 1) (iv k 1).toNat (bm8 x)) := by
  refine o_X2_add K ?_
  have := kl_le (k + 1)
  have hb := bm8_bm8 x
  grind
theorem s_X2_keep (K : BytesK k) {x : Int} (hx : InR x) : OkN Y e mX2_keep [.ref (gl_b Y + k), .int (i32 x)] RV iv av 116 (fun r iv' av' => iv' = (if 0 ≤ x ∧ x < iv k 1 then up2 iv k 1 x else iv) ∧ av' = av) := by
  refine o_X2_keep K hx ?_
  grind
theorem l_X2_addZeros {x1 : Int} (C : CX Y X RX2 "addZeros" cX2_addZeros 3 none (e + 1) 0 0) (K : BytesK k) (hx : InR x1) {P : PN} : ∀ (m : Nat) (x2 : Int) (iv av : IVt), x1 - x2 = m → 0 ≤ x2 → 0 ≤ iv k 1 → iv k 1 + m ≤ kl (k + 1) →
    (∀ iv' av', iv' = up2 iv k 1 (iv k 1 + m) → av' = upA av (k + 1) (fun i => if iv k 1 ≤ i ∧ i < iv k 1 + m then 0 else av (k + 1) i) → P 0 iv' av') → L_X2_addZeros_2 Y X P k x1 x2 iv av := by
  intro m
  induction m with
  | zero =>
    intro x2 iv av h1 h2 h3 h4 hP
    refine w_X2_addZeros_2 C K hx (by omega) ⟨fun _ => ?_, fun h => absurd h (by omega)⟩
    exact hP _ _ (by simp [up2_self]) (upA_of (fun i => if_neg (by omega))).symm
  | succ m ih =>
    intro x2 iv av h1 h2 h3 h4 hP
    refine w_X2_addZeros_2 C K hx (by omega) ⟨fun h => absurd h (by omega), fun _ => ?_⟩
    refine OkN.mono (s_X2_add K h3 (by omega)) ?_
    rintro r iv' av' hR ⟨rfl, rfl⟩
    refine ih (x2 + 1) _ _ (by omega) (by omega) (by rw [up2_eq]; omega) (by rw [up2_eq]; omega) ?_
    rintro iv' av' rfl rfl
    refine hP _ _ ?_ ?_
    · rw [up2_eq, up2_up2]; congr 1; omega
    · rw [up2_eq]
      funext k' i
      simp only [upA_app, up2_app, bm8_0]
      grind
theorem s_X2_addZeros (K : BytesK k) {n : Int} (hx : InR n) (h0 : 0 ≤ n) (h1 : 0 ≤ iv k 1) (h2 : iv k 1 + n ≤ kl (k + 1)) : OkN Y (e + 1) mX2_addZeros [.ref (gl_b Y + k), .int (i32 n)] RV iv av 116
    (fun r iv' av' => iv' = up2 iv k 1 (iv k 1 + n) ∧ av' = upA av (k + 1) (fun i => if iv k 1 ≤ i ∧ i < iv k 1 + n then 0 else av (k + 1) i)) := by
  refine o_X2_addZeros K fun X C => ?_
  have hn : (n.toNat : Int) = n := by omega
  refine l_X2_addZeros C K hx n.toNat 0 iv av (by omega) (by omega) h1 (by omega) ?_
  intro iv' av' e1 e2
  rw [hn] at e1 e2
  exact ⟨e1, e2⟩
theorem s_X2_addAll {k1 : Nat} (K : BytesK k) (K1 : BytesK k1) {f n : Int} (hf : InR f) (hn : InR n) (h0 : 0 ≤ f) (h1 : 0 ≤ n) (h2 : f + n ≤ iv k1 1) (h3 : iv k1 1 ≤ kl (k1 + 1)) (h4 : 0 ≤ iv k 1) (h5 : iv k 1 + n ≤ kl (k + 1)) :
    OkN Y (e + 1) mX2_addAll [.ref (gl_b Y + k), .ref (gl_b Y + k1), .int (i32 f), .int (i32 n)] RV iv av 116
    (fun r iv' av' => iv' = up2 iv k 1 (iv k 1 + n) ∧ av' = upA av (k + 1) (va_cpy (av (k1 + 1)) (av (k + 1)) f.toNat (iv k 1).toNat n.toNat)) := by
  refine o_X2_addAll K K1 hf hn ?_
  have := kl_le (k + 1)
  grind
theorem s_X2_open (K : BytesK k) {p n : Int} (hp : InR p) (hn : InR n) (h0 : 0 ≤ p) (h1 : p ≤ iv k 1) (h2 : 0 ≤ n) (h5 : iv k 1 + n ≤ kl (k + 1)) :
    OkN Y (e + 1) mX2_open [.ref (gl_b Y + k), .int (i32 p), .int (i32 n)] RV iv av 116
    (fun r iv' av' => iv' = up2 iv k 1 (iv k 1 + n) ∧ av' = upA av (k + 1) (va_cpy (av (k + 1)) (av (k + 1)) p.toNat (p + n).toNat (iv k 1 - p).toNat)) := by
  refine o_X2_open K hp hn ?_
  have := kl_le (k + 1)
  grind
theorem s_X2_close (K : BytesK k) {p n : Int} (hp : InR p) (hn : InR n) (h0 : 0 ≤ p) (h1 : p + n ≤ iv k 1) (h2 : 0 ≤ n) (h5 : iv k 1 ≤ kl (k + 1)) :
    OkN Y (e + 1) mX2_close [.ref (gl_b Y + k), .int (i32 p), .int (i32 n)] RV iv av 116
    (fun r iv' av' => iv' = up2 iv k 1 (iv k 1 - n) ∧ av' = upA av (k + 1) (va_cpy (av (k + 1)) (av (k + 1)) (p + n).toNat p.toNat (iv k 1 - p - n).toNat)) := by
  refine o_X2_close K hp hn ?_
  have := kl_le (k + 1)
  grind
/-- the number of three bytes -/
def b_three (iv av : IVt) (k : Nat) (i : Int) : Int := if 0 ≤ i ∧ i + 2 < iv k 1 then g_or (g_or (av (k + 1) i.toNat % 256) (av (k + 1) (i + 1).toNat % 256 * 256)) (av (k + 1) (i + 2).toNat % 256 * 65536) else 0
theorem s_X2_threeFrom (K : BytesK k) {x : Int} (hx : InR x) (h0 : 0 ≤ iv k 1) (h1 : iv k 1 ≤ kl (k + 1)) : OkN Y (e + 1) mX2_threeFrom [.ref (gl_b Y + k), .int (i32 x)] RV iv av 116 (Same iv av (b_three iv av k x)) := by
  refine o_X2_threeFrom K hx ?_
  have := kl_le (k + 1)
  unfold b_three
  grind
theorem l_X2_isZero {x1 x2 : Int} (C : CX Y X RX2 "isZero" cX2_isZero 4 (some .boolean) (e + 1) 0 0) (K : BytesK k) (hx1 : InR x1) (hx : InR x2) (h0 : 0 ≤ x1) (hc : x1 + x2 ≤ iv k 1) (hc2 : iv k 1 ≤ kl (k + 1)) {P : PN} : ∀ (m : Nat) (x3 : Int), x2 - x3 = m → 0 ≤ x3 → (∀ j : Nat, j < x3 → av (k + 1) (x1 + j).toNat % 256 = 0) →
    ((∀ j : Nat, j < x2 → av (k + 1) (x1 + j).toNat % 256 = 0) → P 1 iv av) → ((∃ j : Nat, j < x2 ∧ ¬ av (k + 1) (x1 + j).toNat % 256 = 0) → P 0 iv av) → L_X2_isZero_2 Y X P k x1 x2 x3 iv av := by
  intro m
  have hk := kl_le (k + 1)
  induction m with
  | zero =>
    intro x3 h1 h2 h3 hP hN
    refine w_X2_isZero_2 C K hx (by omega) ⟨fun _ => hP fun j hj => h3 j (by omega), fun h => absurd h (by omega)⟩
  | succ m ih =>
    intro x3 h1 h2 h3 hP hN
    refine w_X2_isZero_2 C K hx (by omega) ⟨fun h => absurd h (by omega), fun _ => ⟨by omega, ?_⟩⟩
    refine OkN.mono (s_X2_at K (by omega)) ?_
    rintro r iv' av' hR ⟨rfl, rfl, rfl⟩ hr
    have e1 : b_at iv' av' k (x1 + x3) = av' (k + 1) (x1 + x3).toNat % 256 := if_pos (by omega)
    have e2 : (x3.toNat : Int) = x3 := by omega
    rw [e1]
    refine ⟨fun h => ih (x3 + 1) (by omega) (by omega) (fun j hj => ?_) hP hN, fun h => hN ⟨x3.toNat, by omega, by rw [e2]; exact h⟩⟩
    by_cases hjx : (j : Int) = x3
    · rw [hjx]; exact h
    · exact h3 j (by omega)
/-- whether a stretch is of zeros -/
def ZR (f : Nat → Int) (p n : Int) : Prop := ∀ j : Nat, j < n → f (p + j).toNat % 256 = 0
theorem s_X2_isZero (K : BytesK k) {x1 x2 : Int} (hx1 : InR x1) (hx : InR x2) (h0 : 0 ≤ x1) (h2 : 0 ≤ x2) (hc : x1 + x2 ≤ iv k 1) (hc2 : iv k 1 ≤ kl (k + 1)) : OkN Y (e + 1) mX2_isZero [.ref (gl_b Y + k), .int (i32 x1), .int (i32 x2)] RV iv av 116
    (fun r iv' av' => iv' = iv ∧ av' = av ∧ ((r = 1 ∧ ZR (av (k + 1)) x1 x2) ∨ (r = 0 ∧ ¬ ZR (av (k + 1)) x1 x2))) := by
  refine o_X2_isZero K fun X C => ?_
  refine l_X2_isZero C K hx1 hx h0 hc hc2 x2.toNat 0 (by omega) (by omega) (fun j hj => absurd hj (by omega)) (fun h => ⟨rfl, rfl, Or.inl ⟨rfl, h⟩⟩) (fun ⟨j, h1, h2⟩ => ⟨rfl, rfl, Or.inr ⟨rfl, fun h => h2 (h j h1)⟩⟩)
/-- how many elements from two places on are the same, up to a most -/
def pre (f : Nat → Int) : Nat → Nat → Nat → Nat
  | _, _, 0 => 0
  | p, q, m + 1 => if f p = f q then pre f (p + 1) (q + 1) m + 1 else 0
theorem pre_le (f : Nat → Int) : ∀ (m p q : Nat), pre f p q m ≤ m := by
  intro m
  induction m with
  | zero => intro p q; exact Nat.le_refl 0
  | succ m ih =>
    intro p q
    have := ih (p + 1) (q + 1)
    unfold pre
    split <;> omega
theorem pre_same (f : Nat → Int) : ∀ (m p q j : Nat), j < pre f p q m → f (p + j) = f (q + j) := by
  intro m
  induction m with
  | zero => intro p q j h; exact absurd h (Nat.not_lt_zero _)
  | succ m ih =>
    intro p q j h
    unfold pre at h
    split at h
    · rename_i hf
      cases j with
      | zero => exact hf
      | succ j =>
        have := ih (p + 1) (q + 1) j (by omega)
        rw [show p + (j + 1) = p + 1 + j by omega, show q + (j + 1) = q + 1 + j by omega]
        exact this
    · exact absurd h (Nat.not_lt_zero _)
theorem pre_diff (f : Nat → Int) : ∀ (m p q : Nat), pre f p q m < m → f (p + pre f p q m) ≠ f (q + pre f p q m) := by
  intro m
  induction m with
  | zero => intro p q h; exact absurd h (Nat.not_lt_zero _)
  | succ m ih =>
    intro p q h
    unfold pre at h ⊢
    split
    · rename_i hf
      rw [if_pos hf] at h
      have := ih (p + 1) (q + 1) (by omega)
      rw [show p + (pre f (p + 1) (q + 1) m + 1) = p + 1 + pre f (p + 1) (q + 1) m by omega, show q + (pre f (p + 1) (q + 1) m + 1) = q + 1 + pre f (p + 1) (q + 1) m by omega]
      exact this
    · rename_i hf
      exact hf
theorem pre_eq (f : Nat → Int) {p q m r : Nat} (h1 : r ≤ m) (h2 : ∀ j, j < r → f (p + j) = f (q + j)) (h3 : r < m → f (p + r) ≠ f (q + r)) : pre f p q m = r := by
  have g1 := pre_le f m p q
  have g2 := pre_same f m p q
  have g3 := pre_diff f m p q
  rcases Nat.lt_trichotomy (pre f p q m) r with h | h | h
  · exact absurd (h2 _ h) (g3 (by omega))
  · exact h
  · exact absurd (g2 _ h) (h3 (by omega))
theorem l_X2_sameFrom {x1 x2 x5 : Int} (C : CX Y X RX2 "sameFrom" cX2_sameFrom 7 (some .int) (e + 1) 0 0) (K : BytesK k) (hx : InR x5) (h01 : 0 ≤ x1) (h02 : 0 ≤ x2) (hc : x1 + x5 ≤ kl (k + 1)) (hc2 : x2 + x5 ≤ kl (k + 1)) {P : PN} : ∀ (m : Nat) (x6 : Int), x5 - x6 = m → 0 ≤ x6 →
    P (x6 + pre (av (k + 1)) (x1 + x6).toNat (x2 + x6).toNat m) iv av → L_X2_sameFrom_53 Y X P k x1 x2 x5 x6 iv av := by
  intro m
  induction m with
  | zero =>
    intro x6 h1 h2 hP
    refine w_X2_sameFrom_53 C K hx (by omega) ⟨fun _ => ?_, fun h => absurd h (by omega)⟩
    simpa [pre] using hP
  | succ m ih =>
    intro x6 h1 h2 hP
    refine w_X2_sameFrom_53 C K hx (by omega) ⟨fun h => absurd h (by omega), fun _ => ⟨by omega, fun _ => ⟨by omega, fun _ => ⟨fun h => ?_, fun h => ?_⟩⟩⟩⟩
    · rw [pre, if_neg h] at hP
      simpa using hP
    · refine ih (x6 + 1) (by omega) (by omega) ?_
      rw [pre, if_pos h] at hP
      rw [show (x1 + (x6 + 1)).toNat = (x1 + x6).toNat + 1 by omega, show (x2 + (x6 + 1)).toNat = (x2 + x6).toNat + 1 by omega]
      rw [show x6 + 1 + (pre (av (k + 1)) ((x1 + x6).toNat + 1) ((x2 + x6).toNat + 1) m : Int) = x6 + ((pre (av (k + 1)) ((x1 + x6).toNat + 1) ((x2 + x6).toNat + 1) m + 1 : Nat) : Int) by omega]
      exact hP
theorem s_X2_sameFrom (K : BytesK k) {x1 x2 x3 : Int} (hx1 : InR x1) (hx2 : InR x2) (hx3 : InR x3) (h01 : 0 ≤ x1) (h02 : 0 ≤ x2) (h03 : 0 ≤ x3) (hl1 : x1 + x3 ≤ iv k 1) (hl2 : x2 + x3 ≤ iv k 1) (h1 : iv k 1 ≤ kl (k + 1)) :
    OkN Y (e + 1) mX2_sameFrom [.ref (gl_b Y + k), .int (i32 x1), .int (i32 x2), .int (i32 x3)] RV iv av 116 (Same iv av (pre (av (k + 1)) x1.toNat x2.toNat x3.toNat)) := by
  refine o_X2_sameFrom K hx1 hx2 hx3 fun X C => ?_
  have hk := kl_le (k + 1)
  intro hr
  refine ⟨fun h => absurd h (by omega), fun _ => ⟨fun h => absurd h (by omega), fun _ => ⟨fun h => ?_, fun hh1 => ⟨fun hh2 => ⟨by omega, ?_⟩, fun h => ?_⟩⟩⟩⟩
  · rw [show x3.toNat = 0 by omega]
    exact ⟨rfl, rfl, rfl⟩
  · rw [show min x3 (min (iv k 1) (kl (k + 1) : Int) - max x1 x2) = x3 by omega]
    refine l_X2_sameFrom C K hx3 h01 h02 (by omega) (by omega) x3.toNat 0 (by omega) (by omega) ?_
    simp only [Int.add_zero, Int.zero_add]
    exact ⟨rfl, rfl, rfl⟩
  · rw [show x3.toNat = 0 by omega]
    exact ⟨rfl, rfl, rfl⟩
/-- a byte of a row, 0 behind it -/
def bt (f : Nat → Int) (n i : Int) : Int := if 0 ≤ i ∧ i < n then f i.toNat % 256 else 0
def e8 (f : Nat → Int) (n i : Int) : Nat → Int → Int
  | 0, v => v
  | m + 1, v => e8 f n i m (g_orL (v * 256) (bt f n (8 * i + m)))
def E8 (f : Nat → Int) (n i : Int) : Int := if i < 0 then 0 else e8 f n i 8 0
theorem g_orL_0 : g_orL (0 * 256) 0 = 0 := by decide +kernel
theorem e8_0 (f : Nat → Int) {n i : Int} (h : n ≤ 8 * i) : ∀ m, e8 f n i m 0 = 0 := by
  intro m
  induction m with
  | zero => rfl
  | succ m ih =>
    unfold e8
    rw [show bt f n (8 * i + m) = 0 from if_neg (by omega), g_orL_0]
    exact ih
theorem l_X2_eightFrom {x1 : Int} (C : CX Y X RX2 "eightFrom" cX2_eightFrom 5 (some .long) (e + 1) 0 0) (K : BytesK k) (h01 : 0 ≤ x1) (hc : x1 ≤ 20000) (h1 : iv k 1 ≤ kl (k + 1)) {P : PN} : ∀ (m : Nat) (x2 : Int), m ≤ 8 → InL x2 →
    P (e8 (av (k + 1)) (iv k 1) x1 m x2) iv av → L_X2_eightFrom_23 Y X P k x1 x2 ((m : Int) - 1) iv av := by
  intro m
  induction m with
  | zero =>
    intro x2 h1 h2 hP
    exact w_X2_eightFrom_23 C K h2 (by omega) ⟨fun _ => hP, fun h => absurd h (by omega)⟩
  | succ m ih =>
    intro x2 h1 h2 hP
    refine w_X2_eightFrom_23 C K h2 (by omega) ⟨fun h => absurd h (by omega), fun _ => ⟨by omega, ?_⟩⟩
    refine OkN.mono (s_X2_at K (by omega)) ?_
    rintro r iv' av' hR ⟨rfl, rfl, rfl⟩ hr
    have e1 : b_at iv' av' k (8 * x1 + (((m + 1 : Nat) : Int) - 1)) = bt (av' (k + 1)) (iv' k 1) (8 * x1 + m) := by
      unfold b_at bt
      rw [show 8 * x1 + (((m + 1 : Nat) : Int) - 1) = 8 * x1 + m by omega]
      grind
    rw [e1, show ((m + 1 : Nat) : Int) - 1 + -1 = (m : Int) - 1 by omega]
    exact ih _ (by omega) (g_orL_in _ _) hP
theorem s_X2_eightFrom (K : BytesK k) {x1 : Int} (hx1 : InR x1) (h0 : 0 ≤ iv k 1) (h1 : iv k 1 ≤ kl (k + 1)) : OkN Y (e + 1) mX2_eightFrom [.ref (gl_b Y + k), .int (i32 x1)] RV iv av 116 (Same iv av (E8 (av (k + 1)) (iv k 1) x1)) := by
  refine o_X2_eightFrom K hx1 fun X C => ?_
  have hk := kl_le (k + 1)
  unfold E8
  refine ⟨fun h => ⟨by rw [if_pos h], rfl, rfl⟩, fun h => fun hr => ⟨h0, fun h2 => ?_, fun h2 => ⟨?_, rfl, rfl⟩⟩⟩
  · exact l_X2_eightFrom C K (by omega) (by omega) h1 8 0 (Nat.le_refl 8) (by omega) ⟨by rw [if_neg h], rfl, rfl⟩
  · rw [if_neg h, e8_0 _ (by omega)]
end SBytes
