/-! Code: counts, lengths, codes. -/
/-- a sum up to -/
def sm (g : Nat → Int) : Nat → Int
  | 0 => 0
  | m + 1 => sm g m + g m
/-- how many of the first m have the value v -/
def cn (f : Nat → Int) (v : Int) : Nat → Int
  | 0 => 0
  | m + 1 => cn f v m + if f m = v then 1 else 0
theorem cn_le (f : Nat → Int) (v : Int) : ∀ m, 0 ≤ cn f v m ∧ cn f v m ≤ m := by
  intro m
  induction m with
  | zero => exact ⟨Int.le_refl 0, Int.le_refl 0⟩
  | succ m ih => unfold cn; split <;> omega
/-- the number behind the last code of a length -/
def ac (f : Nat → Int) (n : Nat) : Nat → Int
  | 0 => 0
  | m + 1 => 2 * ac f n m + cn f (m + 1) n
theorem ac_le (f : Nat → Int) (n : Nat) : ∀ m, 0 ≤ ac f n m ∧ ac f n m ≤ n * (2 ^ m - 1) := by
  intro m
  induction m with
  | zero => simp [ac]
  | succ m ih =>
    have h := cn_le f (m + 1) n
    unfold ac
    refine ⟨by omega, ?_⟩
    have e : (n : Int) * (2 ^ (m + 1) - 1) = 2 * (n * (2 ^ m - 1)) + n := by
      rw [Int.pow_succ]
      grind
    omega
/-- the canonical code of a symbol -/
def cd (f : Nat → Int) (n s : Nat) : Int := 2 * ac f n ((f s).toNat - 1) + cn f (f s) s
/-- a code's bits turned round -/
def trn (c : Int) : Nat → Int
  | 0 => 0
  | m + 1 => 2 * trn c m + c / 2 ^ m % 2
theorem trn_le (c : Int) : ∀ m, 0 ≤ trn c m ∧ trn c m < 2 ^ m := by
  intro m
  induction m with
  | zero => simp [trn]
  | succ m ih =>
    unfold trn
    have := Int.emod_nonneg (c / 2 ^ m) (show (2 : Int) ≠ 0 by decide)
    have := Int.emod_lt_of_pos (c / 2 ^ m) (show (0 : Int) < 2 by decide)
    rw [Int.pow_succ]
    omega
theorem g_or_nat {a b : Nat} (ha : a < 2 ^ 31) (hb : b < 2 ^ 31) : g_or (a : Int) (b : Int) = ((a ||| b : Nat) : Int) := by
  have hlt : a ||| b < 2 ^ 31 := Nat.or_lt_two_pow ha hb
  have key : i32 (a : Int) ||| i32 (b : Int) = i32 ((a ||| b : Nat) : Int) := by
    apply Int32.toBitVec_inj.mp
    apply BitVec.eq_of_toNat_eq
    rw [Int32.toBitVec_or, BitVec.toNat_or]
    unfold i32
    simp only [Int32.toBitVec_ofInt, BitVec.toNat_ofInt]
    have e : ∀ x : Nat, x < 2 ^ 31 → ((x : Int) % ((2 ^ 32 : Nat) : Int)).toNat = x := fun x hx => by
      rw [Int.emod_eq_of_lt (by omega) (by omega)]
      rfl
    rw [e a ha, e b hb, e _ hlt]
  unfold g_or
  rw [key, i32_toInt (by omega)]
/-- bits that don't meet -/
theorem g_or_add {a c : Int} {p : Nat} (h0 : 0 ≤ a) (h1 : a < 2 ^ p) (h2 : 0 ≤ c) (h3 : a + c * 2 ^ p < 2147483648) : g_or a (c * 2 ^ p) = a + c * 2 ^ p := by
  obtain ⟨a, rfl⟩ := Int.eq_ofNat_of_zero_le h0
  obtain ⟨c, rfl⟩ := Int.eq_ofNat_of_zero_le h2
  have hp : (0 : Int) < 2 ^ p := Int.pow_pos (by omega)
  have h4 : (0 : Int) ≤ c * 2 ^ p := Int.mul_nonneg (by omega) (by omega)
  have e : (c : Int) * 2 ^ p = ((2 ^ p * c : Nat) : Int) := by simp [Int.mul_comm]
  rw [e] at h3 h4 ⊢
  have ha : a < 2 ^ p := by exact_mod_cast h1
  rw [g_or_nat (by omega) (by omega), Nat.or_comm, ← Nat.two_pow_add_eq_or_of_lt ha]
  omega
section SCode
variable {Y : Gl} {X : Cx} {e k n : Nat} {rv : RVt} {iv av : IVt}
theorem s_X3_symbols (K : CodeK rv n k) : OkN Y e mX3_symbols [.ref (gl_b Y + k)] rv iv av n (Same iv av (kl (k + 1))) := o_X3_symbols K ⟨rfl, rfl, rfl⟩
theorem l_X3_forget (C : CX Y X RX3 "forget" cX3_forget 2 none e 0 0) (K : CodeK rv n k) {P : PN} : ∀ (m : Nat) (x : Int) (av : IVt), (kl (k + 1) : Int) - x = m → 0 ≤ x →
    (∀ av', av' = upA av (k + 1) (fun i => if x ≤ i ∧ i < kl (k + 1) then 0 else av (k + 1) i) → P 0 iv av') → L_X3_forget_2 Y X rv n P k x iv av := by
  intro m
  have hk := kl_le (k + 1)
  induction m with
  | zero =>
    intro x av h1 h2 hP
    exact w_X3_forget_2 C K (by omega) ⟨fun _ => hP _ (upA_of (fun i => if_neg (by omega))).symm, fun h => absurd h (by omega)⟩
  | succ m ih =>
    intro x av h1 h2 hP
    refine w_X3_forget_2 C K (by omega) ⟨fun h => absurd h (by omega), fun _ => ⟨by omega, ih _ _ (by omega) (by omega) ?_⟩⟩
    rintro av' rfl
    refine hP _ ?_
    funext k' i
    simp only [upA_app, up2_app]
    grind
theorem s_X3_forget (K : CodeK rv n k) : OkN Y e mX3_forget [.ref (gl_b Y + k)] rv iv av n (fun r iv' av' => iv' = iv ∧ av' = upA av (k + 1) (fun i => if (i : Int) < kl (k + 1) then 0 else av (k + 1) i)) := by
  refine o_X3_forget K fun X C => l_X3_forget C K (kl (k + 1)) 0 av (by omega) (by omega) ?_
  rintro av' rfl
  refine ⟨rfl, ?_⟩
  congr 1
  funext i
  grind
theorem s_X3_count (K : CodeK rv n k) {x : Int} (hx : InR x) (h0 : 0 ≤ x) (h1 : x < kl (k + 1)) (h2 : av (k + 1) x.toNat < 2147483647) : OkN Y e mX3_count [.ref (gl_b Y + k), .int (i32 x)] rv iv av n (fun r iv' av' => iv' = iv ∧ av' = up2 av (k + 1) x.toNat (av (k + 1) x.toNat + 1)) := by
  refine o_X3_count K hx ?_
  grind
theorem s_X3_countOf (K : CodeK rv n k) {x : Int} (hx : InR x) : OkN Y e mX3_countOf [.ref (gl_b Y + k), .int (i32 x)] rv iv av n (Same iv av (if 0 ≤ x ∧ x < kl (k + 1) then av (k + 1) x.toNat else 0)) := by
  refine o_X3_countOf K hx ?_
  grind
theorem s_X3_lengthOf (K : CodeK rv n k) {x : Int} (hx : InR x) : OkN Y e mX3_lengthOf [.ref (gl_b Y + k), .int (i32 x)] rv iv av n (Same iv av (if 0 ≤ x ∧ x < kl (k + 2) then av (k + 2) x.toNat else 0)) := by
  refine o_X3_lengthOf K hx ?_
  grind
theorem s_X3_turnedOf (K : CodeK rv n k) {x : Int} (hx : InR x) : OkN Y e mX3_turnedOf [.ref (gl_b Y + k), .int (i32 x)] rv iv av n (Same iv av (if 0 ≤ x ∧ x < kl (k + 3) then av (k + 3) x.toNat else 0)) := by
  refine o_X3_turnedOf K hx ?_
  grind
theorem s_X3_setLength (K : CodeK rv n k) {x v : Int} (hx : InR x) (hv : InR v) (h0 : 0 ≤ x) (h1 : x < kl (k + 2)) : OkN Y e mX3_setLength [.ref (gl_b Y + k), .int (i32 x), .int (i32 v)] rv iv av n (fun r iv' av' => iv' = iv ∧ av' = up2 av (k + 2) x.toNat v) := by
  refine o_X3_setLength K hx hv ?_
  grind
theorem l_X3_turn {x0 x1 : Int} (C : CX Y X RX3 "turn" cX3_turn 4 (some .int) e 0 0) (h0 : InR x0) (h1 : x1 ≤ 20) {P : PN} : ∀ (m j : Nat), x1 - j = m → 
    P (trn x0 x1.toNat) iv av → L_X3_turn_4 Y X rv n P x0 x1 (trn x0 j) j iv av := by
  intro m
  have hr : ∀ j : Nat, (j : Int) ≤ x1 → trn x0 j < 1048576 ∧ 0 ≤ trn x0 j := fun j hj => by
    have h := trn_le x0 j
    have h2 : (2 : Int) ^ j ≤ 2 ^ 20 := by
      have := Nat.pow_le_pow_right (show 0 < 2 by omega) (show j ≤ 20 by omega)
      exact_mod_cast this
    omega
  induction m with
  | zero =>
    intro j hj hP
    have := hr j (by omega)
    refine w_X3_turn_4 C h0 (by omega) (by omega) (by omega) ⟨fun _ => ?_, fun h => absurd h (by omega)⟩
    rw [show j = x1.toNat by omega]
    exact hP
  | succ m ih =>
    intro j hj hP
    have h3 := hr j (by omega)
    refine w_X3_turn_4 C h0 (by omega) (by omega) (by omega) ⟨fun h => absurd h (by omega), fun _ => ⟨by omega, ?_⟩⟩
    have e1 : g_or (trn x0 j * 2) (x0 / 2 ^ (j : Int).toNat % 2) = trn x0 (j + 1) := by
      have hb := Int.emod_nonneg (x0 / 2 ^ j) (show (2 : Int) ≠ 0 by decide)
      have hb2 := Int.emod_lt_of_pos (x0 / 2 ^ j) (show (0 : Int) < 2 by decide)
      rw [Int.toNat_natCast]
      have := g_or_add (a := x0 / 2 ^ j % 2) (c := trn x0 j) (p := 1) hb (by omega) h3.2 (by omega)
      unfold g_or at this ⊢
      rw [Int32.or_comm]
      rw [show (2 : Int) ^ 1 = 2 from rfl] at this
      rw [this]
      show x0 / 2 ^ j % 2 + trn x0 j * 2 = 2 * trn x0 j + x0 / 2 ^ j % 2
      omega
    rw [e1, show (j : Int) + 1 = ((j + 1 : Nat) : Int) by omega]
    exact ih (j + 1) (by omega) hP
theorem s_X3_turn {x0 x1 : Int} (h0 : InR x0) (h2 : 0 ≤ x1) (h1 : x1 ≤ 20) : OkN Y e mX3_turn [.int (i32 x0), .int (i32 x1)] rv iv av n (Same iv av (trn x0 x1.toNat)) := by
  refine o_X3_turn fun X C => ?_
  exact l_X3_turn C h0 h1 x1.toNat 0 (by omega) ⟨rfl, rfl, rfl⟩
/-- the turned codes, as far as they are made -/
def tcF (f g : Nat → Int) (N : Nat) (L : Int) (s : Nat) : Nat → Int := fun i => if i < N ∧ 1 ≤ f i ∧ (f i < L ∨ (f i = L ∧ i < s)) then trn (cd f N i) (f i).toNat else g i
theorem ac_le15 (f : Nat → Int) {n m : Nat} (hn : n ≤ 288) (hm : m ≤ 15) : 0 ≤ ac f n m ∧ ac f n m ≤ 9437184 := by
  have h := ac_le f n m
  have h2 : (2 : Int) ^ m ≤ 2 ^ 15 := by
    have := Nat.pow_le_pow_right (show 0 < 2 by omega) hm
    exact_mod_cast this
  have h3 : (n : Int) * (2 ^ m - 1) ≤ 288 * (2 ^ 15 - 1) := by
    apply Int.mul_le_mul (by omega) (by omega)
    · have : (0 : Int) < 2 ^ m := Int.pow_pos (by omega)
      omega
    · omega
  omega
theorem tcF_step (f g : Nat → Int) (N : Nat) (L : Int) (s : Nat) (hs : s < N) (h : f s ≠ L) : tcF f g N L (s + 1) = tcF f g N L s := by
  funext i
  unfold tcF
  grind
theorem l_X3_makeCodes12 (C : CX Y X RX3 "makeCodes" cX3_makeCodes 4 none (e + 1) 0 0) (K : CodeK rv n k) (h3 : kl (k + 3) = kl (k + 2)) (hN : kl (k + 2) ≤ 288) {P : PN} {av : IVt} {L : Nat} (hL : 1 ≤ L) (hL15 : L ≤ 15)
    (hP : L_X3_makeCodes_4 Y X rv n P k ((2 * ac (av (k + 2)) (kl (k + 2)) (L - 1) + cn (av (k + 2)) L (kl (k + 2))) * 2) (L + 1) iv (upA av (k + 3) (tcF (av (k + 2)) (av (k + 3)) (kl (k + 2)) L (kl (k + 2))))) : ∀ (m s : Nat), kl (k + 2) - s = m → s ≤ kl (k + 2) →
    L_X3_makeCodes_12 Y X rv n P k (2 * ac (av (k + 2)) (kl (k + 2)) (L - 1) + cn (av (k + 2)) L s) L s iv (upA av (k + 3) (tcF (av (k + 2)) (av (k + 3)) (kl (k + 2)) L s)) := by
  intro m
  have hac := ac_le15 (av (k + 2)) hN (show L - 1 ≤ 15 by omega)
  have hk2 : k + 2 ≠ k + 3 := by omega
  induction m with
  | zero =>
    intro s h1 h2
    have hcn := cn_le (av (k + 2)) L s
    have hs : s = kl (k + 2) := by omega
    subst hs
    exact w_X3_makeCodes_12 C K (by omega) (by omega) (by omega) ⟨fun _ => hP, fun h => absurd h (by omega)⟩
  | succ m ih =>
    intro s h1 h2
    have hcn := cn_le (av (k + 2)) L s
    refine w_X3_makeCodes_12 C K (by omega) (by omega) (by omega) ⟨fun h => absurd h (by omega), fun _ => ⟨fun h => absurd h (by omega), fun _ => ⟨by omega, fun _ => ⟨fun h => ?_, fun h => ?_⟩⟩⟩⟩
    · rw [upA_ne hk2, Int.toNat_natCast] at h
      rw [← tcF_step _ _ _ _ _ (by omega) h]
      have e : cn (av (k + 2)) L s = cn (av (k + 2)) L (s + 1) := by
        show _ = cn (av (k + 2)) L s + _
        rw [if_neg h]
        omega
      rw [e, show (s : Int) + 1 = ((s + 1 : Nat) : Int) by omega]
      exact ih (s + 1) (by omega) (by omega)
    · rw [upA_ne hk2, Int.toNat_natCast] at h
      refine OkN.mono (s_X3_turn (by omega) (by omega) (by omega)) ?_
      rintro r iv' av' hR ⟨rfl, rfl, rfl⟩ hr
      refine ⟨by omega, ?_⟩
      have e : cn (av (k + 2)) L s + 1 = cn (av (k + 2)) L (s + 1) := by
        show _ = cn (av (k + 2)) L s + _
        rw [if_pos h]
      have e2 : up2 (upA av (k + 3) (tcF (av (k + 2)) (av (k + 3)) (kl (k + 2)) L s)) (k + 3) (s : Int).toNat (trn (2 * ac (av (k + 2)) (kl (k + 2)) (L - 1) + cn (av (k + 2)) L s) (L : Int).toNat) = upA av (k + 3) (tcF (av (k + 2)) (av (k + 3)) (kl (k + 2)) L (s + 1)) := by
        rw [up2_upA, upA_upA, upA_eq]
        congr 1
        funext i
        rw [Int.toNat_natCast, Int.toNat_natCast]
        unfold tcF
        by_cases hi : i = s
        · subst hi
          rw [if_pos rfl, if_pos (by omega)]
          unfold cd
          rw [h, Int.toNat_natCast]
        · rw [if_neg hi]
          grind
      rw [e2, show 2 * ac (av (k + 2)) (kl (k + 2)) (L - 1) + cn (av (k + 2)) L s + 1 = 2 * ac (av (k + 2)) (kl (k + 2)) (L - 1) + cn (av (k + 2)) L (s + 1) by omega, show (s : Int) + 1 = ((s + 1 : Nat) : Int) by omega]
      exact ih (s + 1) (by omega) (by omega)
theorem l_X3_makeCodes4 (C : CX Y X RX3 "makeCodes" cX3_makeCodes 4 none (e + 1) 0 0) (K : CodeK rv n k) (h3 : kl (k + 3) = kl (k + 2)) (hN : kl (k + 2) ≤ 288) {P : PN} {av : IVt}
    (hP : P 0 iv (upA av (k + 3) (tcF (av (k + 2)) (av (k + 3)) (kl (k + 2)) 16 0))) : ∀ (m L : Nat), 16 - L = m → L ≤ 16 → 1 ≤ L →
    L_X3_makeCodes_4 Y X rv n P k (2 * ac (av (k + 2)) (kl (k + 2)) (L - 1)) L iv (upA av (k + 3) (tcF (av (k + 2)) (av (k + 3)) (kl (k + 2)) L 0)) := by
  intro m
  induction m with
  | zero =>
    intro L h1 h2 h4
    have : L = 16 := by omega
    subst this
    exact w_X3_makeCodes_4 C K (by omega) ⟨fun _ => hP, fun h => absurd h (by omega)⟩
  | succ m ih =>
    intro L h1 h2 h4
    refine w_X3_makeCodes_4 C K (by omega) ⟨fun h => absurd h (by omega), fun _ => ?_⟩
    have g := l_X3_makeCodes12 (iv := iv) (P := P) (av := av) C K h3 hN h4 (by omega) ?_ (kl (k + 2)) 0 (by omega) (by omega)
    · simpa [cn] using g
    · have g2 := ih (L + 1) (by omega) (by omega) (by omega)
      have e1 : (2 * ac (av (k + 2)) (kl (k + 2)) (L - 1) + cn (av (k + 2)) L (kl (k + 2))) * 2 = 2 * ac (av (k + 2)) (kl (k + 2)) (L + 1 - 1) := by
        obtain ⟨q, rfl⟩ : ∃ q, L = q + 1 := ⟨L - 1, by omega⟩
        show _ = 2 * (2 * ac _ _ q + cn _ _ _)
        rw [show q + 1 - 1 = q by omega, Int.mul_comm]
        rfl
      have e2 : tcF (av (k + 2)) (av (k + 3)) (kl (k + 2)) L (kl (k + 2)) = tcF (av (k + 2)) (av (k + 3)) (kl (k + 2)) ((L + 1 : Nat) : Int) 0 := by
        funext i
        unfold tcF
        grind
      rw [e1, e2]
      exact g2
theorem s_X3_makeCodes (K : CodeK rv n k) (h3 : kl (k + 3) = kl (k + 2)) (hN : kl (k + 2) ≤ 288) : OkN Y (e + 1) mX3_makeCodes [.ref (gl_b Y + k)] rv iv av n (fun r iv' av' => iv' = iv ∧ av' = upA av (k + 3) (tcF (av (k + 2)) (av (k + 3)) (kl (k + 2)) 16 0)) := by
  refine o_X3_makeCodes K fun X C => ?_
  have g := l_X3_makeCodes4 (iv := iv) (P := fun r iv' av' => iv' = iv ∧ av' = upA av (k + 3) (tcF (av (k + 2)) (av (k + 3)) (kl (k + 2)) 16 0)) (av := av) C K h3 hN ⟨rfl, rfl⟩ 15 1 (by omega) (by omega) (by omega)
  have e : upA av (k + 3) (tcF (av (k + 2)) (av (k + 3)) (kl (k + 2)) ((1 : Nat) : Int) 0) = av := by
    apply upA_of
    intro i
    unfold tcF
    grind
  rw [e] at g
  simpa [ac] using g
/-- the end of what isn't 0, but a least -/
def nd (f : Nat → Int) (least : Nat) : Nat → Nat
  | 0 => 0
  | m + 1 => if m + 1 ≤ least ∨ f m ≠ 0 then m + 1 else nd f least m
theorem l_X3_used (C : CX Y X RX3 "used" cX3_used 2 (some .int) e 0 0) (K : CodeK rv n k) {P : PN} : ∀ (m : Nat), m ≤ kl (k + 2) → P (nd (av (k + 2)) 0 m) iv av → L_X3_used_6 Y X rv n P k m iv av := by
  have hk := kl_le (k + 2)
  intro m
  induction m with
  | zero =>
    intro h hP
    exact w_X3_used_6 C K (by omega) ⟨fun _ => hP, fun h => absurd h (by omega)⟩
  | succ m ih =>
    intro h hP
    refine w_X3_used_6 C K (by omega) ⟨fun h => absurd h (by omega), fun _ => ⟨by omega, fun _ => ⟨fun h => ?_, fun h => ?_⟩⟩⟩
    · rw [show (((m + 1 : Nat) : Int) - 1).toNat = m by omega] at h
      rw [nd, if_pos (Or.inr h)] at hP
      exact hP
    · rw [show (((m + 1 : Nat) : Int) - 1).toNat = m by omega] at h
      rw [nd, if_neg (by omega)] at hP
      rw [show ((m + 1 : Nat) : Int) + -1 = m by omega]
      exact ih (by omega) hP
theorem s_X3_used (K : CodeK rv n k) : OkN Y e mX3_used [.ref (gl_b Y + k)] rv iv av n (Same iv av (nd (av (k + 2)) 0 (kl (k + 2)))) :=
  o_X3_used K fun X C => l_X3_used C K _ (Nat.le_refl _) ⟨rfl, rfl, rfl⟩
theorem l_X3_bitsFor {k1 : Nat} (C : CX Y X RX3 "bitsFor" cX3_bitsFor 4 (some .int) (e + 1) 0 0) (K : CodeK rv n k) (K1 : CodeK rv n k1) {g : Nat → Int} (hg : ∀ s, s < kl (k + 2) → g s = av (k + 2) s * (if s < kl (k1 + 1) then av (k1 + 1) s else 0)) (hb : ∀ s, s ≤ kl (k + 2) → InR (sm g s)) {P : PN} (hP : P (sm g (kl (k + 2))) iv av) : ∀ (m s : Nat), kl (k + 2) - s = m → s ≤ kl (k + 2) →
    L_X3_bitsFor_4 Y X rv n P k k1 (sm g s) s iv av := by
  have hk := kl_le (k + 2)
  intro m
  induction m with
  | zero =>
    intro s h1 h2
    have : s = kl (k + 2) := by omega
    subst this
    exact w_X3_bitsFor_4 C K K1 (hb _ h2) (by omega) ⟨fun _ => hP, fun h => absurd h (by omega)⟩
  | succ m ih =>
    intro s h1 h2
    refine w_X3_bitsFor_4 C K K1 (hb _ h2) (by omega) ⟨fun h => absurd h (by omega), fun _ => ⟨by omega, fun _ => ?_⟩⟩
    refine OkN.mono (s_X3_countOf K1 (by omega)) ?_
    rintro r iv' av' hR ⟨rfl, rfl, rfl⟩ hr
    have e : sm g s + av' (k + 2) (s : Int).toNat * (if 0 ≤ (s : Int) ∧ (s : Int) < kl (k1 + 1) then av' (k1 + 1) (s : Int).toNat else 0) = sm g (s + 1) := by
      show _ = sm g s + g s
      rw [hg s (by omega), Int.toNat_natCast]
      congr 2
      simp
    rw [e, show (s : Int) + 1 = ((s + 1 : Nat) : Int) by omega]
    exact ih (s + 1) (by omega) (by omega)
theorem s_X3_bitsFor {k1 : Nat} (K : CodeK rv n k) (K1 : CodeK rv n k1) {g : Nat → Int} (hg : ∀ s, s < kl (k + 2) → g s = av (k + 2) s * (if s < kl (k1 + 1) then av (k1 + 1) s else 0)) (hb : ∀ s, s ≤ kl (k + 2) → InR (sm g s)) :
    OkN Y (e + 1) mX3_bitsFor [.ref (gl_b Y + k), .ref (gl_b Y + k1)] rv iv av n (Same iv av (sm g (kl (k + 2)))) :=
  o_X3_bitsFor K K1 fun X C => l_X3_bitsFor C K K1 hg hb ⟨rfl, rfl, rfl⟩ (kl (k + 2)) 0 (by omega) (by omega)
end SCode
