/-! Files and Layout. -/
theorem bk_2 : BytesK 2 := ⟨rfl, rfl, by decide, rfl⟩
theorem bk_10 : BytesK 10 := ⟨rfl, rfl, by decide, rfl⟩
theorem bk_12 : BytesK 12 := ⟨rfl, rfl, by decide, rfl⟩
theorem bk_14 : BytesK 14 := ⟨rfl, rfl, by decide, rfl⟩
theorem bk_16 : BytesK 16 := ⟨rfl, rfl, by decide, rfl⟩
theorem bk_18 : BytesK 18 := ⟨rfl, rfl, by decide, rfl⟩
theorem bk_20 : BytesK 20 := ⟨rfl, rfl, by decide, rfl⟩
theorem ck_33 : CodeK RV 116 33 := ⟨rfl, rfl, rfl, rfl, by decide, rfl, rfl, rfl⟩
theorem ck_37 : CodeK RV 116 37 := ⟨rfl, rfl, rfl, rfl, by decide, rfl, rfl, rfl⟩
theorem ck_41 : CodeK RV 116 41 := ⟨rfl, rfl, rfl, rfl, by decide, rfl, rfl, rfl⟩
theorem ck_45 : CodeK RV 116 45 := ⟨rfl, rfl, rfl, rfl, by decide, rfl, rfl, rfl⟩
theorem ck_49 : CodeK RV 116 49 := ⟨rfl, rfl, rfl, rfl, by decide, rfl, rfl, rfl⟩
theorem rk_59 : ReadCK 59 := ⟨rfl, rfl, rfl, rfl, by decide, rfl, rfl, rfl, rfl, rfl, rfl⟩
theorem rk_63 : ReadCK 63 := ⟨rfl, rfl, rfl, rfl, by decide, rfl, rfl, rfl, rfl, rfl, rfl⟩
theorem rk_67 : ReadCK 67 := ⟨rfl, rfl, rfl, rfl, by decide, rfl, rfl, rfl, rfl, rfl, rfl⟩
theorem tk_109 : TreeK 109 := ⟨rfl, rfl, by decide, rfl, rfl⟩
theorem tk_111 : TreeK 111 := ⟨rfl, rfl, by decide, rfl, rfl⟩
theorem tk_113 : TreeK 113 := ⟨rfl, rfl, by decide, rfl, rfl⟩
theorem lk_RV : LayK RV 116 := ⟨by decide, rfl, rfl, rfl, rfl⟩
section SFiles
variable {Y : Gl} {X : Cx} {e : Nat} {iv av : IVt}
/-- the files of the class lie one behind the other -/
def FI (iv av : IVt) : Prop := av 4 0 = 0 ∧ (∀ i : Nat, i < 64 → av 4 i ≤ av 4 (i + 1)) ∧ av 4 64 = iv 2 1 ∧ iv 2 1 ≤ 65536
theorem FI.mono (h : FI iv av) : ∀ (d i : Nat), i + d ≤ 64 → av 4 i ≤ av 4 (i + d) := by
  intro d
  induction d with
  | zero => intro i _; exact Int.le_refl _
  | succ d ih =>
    intro i hi
    have h1 := ih i (by omega)
    have h2 := h.2.1 (i + d) (by omega)
    rw [show i + (d + 1) = i + d + 1 by omega]
    omega
theorem FI.le (h : FI iv av) {i j : Nat} (hij : i ≤ j) (hj : j ≤ 64) : av 4 i ≤ av 4 j := by
  have := h.mono (j - i) i (by omega)
  rwa [show i + (j - i) = j by omega] at this
theorem FI.bd (h : FI iv av) {i : Nat} (hj : i ≤ 64) : 0 ≤ av 4 i ∧ av 4 i ≤ iv 2 1 := by
  have h1 := h.le (Nat.zero_le i) hj
  have h2 := h.le hj (Nat.le_refl 64)
  rw [h.1] at h1
  rw [h.2.2.1] at h2
  exact ⟨h1, h2⟩
theorem s_X4_bytes : OkN Y e mX4_bytes [.ref (gl_b Y + 1)] RV iv av 116 (Same iv av 2) := o_X4_bytes ⟨rfl, rfl, rfl⟩
theorem s_X4_room (h : 0 ≤ iv 2 1) : OkN Y (e + 1) mX4_room [.ref (gl_b Y + 1)] RV iv av 116 (Same iv av (65536 - iv 2 1)) := by
  refine o_X4_room (OkN.mono (s_X2_room bk_2 h) ?_)
  rintro r iv' av' hR ⟨rfl, rfl, rfl⟩ hr
  exact ⟨rfl, rfl, rfl⟩
theorem s_X4_start {x : Int} (h0 : 0 ≤ x) (h1 : x ≤ 64) : OkN Y e mX4_start [.ref (gl_b Y + 1), .int (i32 x)] RV iv av 116 (Same iv av (av 4 x.toNat)) := by
  refine o_X4_start (by omega) ?_
  grind
theorem s_X4_count (h : FI iv av) {x : Int} (h0 : 0 ≤ x) (h1 : x < 64) : OkN Y (e + 1) mX4_count [.ref (gl_b Y + 1), .int (i32 x)] RV iv av 116 (Same iv av (av 4 (x.toNat + 1) - av 4 x.toNat)) := by
  refine o_X4_count (by omega) ⟨by omega, OkN.mono (s_X4_start (by omega) (by omega)) ?_⟩
  rintro r iv' av' hR ⟨rfl, rfl, rfl⟩ hr
  refine OkN.mono (s_X4_start (by omega) (by omega)) ?_
  rintro r iv' av' hR ⟨rfl, rfl, rfl⟩ hr
  have b1 := h.bd (show x.toNat ≤ 64 by omega)
  have b2 := h.bd (show x.toNat + 1 ≤ 64 by omega)
  have b3 := h.2.2.2
  rw [show (x + 1).toNat = x.toNat + 1 by omega]
  exact ⟨by omega, rfl, rfl, rfl⟩
theorem s_X4_set {x b : Int} (hb : InR b) (h0 : 0 ≤ x) (h1 : x < iv 2 1) (h2 : iv 2 1 ≤ 65536) : OkN Y (e + 1) mX4_set [.ref (gl_b Y + 1), .int (i32 x), .int (i32 b)] RV iv av 116 (fun r iv' av' => iv' = iv ∧ av' = up2 av 3 x.toNat (bm8 b)) :=
  o_X4_set (by omega) hb (OkN.mono (s_X2_set bk_2 (by omega) h0 h1 h2) fun r iv' av' hR h => h)
theorem l_X4_shiftBehind {x2 : Int} (C : CX Y X RX4 "shiftBehind" cX4_shiftBehind 4 none (e + 1) 0 0) {P : PN} : ∀ (m : Nat) (x3 : Int) (av : IVt), 65 - x3 = m → 0 ≤ x3 → (∀ i : Nat, x3 ≤ i → i < 65 → InR (av 4 i + x2)) →
    (∀ av', av' = upA av 4 (fun i => if x3 ≤ i ∧ i < 65 then av 4 i + x2 else av 4 i) → P 0 iv av') → L_X4_shiftBehind_8 Y X P x2 x3 iv av := by
  intro m
  induction m with
  | zero =>
    intro x3 av h1 h2 h3 hP
    exact w_X4_shiftBehind_8 C (by omega) ⟨fun _ => hP _ (upA_of (fun i => if_neg (by omega))).symm, fun h => absurd h (by omega)⟩
  | succ m ih =>
    intro x3 av h1 h2 h3 hP
    have h5 := h3 x3.toNat (by omega) (by omega)
    refine w_X4_shiftBehind_8 C (by omega) ⟨fun h => absurd h (by omega), fun _ => ⟨by omega, fun _ => ⟨h5, ih _ _ (by omega) (by omega) ?_ ?_⟩⟩⟩
    · intro i hi hi2
      have := h3 i (by omega) hi2
      rw [up2_nj (by omega)]
      exact this
    · rintro av' rfl
      refine hP _ ?_
      funext k' i
      simp only [upA_app, up2_app]
      grind
theorem s_X4_shiftBehind {f n : Int} (h0 : 0 ≤ f) (h1 : f < 64) (hi : ∀ i : Nat, f + 1 ≤ i → i < 65 → InR (av 4 i + n)) : OkN Y (e + 1) mX4_shiftBehind [.ref (gl_b Y + 1), .int (i32 f), .int (i32 n)] RV iv av 116
    (fun r iv' av' => iv' = iv ∧ av' = upA av 4 (fun i => if f + 1 ≤ i ∧ i < 65 then av 4 i + n else av 4 i)) := by
  refine o_X4_shiftBehind (by omega) fun X C => ?_
  rw [show max f 0 = f by omega]
  exact l_X4_shiftBehind C (65 - (f + 1)).toNat (f + 1) av (by omega) (by omega) hi fun av' h => ⟨rfl, h⟩
/-- the class's files behind a file's growing -/
def fOpenI (iv : IVt) (n : Int) : IVt := up2 iv 2 1 (iv 2 1 + n)
def fOpenA (iv av : IVt) (f : Nat) (n : Int) : IVt := upA (upA av 3 (va_cpy (av 3) (av 3) (av 4 (f + 1)).toNat (av 4 (f + 1) + n).toNat (iv 2 1 - av 4 (f + 1)).toNat)) 4 (fun i => if f + 1 ≤ i ∧ i < 65 then av 4 i + n else av 4 i)
theorem s_X4_open (h : FI iv av) {f n : Int} (h0 : 0 ≤ f) (h1 : f < 64) (h2 : 0 ≤ n) (h3 : iv 2 1 + n ≤ 65536) : OkN Y (e + 2) mX4_open [.ref (gl_b Y + 1), .int (i32 f), .int (i32 n)] RV iv av 116
    (fun r iv' av' => r = av 4 (f.toNat + 1) ∧ iv' = fOpenI iv n ∧ av' = fOpenA iv av f.toNat n) := by
  have b0 := h.bd (Nat.le_refl 64)
  have b1 := h.bd (show f.toNat + 1 ≤ 64 by omega)
  refine o_X4_open (by omega) (by omega) ⟨by omega, OkN.mono (s_X4_start (by omega) (by omega)) ?_⟩
  rintro r iv' av' hR ⟨rfl, rfl, rfl⟩ hr
  rw [show (f + 1).toNat = f.toNat + 1 by omega]
  refine OkN.mono (s_X2_open bk_2 (by omega) (by omega) b1.1 b1.2 h2 h3) ?_
  rintro r iv2 av2 hR ⟨rfl, rfl⟩
  refine OkN.mono (s_X4_shiftBehind h0 h1 ?_) ?_
  · intro i hi hi2
    have := h.bd (show i ≤ 64 by omega)
    rw [upA_ne (by decide)]
    omega
  · rintro r iv2 av2 hR ⟨rfl, rfl⟩
    refine ⟨rfl, rfl, ?_⟩
    unfold fOpenA
    congr 1
    funext i
    rw [upA_ne (by decide)]
    grind
def fDropI (iv : IVt) (n : Int) : IVt := up2 iv 2 1 (iv 2 1 - n)
def fDropA (iv av : IVt) (f : Nat) : IVt := upA (upA av 3 (va_cpy (av 3) (av 3) (av 4 (f + 1)).toNat (av 4 f).toNat (iv 2 1 - av 4 (f + 1)).toNat)) 4 (fun i => if f + 1 ≤ i ∧ i < 65 then av 4 i - (av 4 (f + 1) - av 4 f) else av 4 i)
theorem s_X4_drop (h : FI iv av) {f : Int} (h0 : 0 ≤ f) (h1 : f < 64) : OkN Y (e + 2) mX4_drop [.ref (gl_b Y + 1), .int (i32 f)] RV iv av 116
    (fun r iv' av' => iv' = fDropI iv (av 4 (f.toNat + 1) - av 4 f.toNat) ∧ av' = fDropA iv av f.toNat) := by
  have b0 := h.bd (Nat.le_refl 64)
  have b1 := h.bd (show f.toNat + 1 ≤ 64 by omega)
  have b2 := h.bd (show f.toNat ≤ 64 by omega)
  have b3 := h.le (show f.toNat ≤ f.toNat + 1 by omega) (by omega)
  have b4 := h.2.2.2
  refine o_X4_drop (by omega) (OkN.mono (s_X4_count h h0 h1) ?_)
  rintro r iv' av' hR ⟨rfl, rfl, rfl⟩ hr
  refine OkN.mono (s_X4_start h0 (by omega)) ?_
  rintro r iv' av' hR ⟨rfl, rfl, rfl⟩ hr
  refine OkN.mono (s_X2_close bk_2 (by omega) (by omega) b2.1 (by omega) (by omega) b4) ?_
  rintro r iv2 av2 hR ⟨rfl, rfl⟩
  refine ⟨by omega, OkN.mono (s_X4_shiftBehind h0 h1 ?_) ?_⟩
  · intro i hi hi2
    have := h.bd (show i ≤ 64 by omega)
    have := h.le (show f.toNat + 1 ≤ i by omega) (by omega)
    rw [upA_ne (by decide)]
    omega
  · rintro r iv2 av2 hR ⟨rfl, rfl⟩
    refine ⟨rfl, ?_⟩
    unfold fDropA
    rw [show av' 4 f.toNat + (av' 4 (f.toNat + 1) - av' 4 f.toNat) = av' 4 (f.toNat + 1) by omega, show iv' 2 1 - av' 4 f.toNat - (av' 4 (f.toNat + 1) - av' 4 f.toNat) = iv' 2 1 - av' 4 (f.toNat + 1) by omega]
    congr 1
    funext i
    rw [upA_ne (by decide)]
    grind
/-- two files of the class with the same bytes -/
def cTw (av : IVt) (o f : Nat) : Prop := av 4 (o + 1) - av 4 o = av 4 (f + 1) - av 4 f ∧ ∀ j : Nat, j < av 4 (f + 1) - av 4 f → av 3 ((av 4 o).toNat + j) = av 3 ((av 4 f).toNat + j)
theorem l_X4_twin (C : CX Y X RX4 "twin" cX4_twin 4 (some .int) (e + 2) 0 0) (h : FI iv av) {f : Nat} (hf : f < 64) (hz : av 4 (f + 1) - av 4 f ≠ 0) {P : PN}
    (hP : ∀ o, o < f → cTw av o f → (∀ o', o' < o → ¬ cTw av o' f) → P o iv av) (hN : (∀ o, o < f → ¬ cTw av o f) → P (-1) iv av) : ∀ (m o : Nat), f - o = m → o ≤ f → (∀ o', o' < o → ¬ cTw av o' f) → L_X4_twin_14 Y X P f (av 4 (f + 1) - av 4 f) o iv av := by
  have b1 := h.bd (show f + 1 ≤ 64 by omega)
  have b2 := h.bd (show f ≤ 64 by omega)
  have b3 := h.le (show f ≤ f + 1 by omega) (by omega)
  have b4 := h.2.2.2
  intro m
  induction m with
  | zero =>
    intro o h1 h2 h3
    exact w_X4_twin_14 C (by omega) (by omega) (by omega) ⟨fun _ => hN fun o' ho' => h3 o' (by omega), fun h => absurd h (by omega)⟩
  | succ m ih =>
    intro o h1 h2 h3
    have c1 := h.bd (show o + 1 ≤ 64 by omega)
    have c2 := h.bd (show o ≤ 64 by omega)
    have c3 := h.le (show o ≤ o + 1 by omega) (by omega)
    have next : ¬ cTw av o f → L_X4_twin_14 Y X P f (av 4 (f + 1) - av 4 f) ((o : Int) + 1) iv av := fun hn => by
      have := ih (o + 1) (by omega) (by omega) (fun o' ho' => by
        by_cases hh : o' = o
        · subst hh; exact hn
        · exact h3 o' (by omega))
      rwa [show ((o + 1 : Nat) : Int) = (o : Int) + 1 by omega] at this
    refine w_X4_twin_14 C (by omega) (by omega) (by omega) ⟨fun h => absurd h (by omega), fun _ => OkN.mono (s_X4_count h (by omega) (by omega)) ?_⟩
    rintro r iv' av' hR ⟨rfl, rfl, rfl⟩ hr
    rw [Int.toNat_natCast]
    refine ⟨fun hne => next fun ht => hne ht.1, fun heq => OkN.mono (s_X4_start (by omega) (by omega)) ?_⟩
    rintro r iv' av' hR ⟨rfl, rfl, rfl⟩ hr
    refine OkN.mono (s_X4_start (by omega) (by omega)) ?_
    rintro r iv' av' hR ⟨rfl, rfl, rfl⟩ hr
    rw [Int.toNat_natCast, Int.toNat_natCast]
    refine OkN.mono (s_X2_sameFrom bk_2 (by omega) (by omega) (by omega) c2.1 b2.1 (by omega) (by omega) (by omega) b4) ?_
    rintro r iv' av' hR ⟨rfl, rfl, rfl⟩ hr
    have q1 := pre_le (av' (2 + 1)) (av' 4 (f + 1) - av' 4 f).toNat (av' 4 o).toNat (av' 4 f).toNat
    have q2 := pre_same (av' (2 + 1)) (av' 4 (f + 1) - av' 4 f).toNat (av' 4 o).toNat (av' 4 f).toNat
    have q3 := pre_diff (av' (2 + 1)) (av' 4 (f + 1) - av' 4 f).toNat (av' 4 o).toNat (av' 4 f).toNat
    refine ⟨fun hne => next fun ht => ?_, fun heq2 => hP o (by omega) ⟨heq, fun j hj => q2 j (by omega)⟩ h3⟩
    exact q3 (by omega) (ht.2 _ (by omega))
theorem s_X4_twin (h : FI iv av) {f : Nat} (hf : f < 64) : OkN Y (e + 2) mX4_twin [.ref (gl_b Y + 1), .int (i32 f)] RV iv av 116
    (fun r iv' av' => iv' = iv ∧ av' = av ∧ ((r = -1 ∧ (av 4 (f + 1) - av 4 f = 0 ∨ ∀ o, o < f → ¬ cTw av o f)) ∨ (∃ o : Nat, r = o ∧ o < f ∧ av 4 (f + 1) - av 4 f ≠ 0 ∧ cTw av o f ∧ ∀ o', o' < o → ¬ cTw av o' f))) := by
  refine o_X4_twin (by omega) fun X C => OkN.mono (s_X4_count h (by omega) (by omega)) ?_
  rintro r iv' av' hR ⟨rfl, rfl, rfl⟩ hr
  rw [Int.toNat_natCast]
  refine ⟨fun hne => ?_, fun h0 => ⟨rfl, rfl, Or.inl ⟨rfl, Or.inl h0⟩⟩⟩
  exact l_X4_twin C h hf hne (fun o ho ht hn => ⟨rfl, rfl, Or.inr ⟨o, rfl, ho, hne, ht, hn⟩⟩) (fun hn => ⟨rfl, rfl, Or.inl ⟨rfl, Or.inr hn⟩⟩) f 0 (by omega) (by omega) (fun o' ho' => absurd ho' (Nat.not_lt_zero _))
end SFiles
