/-! The reference's files. -/
section SRFiles
variable {Y : Gl} {X : Cx} {e : Nat} {iv av : IVt}
theorem s_X13_isFile {x : Int} (hx : InR x) : OkN Y e mX13_isFile [.int (i32 x)] RV iv av 116 (Same iv av (if 0 ≤ x ∧ x < 64 then 1 else 0)) := by
  refine o_X13_isFile hx ?_
  grind
theorem s_X11_isFile {x : Int} (hx : InR x) : OkN Y e mX11_isFile [.int (i32 x)] RV iv av 116 (Same iv av (if 0 ≤ x ∧ x < 64 then 1 else 0)) := by
  refine o_X11_isFile hx ?_
  grind
/-- where a file of the reference begins when it grows, and where its new bytes come -/
def rAt (iv av : IVt) (f : Nat) : Int := if av 76 f = 0 then iv 73 5 else av 75 f
def rFrom (iv av : IVt) (f : Nat) : Int := rAt iv av f + av 76 f
def exI (iv : IVt) (n : Int) : IVt := up2 iv 73 5 (iv 73 5 + n)
def exA (iv av : IVt) (f : Nat) (n : Int) : IVt :=
  upA (upA (upA av 77 (fun i => if rFrom iv av f + n ≤ i ∧ i < iv 73 5 + n then av 77 ((i : Int) - n).toNat else av 77 i)) 75 (fun k => if k = f then rAt iv av f else if k < 64 ∧ rFrom iv av f ≤ av 75 k then av 75 k + n else av 75 k)) 76 (fun k => if k = f then av 76 f + n else av 76 k)
theorem l_X13_extend91 {f : Nat} {n fr : Int} (C : CX Y X RX13 "extend" cX13_extend 5 (some .int) e 0 0) (hf : f < 64) (hfr : InR fr) (hn : 0 ≤ n ∧ n ≤ 65536) {P : PN} : ∀ (m x : Nat) (av : IVt), 64 - x = m → x ≤ 64 → (0 ≤ av 76 f ∧ av 76 f ≤ 65536) → (∀ k : Nat, x ≤ k → k < 64 → av 75 k ≤ 65536) →
    (∀ av', av' = upA (upA av 75 (fun k => if x ≤ k ∧ k < 64 ∧ k ≠ f ∧ fr ≤ av 75 k then av 75 k + n else av 75 k)) 76 (fun k => if k = f then av 76 f + n else av 76 k) → P fr iv av') → L_X13_extend_91 Y X P f n fr x iv av := by
  intro m
  induction m with
  | zero =>
    intro x av h1 h2 h3 h4 hP
    refine w_X13_extend_91 C (by omega) hfr (by omega) ⟨fun _ => ⟨by omega, fun _ => ⟨by rw [Int.toNat_natCast]; omega, ?_⟩⟩, fun h => absurd h (by omega)⟩
    refine hP _ ?_
    rw [Int.toNat_natCast]
    funext k i
    simp only [upA_app, up2_app]
    grind
  | succ m ih =>
    intro x av h1 h2 h3 h4 hP
    have h5 := h4 x (Nat.le_refl x) (by omega)
    refine w_X13_extend_91 C (by omega) hfr (by omega) ⟨fun h => absurd h (by omega), fun _ => ⟨fun he => ⟨by omega, fun hi => ?_⟩, fun hne => ⟨by omega, fun hi => ⟨fun hlt => ?_, fun hge => ⟨by rw [Int.toNat_natCast] at *; omega, ?_⟩⟩⟩⟩⟩
    all_goals rw [Int.toNat_natCast] at *
    · rw [up2_self, show (x : Int) + 1 = ((x + 1 : Nat) : Int) by omega]
      refine ih (x + 1) _ (by omega) (by omega) h3 (fun k hk => h4 k (by omega)) ?_
      rintro av' rfl
      refine hP _ ?_
      congr 2
      funext k
      grind
    · rw [up2_self, show (x : Int) + 1 = ((x + 1 : Nat) : Int) by omega]
      refine ih (x + 1) _ (by omega) (by omega) h3 (fun k hk => h4 k (by omega)) ?_
      rintro av' rfl
      refine hP _ ?_
      congr 2
      funext k
      grind
    · rw [show (x : Int) + 1 = ((x + 1 : Nat) : Int) by omega]
      refine ih (x + 1) _ (by omega) (by omega) h3 (fun k hk hk2 => ?_) ?_
      · rw [up2_nj (by omega)]
        exact h4 k (by omega) hk2
      · rintro av' rfl
        refine hP _ ?_
        funext k i
        simp only [upA_app, up2_app]
        grind
theorem l_X13_extend50 {f : Nat} {n fr : Int} (C : CX Y X RX13 "extend" cX13_extend 5 (some .int) e 0 0) (hf : f < 64) (hfr : 0 ≤ fr ∧ fr ≤ 65536) (hn : 0 ≤ n ∧ n ≤ 65536) (hall : 0 ≤ iv 73 5 ∧ iv 73 5 + n ≤ 65536) {P : PN} : ∀ (m : Nat) (x : Int) (av : IVt), x + 1 - fr = m → x < iv 73 5 → Rng iv av → (0 ≤ av 76 f ∧ av 76 f ≤ 65536) → (∀ k : Nat, k < 64 → av 75 k ≤ 65536) →
    (∀ av', av' = upA (upA (upA av 77 (fun i => if fr + n ≤ i ∧ i < x + 1 + n then av 77 ((i : Int) - n).toNat else av 77 i)) 75 (fun k => if k < 64 ∧ k ≠ f ∧ fr ≤ av 75 k then av 75 k + n else av 75 k)) 76 (fun k => if k = f then av 76 f + n else av 76 k) → P fr (up2 iv 73 5 (iv 73 5 + n)) av') → L_X13_extend_50 Y X P f n fr x iv av := by
  intro m
  induction m with
  | zero =>
    intro x av h1 h2 hR h3 h4 hP
    refine w_X13_extend_50 C (by omega) (by omega) ⟨fun _ => fun _ => ⟨by omega, ?_⟩, fun h => absurd h (by omega)⟩
    refine l_X13_extend91 C hf (by omega) hn 64 0 av (by omega) (by omega) h3 (fun k _ hk => h4 k hk) ?_
    rintro av' rfl
    refine hP _ ?_
    rw [upA_of (f := av) (k := 77) (fun i => if_neg (by omega))]
    congr 2
    funext k
    grind
  | succ m ih =>
    intro x av h1 h2 hR h3 h4 hP
    refine w_X13_extend_50 C (by omega) (by omega) ⟨fun h => absurd h (by omega), fun _ => ⟨by omega, fun hb => ⟨by omega, ?_⟩⟩⟩
    rw [bm8_id hb, show x + -1 = x - 1 by omega]
    refine ih (x - 1) _ (by omega) (by omega) (hR.putA (k := 77) hb) h3 h4 ?_
    rintro av' rfl
    refine hP _ ?_
    funext k i
    simp only [upA_app, up2_app]
    by_cases hk : k = 77
    · subst hk
      by_cases hi : i = (x + n).toNat
      · subst hi
        have e1 : (((x + n).toNat : Int) - n).toNat = x.toNat := by omega
        rw [e1]
        have e2 : fr + n ≤ ((x + n).toNat : Int) ∧ ((x + n).toNat : Int) < x + 1 + n := by omega
        simp [e2]
        grind
      · have e1 : ((i : Int) - n).toNat ≠ (x + n).toNat ∨ ¬ (fr + n ≤ (i : Int) ∧ (i : Int) < x - 1 + 1 + n) := by omega
        grind
    · simp [hk]
theorem s_X13_extend {f : Nat} {n : Int} (hf : f < 64) (hn : 0 ≤ n) (hall : 0 ≤ iv 73 5) (hall2 : iv 73 5 + n ≤ 65536) (hh : 0 ≤ av 76 f) (ha : 0 ≤ av 75 f ∧ av 75 f + av 76 f ≤ iv 73 5) (h4 : ∀ k : Nat, k < 64 → av 75 k ≤ iv 73 5) :
    OkN Y e mX13_extend [.ref (gl_b Y + 73), .int (i32 f), .int (i32 n)] RV iv av 116 (fun r iv' av' => r = rFrom iv av f ∧ iv' = exI iv n ∧ av' = exA iv av f n) := by
  refine OkN.rng fun hR => o_X13_extend fun X C => ⟨by omega, fun _ => ⟨fun hne => ?_, fun h0 => ?_⟩⟩
  all_goals rw [Int.toNat_natCast] at *
  · intro _ _
    have e1 : rAt iv av f = av 75 f := if_neg hne
    rw [up2_self]
    have e2 : av 75 f + av 76 f = rFrom iv av f := by unfold rFrom; rw [e1]
    rw [e2]
    refine l_X13_extend50 C hf (by omega) (by omega) (by omega) (iv 73 5 - rFrom iv av f).toNat (iv 73 5 - 1) av (by omega) (by omega) hR (by omega) (fun k hk => by have := h4 k hk; omega) ?_
    rintro av' rfl
    refine ⟨rfl, rfl, ?_⟩
    unfold exA
    rw [e1, show iv 73 5 - 1 + 1 + n = iv 73 5 + n by omega]
    congr 2
    funext k
    grind
  · intro _
    have e1 : rAt iv av f = iv 73 5 := if_pos h0
    have e2 : iv 73 5 + av 76 f = rFrom iv av f := by unfold rFrom; rw [e1]
    rw [e2]
    refine l_X13_extend50 C hf (by omega) (by omega) (by omega) (iv 73 5 - rFrom iv av f).toNat (iv 73 5 - 1) _ (by omega) (by omega) (hR.putA (k := 75) (hR.1 73 5)) (by rw [up2_ne (by decide)]; omega) (fun k hk => ?_) ?_
    · rw [up2_at]
      have := h4 k hk
      split <;> omega
    · rintro av' rfl
      refine ⟨rfl, rfl, ?_⟩
      unfold exA
      rw [e1, show iv 73 5 - 1 + 1 + n = iv 73 5 + n by omega]
      funext k i
      simp only [upA_app, up2_app]
      grind
/-- the reference's files behind a clear -/
def clI (iv av : IVt) (f : Nat) : IVt := up2 iv 73 5 (iv 73 5 - av 76 f)
def clA (iv av : IVt) (f : Nat) : IVt :=
  upA (upA (upA av 77 (fun i => if av 75 f ≤ i ∧ i < iv 73 5 - av 76 f then av 77 ((i : Int) + av 76 f).toNat else av 77 i)) 75 (fun k => if k < 64 ∧ av 75 f < av 75 k then av 75 k - av 76 f else av 75 k)) 76 (fun k => if k = f then 0 else av 76 k)
theorem l_X13_clear65 {f : Nat} {had a0 : Int} (C : CX Y X RX13 "clear" cX13_clear 4 (some .int) (e + 1) 0 0) (hf : f < 64) (hh : 0 ≤ had ∧ had ≤ 65536) {P : PN} : ∀ (m x : Nat) (av : IVt), 64 - x = m → x ≤ 64 → av 75 f = a0 → (∀ k : Nat, x ≤ k → k < 64 → 0 ≤ av 75 k ∧ av 75 k ≤ 65536) →
    (∀ av', av' = upA (upA av 75 (fun k => if x ≤ k ∧ k < 64 ∧ a0 < av 75 k then av 75 k - had else av 75 k)) 76 (fun k => if k = f then 0 else av 76 k) → P had iv av') → L_X13_clear_65 Y X P f had x iv av := by
  intro m
  induction m with
  | zero =>
    intro x av h1 h2 h3 h4 hP
    refine w_X13_clear_65 C (by omega) (by omega) ⟨fun _ => ⟨by omega, ?_⟩, fun h => absurd h (by omega)⟩
    refine hP _ ?_
    rw [Int.toNat_natCast]
    funext k i
    simp only [upA_app, up2_app]
    grind
  | succ m ih =>
    intro x av h1 h2 h3 h4 hP
    have h5 := h4 x (Nat.le_refl x) (by omega)
    refine w_X13_clear_65 C (by omega) (by omega) ⟨fun h => absurd h (by omega), fun _ => ⟨by omega, fun _ => ⟨by omega, fun _ => ⟨fun hle => ?_, fun hgt => ⟨by rw [Int.toNat_natCast] at *; omega, ?_⟩⟩⟩⟩⟩
    all_goals rw [Int.toNat_natCast] at *
    all_goals rw [Int.toNat_natCast] at *
    · rw [up2_self, show (x : Int) + 1 = ((x + 1 : Nat) : Int) by omega]
      refine ih (x + 1) _ (by omega) (by omega) h3 (fun k hk => h4 k (by omega)) ?_
      rintro av' rfl
      refine hP _ ?_
      congr 2
      funext k
      grind
    · rw [show (x : Int) + 1 = ((x + 1 : Nat) : Int) by omega]
      have hne : f ≠ x := fun h => by subst h; omega
      refine ih (x + 1) _ (by omega) (by omega) (by rw [up2_nj hne]; exact h3) (fun k hk hk2 => ?_) ?_
      · rw [up2_nj (by omega)]
        exact h4 k (by omega) hk2
      · rintro av' rfl
        refine hP _ ?_
        funext k i
        simp only [upA_app, up2_app]
        grind
theorem l_X13_clear23 {f : Nat} {had a0 : Int} (C : CX Y X RX13 "clear" cX13_clear 4 (some .int) (e + 1) 0 0) (hf : f < 64) (hh : 0 ≤ had ∧ had ≤ 65536) (hall : 0 ≤ iv 73 5 ∧ iv 73 5 ≤ 65536) {P : PN} : ∀ (m : Nat) (x : Int) (av : IVt), iv 73 5 - had - x = m → 0 ≤ x → Rng iv av → av 75 f = a0 → (∀ k : Nat, k < 64 → 0 ≤ av 75 k ∧ av 75 k ≤ 65536) →
    (∀ av', av' = upA (upA (upA av 77 (fun i => if x ≤ i ∧ i < iv 73 5 - had then av 77 ((i : Int) + had).toNat else av 77 i)) 75 (fun k => if k < 64 ∧ a0 < av 75 k then av 75 k - had else av 75 k)) 76 (fun k => if k = f then 0 else av 76 k) → P had (up2 iv 73 5 (iv 73 5 - had)) av') → L_X13_clear_23 Y X P f had x iv av := by
  intro m
  induction m with
  | zero =>
    intro x av h1 h2 hR h3 h4 hP
    refine w_X13_clear_23 C fun _ => ⟨by omega, fun _ => ⟨by omega, ?_⟩, fun h => absurd h (by omega)⟩
    refine l_X13_clear65 C hf hh 64 0 av (by omega) (by omega) h3 (fun k _ hk => h4 k hk) ?_
    rintro av' rfl
    refine hP _ ?_
    rw [upA_of (f := av) (k := 77) (fun i => if_neg (by omega))]
    congr 2
    funext k
    grind
  | succ m ih =>
    intro x av h1 h2 hR h3 h4 hP
    refine w_X13_clear_23 C fun _ => ⟨by omega, fun h => absurd h (by omega), fun _ => ⟨by omega, fun hb => ⟨by omega, ?_⟩⟩⟩
    rw [bm8_id hb]
    refine ih (x + 1) _ (by omega) (by omega) (hR.putA (k := 77) hb) h3 h4 ?_
    rintro av' rfl
    refine hP _ ?_
    funext k i
    simp only [upA_app, up2_app]
    by_cases hk : k = 77
    · subst hk
      by_cases hi : i = x.toNat
      · subst hi
        have e1 : ((x.toNat : Int) + had).toNat = (x + had).toNat := by omega
        have e2 : x ≤ (x.toNat : Int) ∧ (x.toNat : Int) < iv 73 5 - had := by omega
        have e3 : ¬ (x + 1 ≤ (x.toNat : Int) ∧ (x.toNat : Int) < iv 73 5 - had) := by omega
        simp [show max x 0 = x by omega, show x < iv 73 5 - had by omega, show ¬ x + 1 ≤ x by omega]
      · by_cases hc : x + 1 ≤ (i : Int) ∧ (i : Int) < iv 73 5 - had
        · have e1 : ((i : Int) + had).toNat ≠ x.toNat := by omega
          have e2 : x ≤ (i : Int) ∧ (i : Int) < iv 73 5 - had := by omega
          simp [hc, e1, e2]
        · have e2 : ¬ (x ≤ (i : Int) ∧ (i : Int) < iv 73 5 - had) := by omega
          simp [hc, e2, hi]
    · simp [hk]
theorem s_X13_clear {f : Int} (hf : InR f) (hall : 0 ≤ iv 73 5 ∧ iv 73 5 ≤ 65536) (hA : 0 ≤ f → f < 64 → 0 ≤ av 76 f.toNat ∧ 0 ≤ av 75 f.toNat ∧ av 75 f.toNat + av 76 f.toNat ≤ iv 73 5) (h4 : ∀ k : Nat, k < 64 → 0 ≤ av 75 k ∧ av 75 k ≤ iv 73 5) :
    OkN Y (e + 1) mX13_clear [.ref (gl_b Y + 73), .int (i32 f)] RV iv av 116 (fun r iv' av' => (¬ (0 ≤ f ∧ f < 64) ∧ r = -1 ∧ iv' = iv ∧ av' = av) ∨ (0 ≤ f ∧ f < 64 ∧ r = av 76 f.toNat ∧ iv' = clI iv av f.toNat ∧ av' = clA iv av f.toNat)) := by
  refine OkN.rng fun hR => o_X13_clear hf fun X C => OkN.mono (s_X13_isFile hf) ?_
  rintro r iv' av' hR' ⟨rfl, rfl, rfl⟩ hr
  refine ⟨fun hne => ?_, fun h0 => Or.inl ⟨by grind, rfl, rfl, rfl⟩⟩
  have hin : 0 ≤ f ∧ f < 64 := by grind
  obtain ⟨a1, a2, a3⟩ := hA hin.1 hin.2
  refine ⟨hin, fun _ _ => ?_⟩
  have hff : (f.toNat : Int) = f := by omega
  have g := l_X13_clear23 (P := fun r iv'' av'' => (¬ (0 ≤ f ∧ f < 64) ∧ r = -1 ∧ iv'' = iv' ∧ av'' = av') ∨ (0 ≤ f ∧ f < 64 ∧ r = av' 76 f.toNat ∧ iv'' = clI iv' av' f.toNat ∧ av'' = clA iv' av' f.toNat)) (f := f.toNat) (had := av' 76 f.toNat) (a0 := av' 75 f.toNat) C (by omega) (by omega) hall (iv' 73 5 - av' 76 f.toNat - av' 75 f.toNat).toNat (av' 75 f.toNat) av' (by omega) a2 hR rfl (fun k hk => by have := h4 k hk; omega) ?_
  · rw [hff] at g
    exact g
  · rintro av2 rfl
    exact Or.inr ⟨hin.1, hin.2, rfl, rfl, rfl⟩
end SRFiles
