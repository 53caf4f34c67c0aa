/-! Symbols of lengths and distances, counting tokens, the class's gathering. -/
def lgo (n : Nat) : Nat → Nat → Nat
  | 0, s => s
  | m + 1, s => if lbase (s + 1) ≤ n then lgo n m (s + 1) else s
/-- a length's symbol -/
def lsy (n : Nat) : Nat := if n = 258 then 285 else lgo n 27 257
def dgo (n : Nat) : Nat → Nat → Nat
  | 0, s => s
  | m + 1, s => if dbase (s + 1) ≤ n then dgo n m (s + 1) else s
/-- a distance's symbol -/
def dsy (n : Nat) : Nat := dgo n 29 0
theorem lgo_in (n : Nat) : ∀ m s, s ≤ lgo n m s ∧ lgo n m s ≤ s + m := by
  intro m
  induction m with
  | zero => intro s; exact ⟨Nat.le_refl _, Nat.le_refl _⟩
  | succ m ih =>
    intro s
    have := ih (s + 1)
    rw [lgo]
    split <;> omega
theorem lsy_in (n : Nat) : 257 ≤ lsy n ∧ lsy n ≤ 285 := by
  have := lgo_in n 27 257
  unfold lsy
  split <;> omega
theorem dgo_in (n : Nat) : ∀ m s, s ≤ dgo n m s ∧ dgo n m s ≤ s + m := by
  intro m
  induction m with
  | zero => intro s; exact ⟨Nat.le_refl _, Nat.le_refl _⟩
  | succ m ih =>
    intro s
    have := ih (s + 1)
    rw [dgo]
    split <;> omega
theorem dsy_in (n : Nat) : dsy n ≤ 29 := by
  have := dgo_in n 29 0
  unfold dsy
  omega
theorem dbase_mono : ∀ s, s < 30 → dbase s < dbase (s + 1) := by decide +kernel
theorem dgo_of {n t : Nat} (h1 : dbase t ≤ n) : ∀ (m s : Nat), s ≤ t → t ≤ s + m → (t = s + m ∨ n < dbase (t + 1)) → s + m ≤ 29 → dgo n m s = t := by
  have hm : ∀ d s, s + d ≤ 30 → dbase s ≤ dbase (s + d) := by
    intro d
    induction d with
    | zero => intro s _; exact Nat.le_refl _
    | succ d ih =>
      intro s h
      have a := ih s (by omega)
      have b := dbase_mono (s + d) (by omega)
      rw [show s + (d + 1) = s + d + 1 by omega]
      omega
  intro m
  induction m with
  | zero => intro s g1 g2 _ _; show s = t; omega
  | succ m ih =>
    intro s g1 g2 g3 g4
    rw [dgo]
    by_cases hst : s = t
    · rw [hst, if_neg ?_]
      have := g3
      omega
    · have := hm (t - (s + 1)) (s + 1) (by omega)
      rw [show s + 1 + (t - (s + 1)) = t by omega] at this
      rw [if_pos (by omega)]
      exact ih (s + 1) (by omega) (by omega) (by omega) (by omega)
/-- halvings -/
def hgo (x t : Nat) : Nat → Nat → Nat
  | 0, e => e
  | m + 1, e => if x / 2 ^ e < t then e else hgo x t m (e + 1)
theorem hgo_in (x t : Nat) : ∀ m e, e ≤ hgo x t m e ∧ hgo x t m e ≤ e + m := by
  intro m
  induction m with
  | zero => intro s; exact ⟨Nat.le_refl _, Nat.le_refl _⟩
  | succ m ih =>
    intro s
    have := ih (s + 1)
    rw [hgo]
    split <;> omega
theorem hgo_of (x t : Nat) : ∀ m e, x / 2 ^ (e + m) < t → x / 2 ^ hgo x t m e < t ∧ (hgo x t m e = e ∨ ∃ q, hgo x t m e = q + 1 ∧ t ≤ x / 2 ^ q) := by
  intro m
  induction m with
  | zero => intro e h; exact ⟨h, Or.inl rfl⟩
  | succ m ih =>
    intro e h
    rw [hgo]
    split
    · rename_i h2
      exact ⟨h2, Or.inl rfl⟩
    · rename_i h2
      obtain ⟨a, b⟩ := ih (e + 1) (by rw [show e + 1 + m = e + (m + 1) by omega]; exact h)
      refine ⟨a, Or.inr ?_⟩
      rcases b with b | b
      · exact ⟨e, b, by omega⟩
      · exact b
theorem lsy_half : ∀ n, n < 258 → 3 ≤ n → 257 + 4 * hgo (n - 3) 8 31 0 + (n - 3) / 2 ^ hgo (n - 3) 8 31 0 = lsy n := by decide +kernel
theorem dsy_half {n : Nat} (h1 : 1 ≤ n) (h2 : n ≤ 32768) : 2 * hgo (n - 1) 4 31 0 + (n - 1) / 2 ^ hgo (n - 1) 4 31 0 = dsy n := by
  obtain ⟨a, b⟩ := hgo_of (n - 1) 4 31 0 (by
    have : (n - 1) / 2 ^ (0 + 31) = 0 := Nat.div_eq_of_lt (by rw [show (2 : Nat) ^ (0 + 31) = 2147483648 from rfl]; omega)
    omega)
  generalize hgo (n - 1) 4 31 0 = e at a b ⊢
  have key : dbase (2 * e + (n - 1) / 2 ^ e) ≤ n ∧ n < dbase (2 * e + (n - 1) / 2 ^ e + 1) ∧ 2 * e + (n - 1) / 2 ^ e ≤ 29 := by
    rcases b with b | ⟨q, b, c⟩
    · subst b
      rw [Nat.pow_zero, Nat.div_one] at a ⊢
      have hn : n = 1 ∨ n = 2 ∨ n = 3 ∨ n = 4 := by omega
      rcases hn with rfl | rfl | rfl | rfl <;> decide
    · subst b
      have hq : q < 14 := by
        refine Nat.lt_of_not_le fun hq => ?_
        have := Nat.div_le_div_left (a := n - 1) (Nat.pow_le_pow_right (show 0 < 2 by omega) hq) (show 0 < 2 ^ 14 by decide)
        rw [show (2 : Nat) ^ 14 = 16384 from rfl] at this
        omega
      have e2 : (n - 1) / 2 ^ (q + 1) = (n - 1) / 2 ^ q / 2 := by rw [Nat.pow_succ, Nat.div_div_eq_div_mul]
      have hv : (n - 1) / 2 ^ (q + 1) = 2 ∨ (n - 1) / 2 ^ (q + 1) = 3 := by omega
      have hlo := Nat.div_mul_le_self (n - 1) (2 ^ (q + 1))
      have hhi := Nat.lt_mul_div_succ (n - 1) (b := 2 ^ (q + 1)) (Nat.pow_pos (by omega))
      have hp : 1 ≤ 2 ^ (q + 1) := Nat.pow_pos (by omega)
      generalize hV : (n - 1) / 2 ^ (q + 1) = V at *
      have db : ∀ u, u < 14 → dbase (2 * (u + 1) + 2) = 1 + 2 * 2 ^ (u + 1) ∧ dbase (2 * (u + 1) + 3) = 1 + 3 * 2 ^ (u + 1) ∧ dbase (2 * (u + 1) + 4) = 1 + 4 * 2 ^ (u + 1) := by decide +kernel
      obtain ⟨d1, d2, d3⟩ := db q hq
      have hq13 : q < 13 := by
        refine Nat.lt_of_not_le fun h13 => ?_
        rw [show q = 13 by omega, show (2 : Nat) ^ (13 + 1) = 16384 from rfl] at hlo
        omega
      rcases hv with rfl | rfl
      · rw [d1, show 2 * (q + 1) + 2 + 1 = 2 * (q + 1) + 3 from rfl, d2]
        omega
      · rw [d2, show 2 * (q + 1) + 3 + 1 = 2 * (q + 1) + 4 from rfl, d3]
        omega
  exact (dgo_of key.1 29 0 (Nat.zero_le _) (by have := key.2.2; omega) (Or.inr key.2.1) (by omega)).symm
theorem div_pow_toNat (x e : Nat) : (x : Int) / 2 ^ ((e : Int)).toNat = ((x / 2 ^ e : Nat) : Int) := by
  rw [Int.toNat_natCast]
  norm_cast
section SSym
variable {Y : Gl} {X : Cx} {e : Nat} {iv av : IVt}
theorem l_X11_halvings (C : CX Y X RX11 "halvings" cX11_halvings 3 (some .int) e 0 0) {x t : Nat} (hx : x < 2147483648) (ht : t < 2147483648) {P : PN} (hP : ∀ m j, m + j = 31 → hgo x t 31 0 = hgo x t m j → P (hgo x t m j : Nat) iv av) : ∀ (m j : Nat), m + j = 31 → hgo x t 31 0 = hgo x t m j → L_X11_halvings_2 Y X P x t j iv av := by
  intro m
  induction m with
  | zero =>
    intro j h1 h2
    have := hP 0 j h1 h2
    exact w_X11_halvings_2 C (by omega) (by omega) (by omega) ⟨fun _ => this, fun h => absurd h (by omega)⟩
  | succ m ih =>
    intro j h1 h2
    refine w_X11_halvings_2 C (by omega) (by omega) (by omega) ⟨fun h => absurd h (by omega), fun _ => ⟨by omega, ?_⟩⟩
    rw [div_pow_toNat]
    have hle := Nat.div_le_self x (2 ^ j)
    have h0 : (0 : Int) ≤ ((x / 2 ^ j : Nat) : Int) := Int.natCast_nonneg _
    refine ⟨by omega, fun hlt => ?_, fun hge => ?_⟩
    · have h3 : hgo x t (m + 1) j = j := by rw [hgo, if_pos (by omega)]
      have := hP (m + 1) j h1 h2
      rw [h3] at this
      exact this
    · rw [show (j : Int) + 1 = ((j + 1 : Nat) : Int) by omega]
      refine ih (j + 1) (by omega) ?_
      rw [h2, hgo, if_neg (by omega)]
theorem s_X11_halvings {x t : Nat} (hx : x < 2147483648) (ht : t < 2147483648) : OkN Y e mX11_halvings [.int (i32 (x : Int)), .int (i32 (t : Int))] RV iv av 116 (Same iv av (hgo x t 31 0 : Nat)) :=
  o_X11_halvings fun X C => l_X11_halvings C hx ht (P := Same iv av (hgo x t 31 0 : Nat)) (fun m j _ h2 => ⟨by rw [h2], rfl, rfl⟩) 31 0 rfl rfl
theorem s_X11_lengthSymbol {n : Nat} (h3 : 3 ≤ n) (h : n ≤ 258) : OkN Y (e + 1) mX11_lengthSymbol [.int (i32 (n : Int))] RV iv av 116 (Same iv av (lsy n : Nat)) := by
  refine o_X11_lengthSymbol (by omega) ⟨fun hlt => ⟨by omega, ?_⟩, fun hge => ⟨?_, rfl, rfl⟩⟩
  · have := lsy_half n (by omega) h3
    have h2 := hgo_in (n - 3) 8 31 0
    have hl := lsy_in n
    rw [show (n : Int) - 3 = ((n - 3 : Nat) : Int) by omega]
    refine OkN.mono (s_X11_halvings (x := n - 3) (t := 8) (by omega) (by omega)) ?_
    rintro r iv' av' hR ⟨rfl, rfl, rfl⟩ hr
    rw [div_pow_toNat]
    exact ⟨by omega, by omega, by omega, rfl, rfl⟩
  · have : n = 258 := by omega
    subst this
    rfl
theorem s_X11_distanceSymbol {n : Nat} (h1 : 1 ≤ n) (h : n ≤ 32768) : OkN Y (e + 1) mX11_distanceSymbol [.int (i32 (n : Int))] RV iv av 116 (Same iv av (dsy n : Nat)) := by
  refine o_X11_distanceSymbol ⟨by omega, ?_⟩
  have := dsy_half h1 h
  have h2 := hgo_in (n - 1) 4 31 0
  have hl := dsy_in n
  rw [show (n : Int) - 1 = ((n - 1 : Nat) : Int) by omega]
  refine OkN.mono (s_X11_halvings (x := n - 1) (t := 4) (by omega) (by omega)) ?_
  rintro r iv' av' hR ⟨rfl, rfl, rfl⟩ hr
  rw [div_pow_toNat]
  exact ⟨by omega, by omega, by omega, rfl, rfl⟩
theorem l_X13_lengthSymbol (C : CX Y X RX13 "lengthSymbol" cX13_lengthSymbol 2 (some .int) (e + 2) 0 0) {n : Nat} (hn : n < 2147483648) {P : PN} (hP : P (lsy n : Nat) iv av) : ∀ (m s : Nat), m + s = 284 → 257 ≤ s → lgo n 27 257 = lgo n m s → L_X13_lengthSymbol_4 Y X P n s iv av := by
  intro m
  have hfin : ∀ m s, lgo n 27 257 = lgo n m s → lgo n m s = s → ((¬ (n : Int) = 258) → P (s : Int) iv av) ∧ (((n : Int) = 258) → P 285 iv av) := by
    intro m s h1 h2
    refine ⟨fun h => ?_, fun h => ?_⟩
    · have : lsy n = s := by unfold lsy; rw [if_neg (by omega), h1, h2]
      rw [this] at hP
      exact hP
    · have : lsy n = 285 := by unfold lsy; rw [if_pos (by omega)]
      rw [this] at hP
      exact hP
  induction m with
  | zero =>
    intro s h1 h2 h3
    exact w_X13_lengthSymbol_4 C (by omega) (by omega) ⟨fun _ => hfin 0 s h3 rfl, fun h => absurd h (by omega)⟩
  | succ m ih =>
    intro s h1 h2 h3
    refine w_X13_lengthSymbol_4 C (by omega) (by omega) ⟨fun h => absurd h (by omega), fun _ => ⟨by omega, ?_⟩⟩
    rw [show (s : Int) + 1 = ((s + 1 : Nat) : Int) by omega]
    refine OkN.mono (s_X13_lengthBase (s := s + 1) (by omega) (by omega)) ?_
    rintro r iv' av' hR ⟨rfl, rfl, rfl⟩ hr
    refine ⟨fun hlt => hfin (m + 1) s h3 ?_, fun hge => ih (s + 1) (by omega) (by omega) ?_⟩
    · rw [lgo, if_neg (by omega)]
    · rw [h3, lgo, if_pos (by omega)]
theorem s_X13_lengthSymbol {n : Nat} (hn : n < 2147483648) : OkN Y (e + 2) mX13_lengthSymbol [.int (i32 (n : Int))] RV iv av 116 (Same iv av (lsy n : Nat)) :=
  o_X13_lengthSymbol fun X C => l_X13_lengthSymbol C hn ⟨rfl, rfl, rfl⟩ 27 257 rfl (Nat.le_refl _) rfl
theorem l_X13_distanceSymbol (C : CX Y X RX13 "distanceSymbol" cX13_distanceSymbol 2 (some .int) (e + 2) 0 0) {n : Nat} (hn : n < 2147483648) {P : PN} (hP : P (dsy n : Nat) iv av) : ∀ (m s : Nat), m + s = 29 → dgo n 29 0 = dgo n m s → L_X13_distanceSymbol_2 Y X P n s iv av := by
  intro m
  have hfin : ∀ m s, dgo n 29 0 = dgo n m s → dgo n m s = s → P (s : Int) iv av := by
    intro m s h1 h2
    have : dsy n = s := by unfold dsy; rw [h1, h2]
    rw [this] at hP
    exact hP
  induction m with
  | zero =>
    intro s h1 h3
    exact w_X13_distanceSymbol_2 C (by omega) (by omega) ⟨fun _ => hfin 0 s h3 rfl, fun h => absurd h (by omega)⟩
  | succ m ih =>
    intro s h1 h3
    refine w_X13_distanceSymbol_2 C (by omega) (by omega) ⟨fun h => absurd h (by omega), fun _ => ⟨by omega, ?_⟩⟩
    rw [show (s : Int) + 1 = ((s + 1 : Nat) : Int) by omega]
    refine OkN.mono (s_X13_distanceBase (d := s + 1) (by omega)) ?_
    rintro r iv' av' hR ⟨rfl, rfl, rfl⟩ hr
    refine ⟨fun hlt => hfin (m + 1) s h3 ?_, fun hge => ih (s + 1) (by omega) ?_⟩
    · rw [dgo, if_neg (by omega)]
    · rw [h3, dgo, if_pos (by omega)]
theorem s_X13_distanceSymbol {n : Nat} (hn : n < 2147483648) : OkN Y (e + 2) mX13_distanceSymbol [.int (i32 (n : Int))] RV iv av 116 (Same iv av (dsy n : Nat)) :=
  o_X13_distanceSymbol fun X C => l_X13_distanceSymbol C hn ⟨rfl, rfl, rfl⟩ 29 0 rfl rfl
end SSym
/-- a token's symbol, its distance's (-1: none), the bits behind -/
def tsy (g : Nat × (Nat → Int) × (Nat → Int)) (t : Nat) : Int := if g.2.1 t = 0 then g.2.2 t else (lsy (g.2.1 t).toNat : Nat)
def tds (g : Nat × (Nat → Int) × (Nat → Int)) (t : Nat) : Int := if g.2.1 t = 0 then -1 else (dsy (g.2.2 t).toNat : Nat)
def tmb (g : Nat × (Nat → Int) × (Nat → Int)) (t : Nat) : Int := if g.2.1 t = 0 then 0 else (lbits (lsy (g.2.1 t).toNat) + dbits (dsy (g.2.2 t).toNat) : Nat)
/-- how often a symbol of bytes and lengths stands there, with the end; how often one of distances -/
def cS (g : Nat × (Nat → Int) × (Nat → Int)) (s : Nat) : Int := cn (tsy g) s g.1 + if s = 256 then 1 else 0
def cD (g : Nat × (Nat → Int) × (Nat → Int)) (s : Nat) : Int := cn (tds g) s g.1
theorem cn_congr {f g : Nat → Int} {v : Int} : ∀ m, (∀ t, t < m → f t = g t) → cn f v m = cn g v m := by
  intro m
  induction m with
  | zero => intro _; rfl
  | succ m ih =>
    intro h
    rw [cn, cn, ih fun t ht => h t (by omega), h m (by omega)]
theorem sm_congr {f g : Nat → Int} : ∀ m, (∀ t, t < m → f t = g t) → sm f m = sm g m := by
  intro m
  induction m with
  | zero => intro _; rfl
  | succ m ih =>
    intro h
    rw [sm, sm, ih fun t ht => h t (by omega), h m (by omega)]
section SCount
variable {Y : Gl} {X : Cx} {e : Nat} {iv av : IVt}
theorem l_X13_countTokens (C : CX Y X RX13 "countTokens" cX13_countTokens 2 none (e + 3) 0 0) {g : Nat × (Nat → Int) × (Nat → Int)} (hg : TkR iv av g) (hok : TokOK g) (hn : g.1 ≤ 4096) {P : PN} (hP : ∀ av', Off [98] av av' → (∀ s, s < 288 → av' 98 s = cS g s) → (∀ s, s < 32 → av' 98 (288 + s) = cD g s) → P 0 iv av') : ∀ (m t : Nat) (av1 : IVt), m + t = g.1 → Off [98] av av1 → (∀ s, s < 288 → av1 98 s = cn (tsy g) s t + if s = 256 then 1 else 0) → (∀ s, s < 32 → av1 98 (288 + s) = cn (tds g) s t) → L_X13_countTokens_33 Y X P t iv av1 := by
  intro m
  induction m with
  | zero =>
    intro t av1 h1 h2 h3 h4
    have e1 : t = g.1 := by omega
    subst e1
    exact w_X13_countTokens_33 C (by omega) fun _ => ⟨fun _ => hP av1 h2 h3 h4, fun h => absurd h (by have := hg.1; omega)⟩
  | succ m ih =>
    intro t av1 h1 h2 h3 h4
    have hgt := hg.2 t (by omega)
    have e96 : av1 96 t = g.2.1 t := (congrFun (h2 96 (by decide)) t).trans hgt.1
    have e97 : av1 97 t = g.2.2 t := (congrFun (h2 97 (by decide)) t).trans hgt.2
    have hcS : ∀ s : Nat, 0 ≤ cn (tsy g) s t ∧ cn (tsy g) s t ≤ t := fun s => cn_le _ _ _
    have hcD : ∀ s : Nat, 0 ≤ cn (tds g) s t ∧ cn (tds g) s t ≤ t := fun s => cn_le _ _ _
    refine w_X13_countTokens_33 C (by omega) fun _ => ⟨fun h => absurd h (by have := hg.1; omega), fun _ => ⟨by omega, ?_⟩⟩
    rw [Int.toNat_natCast, e96]
    refine fun _ => ⟨fun hne => ?_, fun hz => ?_⟩
    · obtain ⟨c1, c2, c3, c4⟩ := (hok t (by omega)).resolve_left (fun h => hne h.1)
      have hs : tsy g t = (lsy (g.2.1 t).toNat : Nat) := by unfold tsy; rw [if_neg hne]
      have hd : tds g t = (dsy (g.2.2 t).toNat : Nat) := by unfold tds; rw [if_neg hne]
      obtain ⟨a, ha⟩ := Int.eq_ofNat_of_zero_le (show 0 ≤ g.2.1 t by omega)
      obtain ⟨b, hb⟩ := Int.eq_ofNat_of_zero_le (show 0 ≤ g.2.2 t by omega)
      rw [ha] at hs ⊢
      rw [hb] at hd e97
      rw [Int.toNat_natCast] at hs hd
      have i1 := lsy_in a
      have i2 := dsy_in b
      refine OkN.mono (s_X13_lengthSymbol (n := a) (by omega)) ?_
      rintro r iv' av' hR ⟨rfl, rfl, rfl⟩ hr
      refine ⟨by omega, fun _ => ?_⟩
      rw [Int.toNat_natCast, h3 _ (by omega)]
      have q1 := hcS (lsy a)
      refine ⟨by split <;> omega, ?_⟩
      rw [e97]
      refine fun _ => OkN.mono (s_X13_distanceSymbol (n := b) (by omega)) ?_
      rintro r iv2 av2 hR2 ⟨rfl, rfl, rfl⟩ hr2
      rw [show (288 + (dsy b : Nat) : Int) = ((288 + dsy b : Nat) : Int) by omega]
      refine ⟨by omega, ?_⟩
      rw [Int.toNat_natCast, up2_nj (by omega), h4 _ (by omega)]
      have q2 := hcD (dsy b)
      refine fun _ => ⟨by omega, ?_⟩
      rw [show (t : Int) + 1 = ((t + 1 : Nat) : Int) by omega]
      refine ih (t + 1) _ (by omega) ((h2.up (by decide)).up (by decide)) (fun s hs' => ?_) fun s hs' => ?_
      · rw [up2_nj (by omega), up2_at, cn, hs]
        by_cases hsl : s = lsy a
        · subst hsl
          rw [if_pos rfl, if_pos rfl]
          omega
        · rw [if_neg hsl, if_neg (by omega), h3 s hs']
          omega
      · rw [up2_at, cn, hd]
        by_cases hsl : s = dsy b
        · subst hsl
          rw [if_pos rfl, if_pos rfl]
        · rw [if_neg (by omega), if_neg (by omega), up2_nj (by omega), h4 s hs']
          omega
    · obtain ⟨c1, c2, c3⟩ := (hok t (by omega)).resolve_right (fun h => by omega)
      have hs : tsy g t = g.2.2 t := by unfold tsy; rw [if_pos hz]
      have hd : tds g t = -1 := by unfold tds; rw [if_pos hz]
      obtain ⟨b, hb⟩ := Int.eq_ofNat_of_zero_le c2
      rw [hb] at hs e97
      rw [e97]
      refine fun _ => ⟨by omega, ?_⟩
      rw [Int.toNat_natCast, h3 _ (by omega)]
      have q1 := hcS b
      refine fun _ => ⟨by split <;> omega, ?_⟩
      rw [show (t : Int) + 1 = ((t + 1 : Nat) : Int) by omega]
      refine ih (t + 1) _ (by omega) (h2.up (by decide)) (fun s hs' => ?_) fun s hs' => ?_
      · rw [up2_at, cn, hs]
        by_cases hsl : s = b
        · subst hsl
          rw [if_pos rfl, if_pos rfl]
          omega
        · rw [if_neg hsl, if_neg (by omega), h3 s hs']
          omega
      · rw [up2_nj (by omega), cn, hd, if_neg (by omega), h4 s hs']
        omega
theorem s_X13_countTokens {g : Nat × (Nat → Int) × (Nat → Int)} (hg : TkR iv av g) (hok : TokOK g) (hn : g.1 ≤ 4096) : OkN Y (e + 3) mX13_countTokens [.ref (gl_b Y + 73)] RV iv av 116
    (fun r iv' av' => iv' = iv ∧ Off [98] av av' ∧ (∀ s, s < 288 → av' 98 s = cS g s) ∧ ∀ s, s < 32 → av' 98 (288 + s) = cD g s) := by
  refine o_X13_countTokens fun X C => ?_
  have lp : ∀ (m k : Nat) (av1 : IVt), m + k = 339 → Off [98] av av1 → (∀ i, i < k → av1 98 i = 0) → L_X13_countTokens_2 Y X (fun r iv' av' => iv' = iv ∧ Off [98] av av' ∧ (∀ s, s < 288 → av' 98 s = cS g s) ∧ ∀ s, s < 32 → av' 98 (288 + s) = cD g s) k iv av1 := by
    intro m
    induction m with
    | zero =>
      intro k av1 h1 h2 h3
      refine w_X13_countTokens_2 C (by omega) ⟨fun _ => ?_, fun h => absurd h (by omega)⟩
      refine l_X13_countTokens C hg hok hn (fun av' g1 g2 g3 => ⟨rfl, g1, g2, g3⟩) g.1 0 _ (by omega) (h2.up (by decide)) (fun s hs => ?_) fun s hs => ?_
      · rw [up2_at, cn]
        by_cases h : s = 256
        · rw [if_pos h, if_pos h]
          rfl
        · rw [if_neg h, if_neg h, h3 s (by omega)]
          rfl
      · rw [up2_nj (by omega), h3 _ (by omega)]
        rfl
    | succ m ih =>
      intro k av1 h1 h2 h3
      refine w_X13_countTokens_2 C (by omega) ⟨fun h => absurd h (by omega), fun _ => ⟨by omega, ?_⟩⟩
      rw [Int.toNat_natCast, show (k : Int) + 1 = ((k + 1 : Nat) : Int) by omega]
      refine ih (k + 1) _ (by omega) (h2.up (by decide)) fun i hi => ?_
      rw [up2_at]
      split
      · rfl
      · exact h3 i (by omega)
  exact lp 339 0 av rfl (Off.rf _ _) fun i hi => absurd hi (Nat.not_lt_zero _)
end SCount
