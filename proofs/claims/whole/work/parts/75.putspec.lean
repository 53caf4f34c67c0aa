/-! What putting gives, as plain math. -/
abbrev PS : Type := (Nat × (Nat → Int)) × (Nat × (Nat → Int)) × (Nat × (Nat → Int) × (Nat → Int)) × (Nat × (Nat → Int)) × (Nat → Nat → Int)
/-- the row, the block numbers, the fragments, the fragment at hand, the facts -/
abbrev pR (S : PS) : Nat × (Nat → Int) := S.1
abbrev pN (S : PS) : Nat × (Nat → Int) := S.2.1
abbrev pG (S : PS) : Nat × (Nat → Int) × (Nat → Int) := S.2.2.1
abbrev pH (S : PS) : Nat × (Nat → Int) := S.2.2.2.1
abbrev pF (S : PS) : Nat → Nat → Int := S.2.2.2.2
def apR (r : Nat × (Nat → Int)) (n : Nat) (g : Nat → Int) : Nat × (Nat → Int) := (r.1 + n, fun j => if j < r.1 then r.2 j else g (j - r.1))
def ap1 (r : Nat × (Nat → Int)) (v : Int) : Nat × (Nat → Int) := (r.1 + 1, fun j => if j = r.1 then v else r.2 j)
def stF (F : Nat → Nat → Int) (f w : Nat) (v : Int) : Nat → Nat → Int := fun f' w' => if f' = f ∧ w' = w then v else F f' w'
def ZD (D : Nat → Int) (n : Nat) : Prop := ∀ i, i < n → D i = 0
noncomputable def sBlk (pk : Int) (f : Nat) (D : Nat → Int) (n : Nat) (S : PS) : PS :=
  cif (ZD D n) (pR S, ap1 (pN S) 0, pG S, pH S, stF (stF (pF S) f 3 (pF S f 3 + 1)) f 6 (pF S f 6 + n))
    (apR (pR S) (sLen pk D n) (sByt pk D n), ap1 (pN S) (sNum pk D n), pG S, pH S, stF (pF S) f 3 (pF S f 3 + 1))
noncomputable def sBlks (pk : Int) (f : Nat) (B : Nat → Int) (bs n : Nat) : Nat → PS → PS
  | 0, S => S
  | m + 1, S => sBlk pk f (fun i => B (m * bs + i)) (min bs (n - m * bs)) (sBlks pk f B bs n m S)
def sOpen (f n : Nat) (beg : Int) (S : PS) : PS := (pR S, pN S, pG S, pH S, fun f' w => if f' = f then (if w = 1 then (n : Int) else if w = 2 then beg else if w = 4 then -2 else if w = 7 then ((pN S).1 : Int) else 0) else pF S f' w)
noncomputable def sClose (pk : Int) (S : PS) : PS := if (pH S).1 = 0 then S else
  (apR (pR S) (sLen pk (pH S).2 (pH S).1) (sByt pk (pH S).2 (pH S).1), pN S, ((pG S).1 + 1, (fun j => if j = (pG S).1 then ((pR S).1 : Int) else (pG S).2.1 j), fun j => if j = (pG S).1 then sNum pk (pH S).2 (pH S).1 else (pG S).2.2 j), (0, (pH S).2), pF S)
def sJoin (f rest : Nat) (D : Nat → Int) (S : PS) : PS := (pR S, pN S, pG S, apR (pH S) rest D, stF (stF (pF S) f 4 (pG S).1) f 5 (pH S).1)
def restOf (fr : Int) (bs n : Nat) : Nat := if fr = 0 then 0 else n % bs
def cntB (fr : Int) (bs n : Nat) : Nat := (n - restOf fr bs n + bs - 1) / bs
noncomputable def sMid (pk fr : Int) (bs f n : Nat) (B : Nat → Int) (S : PS) : PS := sBlks pk f B bs n (cntB fr bs n) (sOpen f n (if 0 < n - restOf fr bs n then ((pR S).1 : Int) else 0) S)
noncomputable def sRoom (pk : Int) (bs rest : Nat) (S : PS) : PS := if bs < (pH S).1 + rest then sClose pk S else S
noncomputable def sFile (pk fr : Int) (bs f n : Nat) (B : Nat → Int) (S : PS) : PS :=
  if 0 < restOf fr bs n then sJoin f (restOf fr bs n) (fun i => B (n - restOf fr bs n + i)) (sRoom pk bs (restOf fr bs n) (sMid pk fr bs f n B S)) else sMid pk fr bs f n B S
def sShare (f t n : Nat) (S : PS) : PS := (pR S, pN S, pG S, pH S, fun f' w => if f' = f then (if w = 1 then (n : Int) else pF S t w) else pF S f' w)
def TwE (n : Nat → Nat) (B : Nat → Nat → Int) (o f : Nat) : Prop := n o = n f ∧ ∀ j, j < n f → B o j = B f j
def TwP (n : Nat → Nat) (B : Nat → Nat → Int) (f : Nat) (t : Int) : Prop := (t = -1 ∧ (n f = 0 ∨ ∀ o, o < f → ¬ TwE n B o f)) ∨ ∃ o : Nat, t = o ∧ o < f ∧ n f ≠ 0 ∧ TwE n B o f ∧ ∀ o', o' < o → ¬ TwE n B o' f
noncomputable def twn (n : Nat → Nat) (B : Nat → Nat → Int) (f : Nat) : Int := Classical.epsilon fun t => TwP n B f t
theorem TwP.uni {n : Nat → Nat} {B : Nat → Nat → Int} {f : Nat} {t t' : Int} (h : TwP n B f t) (h' : TwP n B f t') : t = t' := by
  rcases h with ⟨e, h⟩ | ⟨o, e, h1, h2, h3, h4⟩ <;> rcases h' with ⟨e', h'⟩ | ⟨o', e', h1', h2', h3', h4'⟩
  · rw [e, e']
  · rcases h with h | h
    · exact absurd h h2'
    · exact absurd h3' (h o' h1')
  · rcases h' with h' | h'
    · exact absurd h' h2
    · exact absurd h3 (h' o h1)
  · rw [e, e']
    by_cases h5 : o < o'
    · exact absurd h3 (h4' o h5)
    · by_cases h6 : o' < o
      · exact absurd h3' (h4 o' h6)
      · omega
theorem twn_of {n : Nat → Nat} {B : Nat → Nat → Int} {f : Nat} {t : Int} (h : TwP n B f t) : twn n B f = t := TwP.uni (Classical.epsilon_spec (p := fun t => TwP n B f t) ⟨t, h⟩) h
noncomputable def sPut (pk fr : Int) (bs : Nat) (n : Nat → Nat) (B : Nat → Nat → Int) : Nat → PS
  | 0 => ((0, fun _ => 0), (0, fun _ => 0), (0, (fun _ => 0), fun _ => 0), (0, fun _ => 0), fun _ _ => 0)
  | f + 1 => if twn n B f < 0 then sFile pk fr bs f (n f) (B f) (sPut pk fr bs n B f) else sShare f (twn n B f).toNat (n f) (sPut pk fr bs n B f)
def sT (n : Nat → Nat) : Nat → Nat
  | 0 => 0
  | f + 1 => sT n f + n f
theorem sT_mono (n : Nat → Nat) (f : Nat) : ∀ d, sT n f ≤ sT n (f + d) := by
  intro d
  induction d with
  | zero => exact Nat.le_refl _
  | succ d ih =>
    show _ ≤ sT n (f + d) + n (f + d)
    omega
theorem sT_le {n : Nat → Nat} {f g : Nat} (h : f ≤ g) : sT n f ≤ sT n g := by
  have := sT_mono n f (g - f)
  rw [show f + (g - f) = g by omega] at this
  exact this
theorem cntB_lt {fr : Int} {bs n m : Nat} (hb : 0 < bs) : m < cntB fr bs n ↔ m * bs < n - restOf fr bs n := by
  unfold cntB
  have := Nat.le_div_iff_mul_le (x := m + 1) (y := n - restOf fr bs n + bs - 1) hb
  rw [Nat.succ_mul] at this
  generalize m * bs = x at *
  omega
theorem restOf_lt {fr : Int} {bs n : Nat} (hb : 0 < bs) : restOf fr bs n < bs ∧ restOf fr bs n ≤ n := by
  unfold restOf
  split
  · omega
  · exact ⟨Nat.mod_lt _ hb, Nat.mod_le _ _⟩
/-- what holds inside a file -/
def mdS (S0 S : PS) (f n bs : Nat) (beg : Int) (m : Nat) : Prop :=
  (pG S = pG S0 ∧ pH S = pH S0 ∧ ∀ t w, t ≠ f → pF S t w = pF S0 t w) ∧ ((pN S).1 = (pN S0).1 + m ∧ ∀ j, j < (pN S0).1 → (pN S).2 j = (pN S0).2 j) ∧
  (∀ k, k < m → 0 ≤ (pN S).2 ((pN S0).1 + k) ∧ (pN S).2 ((pN S0).1 + k) ≤ 16842752 ∧ (16777216 ≤ (pN S).2 ((pN S0).1 + k) → (pN S).2 ((pN S0).1 + k) - 16777216 = ((min bs (n - k * bs) : Nat) : Int))) ∧
  (pF S f 1 = n ∧ pF S f 2 = beg ∧ pF S f 3 = m ∧ pF S f 4 = -2 ∧ pF S f 5 = 0 ∧ pF S f 7 = (pN S0).1 ∧ 0 ≤ pF S f 6 ∧ pF S f 6 ≤ ((min (m * bs) n : Nat) : Int)) ∧ (pR S0).1 ≤ (pR S).1 ∧ (pR S).1 ≤ (pR S0).1 + min (m * bs) n
theorem stF_ne {F : Nat → Nat → Int} {f w f' w' : Nat} {v : Int} (h : f' ≠ f ∨ w' ≠ w) : stF F f w v f' w' = F f' w' := by
  unfold stF
  rw [if_neg (by omega)]
theorem stF_eq {F : Nat → Nat → Int} {f w : Nat} {v : Int} : stF F f w v f w = v := by
  unfold stF
  rw [if_pos ⟨rfl, rfl⟩]
theorem md_step {S0 S : PS} {f n bs m : Nat} {beg pk : Int} {D : Nat → Int} (h : mdS S0 S f n bs beg m) (hm : m * bs < n) (hbs : bs ≤ 65536) : mdS S0 (sBlk pk f D (min bs (n - m * bs)) S) f n bs beg (m + 1) := by
  obtain ⟨⟨a1, a2, a3⟩, ⟨b1, b2⟩, c, ⟨d1, d2, d3, d4, d5, d6, d7, d8⟩, e1, e2⟩ := h
  have hmb : (m + 1) * bs = m * bs + bs := Nat.succ_mul m bs
  have key : ∀ (R : Nat × (Nat → Int)) (v : Int) (z : Int), (0 ≤ z ∧ z ≤ ((min bs (n - m * bs) : Nat) : Int)) → (R.1 = (pR S).1 + z.toNat ∨ R.1 ≤ (pR S).1 + min bs (n - m * bs)) → (pR S).1 ≤ R.1 → 0 ≤ v → v ≤ 16842752 → (16777216 ≤ v → v - 16777216 = ((min bs (n - m * bs) : Nat) : Int)) → ∀ FF : Nat → Nat → Int, (∀ t w, t ≠ f → FF t w = pF S t w) → (∀ w, w ≠ 3 → w ≠ 6 → FF f w = pF S f w) → FF f 3 = pF S f 3 + 1 → FF f 6 = pF S f 6 + z → mdS S0 (R, ap1 (pN S) v, pG S, pH S, FF) f n bs beg (m + 1) := by
    intro R v z hz hR1 hR2 v1 v2 v3 FF f1 f2 f3 f6
    refine ⟨⟨a1, a2, fun t w ht => (f1 t w ht).trans (a3 t w ht)⟩, ⟨?_, fun j hj => ?_⟩, fun k hk => ?_, ⟨?_, ?_, ?_, ?_, ?_, ?_, ?_, ?_⟩, ?_, ?_⟩
    · show (pN S).1 + 1 = _
      omega
    · show (if j = (pN S).1 then v else (pN S).2 j) = _
      rw [if_neg (by omega)]
      exact b2 j hj
    · show 0 ≤ (if (pN S0).1 + k = (pN S).1 then v else (pN S).2 ((pN S0).1 + k)) ∧ (if (pN S0).1 + k = (pN S).1 then v else (pN S).2 ((pN S0).1 + k)) ≤ 16842752 ∧ (16777216 ≤ (if (pN S0).1 + k = (pN S).1 then v else (pN S).2 ((pN S0).1 + k)) → (if (pN S0).1 + k = (pN S).1 then v else (pN S).2 ((pN S0).1 + k)) - 16777216 = ((min bs (n - k * bs) : Nat) : Int))
      by_cases hkm : k = m
      · subst hkm
        rw [if_pos b1.symm]
        exact ⟨v1, v2, v3⟩
      · rw [if_neg (by omega)]
        exact c k (by omega)
    · exact (f2 1 (by omega) (by omega)).trans d1
    · exact (f2 2 (by omega) (by omega)).trans d2
    · show FF f 3 = _
      rw [f3, d3]
      omega
    · exact (f2 4 (by omega) (by omega)).trans d4
    · exact (f2 5 (by omega) (by omega)).trans d5
    · exact (f2 7 (by omega) (by omega)).trans d6
    · show 0 ≤ FF f 6
      omega
    · show FF f 6 ≤ _
      rw [hmb]
      generalize m * bs = x at *
      omega
    · show (pR S0).1 ≤ R.1
      omega
    · show R.1 ≤ _
      rw [hmb]
      generalize m * bs = x at *
      omega
  unfold sBlk
  by_cases hz : ZD D (min bs (n - m * bs))
  · rw [cif_pos hz]
    refine key _ 0 ((min bs (n - m * bs) : Nat) : Int) ⟨by omega, Int.le_refl _⟩ (Or.inr (by omega)) (Nat.le_refl _) (by omega) (by omega) (by omega) _ (fun t w ht => ?_) (fun w h3 h6 => ?_) ?_ ?_
    · rw [stF_ne (Or.inl ht), stF_ne (Or.inl ht)]
    · rw [stF_ne (Or.inr h6), stF_ne (Or.inr h3)]
    · rw [stF_ne (Or.inr (by omega)), stF_eq]
    · rw [stF_eq]
  · rw [cif_neg hz]
    have hl := sLen_le pk D (min bs (n - m * bs))
    have hn := sNum_in pk D (n := min bs (n - m * bs)) (by omega)
    refine key _ _ 0 ⟨by omega, by omega⟩ (Or.inr ?_) ?_ (by omega) (by omega) (by omega) _ (fun t w ht => ?_) (fun w h3 h6 => ?_) ?_ ?_
    · show (pR S).1 + sLen pk D (min bs (n - m * bs)) ≤ _
      omega
    · show (pR S).1 ≤ (pR S).1 + sLen pk D (min bs (n - m * bs))
      omega
    · rw [stF_ne (Or.inl ht)]
    · rw [stF_ne (Or.inr h3)]
    · rw [stF_eq]
    · rw [stF_ne (Or.inr (by omega)), Int.add_zero]
theorem md_all {S0 : PS} {f n bs : Nat} {beg pk : Int} {B : Nat → Int} (hbs : bs ≤ 65536) : ∀ m, (∀ k, k < m → k * bs < n) → mdS S0 (sBlks pk f B bs n m (sOpen f n beg S0)) f n bs beg m := by
  intro m
  induction m with
  | zero =>
    intro _
    refine ⟨⟨rfl, rfl, fun t w ht => if_neg ht⟩, ⟨rfl, fun j hj => rfl⟩, fun k hk => absurd hk (Nat.not_lt_zero _), ⟨if_pos rfl, if_pos rfl, if_pos rfl, if_pos rfl, if_pos rfl, if_pos rfl, ?_, ?_⟩, Nat.le_refl _, ?_⟩
    · show (0 : Int) ≤ if f = f then 0 else _
      rw [if_pos rfl]
      omega
    · show (if f = f then (0 : Int) else _) ≤ _
      rw [if_pos rfl]
      omega
    · show (pR S0).1 ≤ _
      omega
  | succ m ih =>
    intro h
    exact md_step (ih fun k hk => h k (by omega)) (h m (by omega)) hbs
theorem md_mid {S : PS} {f n bs : Nat} {pk fr : Int} {B : Nat → Int} (hb : 0 < bs) (hbs : bs ≤ 65536) : mdS S (sMid pk fr bs f n B S) f n bs (if 0 < n - restOf fr bs n then ((pR S).1 : Int) else 0) (cntB fr bs n) :=
  md_all hbs _ fun k hk => by
    have := (cntB_lt hb).mp hk
    omega
/-- what holds of what was put of a file -/
def okB (bs : Nat) (S : PS) (f n : Nat) : Prop := pF S f 1 = n ∧ (0 ≤ pF S f 2 ∧ pF S f 2 ≤ 131072) ∧ 0 ≤ pF S f 3 ∧ 0 ≤ pF S f 7 ∧ pF S f 7 + pF S f 3 ≤ (pN S).1 ∧ ∀ k : Nat, k < pF S f 3 → 16777216 ≤ (pN S).2 ((pF S f 7).toNat + k) → (pN S).2 ((pF S f 7).toNat + k) - 16777216 = ((min bs (n - k * bs) : Nat) : Int)
def okG (bs : Nat) (S : PS) (f n : Nat) : Prop := 0 ≤ pF S f 5 ∧ ((pF S f 4 = -2 ∧ pF S f 3 = (((n + bs - 1) / bs : Nat) : Int)) ∨ (0 ≤ pF S f 4 ∧ pF S f 4 ≤ (pG S).1 ∧ pF S f 3 = ((n / bs : Nat) : Int) ∧ 0 < n % bs ∧ pF S f 5 + ((n % bs : Nat) : Int) ≤ bs ∧ (pF S f 4 = (pG S).1 → pF S f 5 + ((n % bs : Nat) : Int) ≤ (pH S).1) ∧ (pF S f 4 < (pG S).1 → 16777216 ≤ (pG S).2.2 (pF S f 4).toNat → pF S f 5 + ((n % bs : Nat) : Int) ≤ (pG S).2.2 (pF S f 4).toNat - 16777216)))
/-- what holds of all -/
def okS (bs : Nat) (S : PS) (f T : Nat) : Prop := ((pR S).1 + (pH S).1 ≤ T ∧ 4096 * (pN S).1 ≤ T + 4095 * f ∧ (pG S).1 + (if (pH S).1 = 0 then 0 else 1) ≤ f ∧ (pH S).1 ≤ bs) ∧ (∀ j, j < (pN S).1 → 0 ≤ (pN S).2 j ∧ (pN S).2 j ≤ 16842752) ∧ ∀ j, j < (pG S).1 → (0 ≤ (pG S).2.1 j ∧ (pG S).2.1 j ≤ 131072) ∧ 0 < (pG S).2.2 j ∧ (pG S).2.2 j ≤ 16842752
theorem okB.ext {bs f n : Nat} {S S' : PS} (h : okB bs S f n) (e : ∀ w, pF S' f w = pF S f w) (hN : (pN S).1 ≤ (pN S').1) (eN : ∀ j, j < (pN S).1 → (pN S').2 j = (pN S).2 j) : okB bs S' f n := by
  obtain ⟨h1, h2, h3, h4, h5, h6⟩ := h
  unfold okB
  rw [e 1, e 2, e 3, e 7]
  refine ⟨h1, h2, h3, h4, by omega, fun k hk => ?_⟩
  rw [eN _ (by omega)]
  exact h6 k hk
theorem okG.ext {bs f n : Nat} {S S' : PS} (h : okG bs S f n) (e : ∀ w, pF S' f w = pF S f w) (eG : pG S' = pG S) (hH : (pH S).1 ≤ (pH S').1) : okG bs S' f n := by
  unfold okG at *
  rw [e 3, e 4, e 5, eG]
  refine ⟨h.1, h.2.imp id ?_⟩
  rintro ⟨g1, g2, g3, g4, g5, g6, g7⟩
  exact ⟨g1, g2, g3, g4, g5, fun h => by have := g6 h; omega, g7⟩
theorem close_N {pk : Int} {S : PS} : pN (sClose pk S) = pN S ∧ pF (sClose pk S) = pF S ∧ (pH (sClose pk S)).1 = 0 := by
  unfold sClose
  by_cases h : (pH S).1 = 0
  · rw [if_pos h]
    exact ⟨rfl, rfl, h⟩
  · rw [if_neg h]
    exact ⟨rfl, rfl, rfl⟩
theorem okG.close {bs f n : Nat} {S : PS} {pk : Int} (h : okG bs S f n) (hH : (pH S).1 ≤ 65536) : okG bs (sClose pk S) f n := by
  unfold sClose
  by_cases h0 : (pH S).1 = 0
  · rw [if_pos h0]
    exact h
  · rw [if_neg h0]
    obtain ⟨h1, h2⟩ := h
    refine ⟨h1, h2.imp id ?_⟩
    rintro ⟨g1, g2, g3, g4, g5, g6, g7⟩
    refine ⟨g1, ?_, g3, g4, g5, ?_, ?_⟩
    · show pF S f 4 ≤ (((pG S).1 + 1 : Nat) : Int)
      omega
    · intro (h : pF S f 4 = (((pG S).1 + 1 : Nat) : Int))
      omega
    · show pF S f 4 < (((pG S).1 + 1 : Nat) : Int) → 16777216 ≤ (if (pF S f 4).toNat = (pG S).1 then sNum pk (pH S).2 (pH S).1 else (pG S).2.2 (pF S f 4).toNat) → pF S f 5 + ((n % bs : Nat) : Int) ≤ (if (pF S f 4).toNat = (pG S).1 then sNum pk (pH S).2 (pH S).1 else (pG S).2.2 (pF S f 4).toNat) - 16777216
      intro hlt
      by_cases he : (pF S f 4).toNat = (pG S).1
      · rw [if_pos he]
        intro hnum
        have := (sNum_in pk (pH S).2 hH).2.2 hnum
        have := g6 (by omega)
        omega
      · rw [if_neg he]
        exact g7 (by omega)
theorem okS.close {bs f T : Nat} {S : PS} {pk : Int} (h : okS bs S f T) (hT : T ≤ 131072) (hbs : bs ≤ 65536) : okS bs (sClose pk S) f T := by
  unfold sClose
  by_cases h0 : (pH S).1 = 0
  · rw [if_pos h0]
    exact h
  · rw [if_neg h0]
    obtain ⟨⟨h1, h2, h3, h4⟩, h5, h6⟩ := h
    rw [if_neg h0] at h3
    have hl := sLen_le pk (pH S).2 (pH S).1
    have hn := sNum_in pk (pH S).2 (n := (pH S).1) (by omega)
    refine ⟨⟨?_, h2, ?_, Nat.zero_le _⟩, h5, fun j hj => ?_⟩
    · show (pR S).1 + sLen pk (pH S).2 (pH S).1 + 0 ≤ T
      omega
    · show (pG S).1 + 1 + (if (0 : Nat) = 0 then 0 else 1) ≤ f
      rw [if_pos rfl]
      omega
    · have hj' : j < (pG S).1 + 1 := hj
      show (0 ≤ (if j = (pG S).1 then ((pR S).1 : Int) else (pG S).2.1 j) ∧ (if j = (pG S).1 then ((pR S).1 : Int) else (pG S).2.1 j) ≤ 131072) ∧ 0 < (if j = (pG S).1 then sNum pk (pH S).2 (pH S).1 else (pG S).2.2 j) ∧ (if j = (pG S).1 then sNum pk (pH S).2 (pH S).1 else (pG S).2.2 j) ≤ 16842752
      by_cases he : j = (pG S).1
      · rw [if_pos he, if_pos he]
        omega
      · rw [if_neg he, if_neg he]
        exact h6 j (by omega)
def pJ (bs : Nat) (n : Nat → Nat) (f : Nat) (S : PS) : Prop := okS bs S f (sT n f) ∧ ∀ t, t < f → okB bs S t (n t) ∧ okG bs S t (n t)
theorem mid_ok {bs f : Nat} {n : Nat → Nat} {S : PS} {pk fr : Int} {B : Nat → Int} (h : pJ bs n f S) (h1 : 4096 ≤ bs) (h2 : bs ≤ 65536) (hT : sT n (f + 1) ≤ 65536) :
    okS bs (sMid pk fr bs f (n f) B S) f (sT n f + (n f - restOf fr bs (n f)) + 4095) ∧ ((pR (sMid pk fr bs f (n f) B S)).1 + (pH S).1 ≤ sT n f + (n f - restOf fr bs (n f))) ∧ (∀ t, t < f → okB bs (sMid pk fr bs f (n f) B S) t (n t) ∧ okG bs (sMid pk fr bs f (n f) B S) t (n t)) ∧ okB bs (sMid pk fr bs f (n f) B S) f (n f) := by
  have hb : 0 < bs := by omega
  have hm := md_mid (S := S) (f := f) (n := n f) (pk := pk) (fr := fr) (B := B) hb h2
  have hr := restOf_lt (fr := fr) (n := n f) hb
  have hT1 : sT n f + n f ≤ 65536 := hT
  generalize hS1 : sMid pk fr bs f (n f) B S = S1 at *
  generalize hc : cntB fr bs (n f) = c at *
  have hc1 : c * bs < n f - restOf fr bs (n f) + bs := by
    have := not_congr (cntB_lt (fr := fr) (n := n f) (m := c) hb)
    rw [hc] at this
    have h9 := this.mp (Nat.lt_irrefl _)
    by_cases hc0 : c = 0
    · subst hc0
      omega
    · have h8 := (cntB_lt (fr := fr) (n := n f) (m := c - 1) hb).mp (by omega)
      have e : c * bs = (c - 1) * bs + bs := by
        rw [← Nat.succ_mul]
        congr 1
        omega
      omega
  have hc2 : 4096 * c ≤ n f - restOf fr bs (n f) + 4095 := by
    by_cases hc0 : c = 0
    · omega
    · have h8 := (cntB_lt (fr := fr) (n := n f) (m := c - 1) hb).mp (by omega)
      have := Nat.mul_le_mul_left (c - 1) h1
      omega
  have hc3 : min (c * bs) (n f) ≤ n f - restOf fr bs (n f) ∨ restOf fr bs (n f) = 0 := by
    by_cases hr0 : restOf fr bs (n f) = 0
    · exact Or.inr hr0
    · left
      have hre : restOf fr bs (n f) = n f % bs := by
        unfold restOf at hr0 ⊢
        split at hr0
        · exact absurd rfl hr0
        · rw [if_neg (by assumption)]
      have hdm := Nat.div_add_mod (n f) bs
      have e1 : n f - restOf fr bs (n f) = bs * (n f / bs) := by omega
      have e2 : c = n f / bs := by
        rw [← hc]
        unfold cntB
        rw [e1, show bs * (n f / bs) + bs - 1 = bs * (n f / bs) + (bs - 1) by omega, Nat.mul_add_div hb, Nat.div_eq_of_lt (show bs - 1 < bs by omega), Nat.add_zero]
      rw [e1, e2, Nat.mul_comm]
      exact Nat.min_le_left _ _
  obtain ⟨⟨a1, a2, a3⟩, ⟨b1, b2⟩, b3, ⟨d1, d2, d3, d4, d5, d6, d7, d8⟩, e1, e2⟩ := hm
  obtain ⟨⟨⟨s1, s2, s3, s4⟩, s5, s6⟩, s7⟩ := h
  have hle : (pR S1).1 + (pH S).1 ≤ sT n f + (n f - restOf fr bs (n f)) := by
    generalize c * bs = x at *
    omega
  refine ⟨⟨⟨?_, ?_, ?_, ?_⟩, fun j hj => ?_, ?_⟩, hle, fun t ht => ⟨(s7 t ht).1.ext (fun w => a3 t w (by omega)) (by omega) b2, (s7 t ht).2.ext (fun w => a3 t w (by omega)) a1 (by rw [a2]; exact Nat.le_refl _)⟩, ⟨d1, ?_, by omega, by omega, by omega, fun k hk => ?_⟩⟩
  · rw [a2]
    omega
  · omega
  · rw [a1, a2]
    exact s3
  · rw [a2]
    exact s4
  · by_cases hj0 : j < (pN S).1
    · rw [b2 j hj0]
      exact s5 j hj0
    · have := b3 (j - (pN S).1) (by omega)
      rw [show (pN S).1 + (j - (pN S).1) = j by omega] at this
      exact ⟨this.1, this.2.1⟩
  · rw [a1]
    exact s6
  · rw [d2]
    split <;> omega
  · rw [d6, Int.toNat_natCast]
    exact (b3 k (by omega)).2.2
