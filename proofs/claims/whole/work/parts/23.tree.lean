/-! A tree of codes: plain math. -/
def Fs (c : Int) : Nat → Int
  | 0 => 0
  | m + 1 => Fs c m + c / 2 ^ (m + 1)
theorem Fs_le {c : Int} (h : 0 ≤ c) : ∀ m, Fs c m + c / 2 ^ m ≤ c := by
  intro m
  induction m with
  | zero => simp [Fs]
  | succ m ih =>
    unfold Fs
    have e : c / 2 ^ (m + 1) = c / 2 ^ m / 2 := by
      rw [Int.ediv_ediv_of_nonneg (Int.le_of_lt (pw0 m)), pwS, Int.mul_comm]
    have : 0 ≤ c / 2 ^ m := Int.ediv_nonneg h (Int.le_of_lt (pw0 m))
    omega
theorem Fs_neg : ∀ m : Nat, Fs (-1) m = -(m : Int) := by
  intro m
  induction m with
  | zero => rfl
  | succ m ih =>
    unfold Fs
    have e : (-1 : Int) / 2 ^ (m + 1) = -1 := by
      have := pw0 (m + 1)
      have h1 : (-1 : Int) / 2 ^ (m + 1) < 0 := Int.ediv_lt_of_lt_mul this (by omega)
      have h2 : (-1 : Int) ≤ -1 / 2 ^ (m + 1) := Int.le_ediv_of_mul_le this (by omega)
      omega
    rw [ih, e]
    omega
theorem Fs_dbl (c : Int) : ∀ m, Fs (2 * c - 1) (m + 1) = (c - 1) + Fs (c - 1) m := by
  intro m
  induction m with
  | zero =>
    show 0 + (2 * c - 1) / 2 ^ (0 + 1) = (c - 1) + 0
    rw [show (2 : Int) ^ (0 + 1) = 2 from rfl]
    omega
  | succ m ih =>
    have e1 : Fs (2 * c - 1) (m + 1 + 1) = Fs (2 * c - 1) (m + 1) + (2 * c - 1) / 2 ^ (m + 1 + 1) := rfl
    have e2 : Fs (c - 1) (m + 1) = Fs (c - 1) m + (c - 1) / 2 ^ (m + 1) := rfl
    have e3 : (2 * c - 1) / 2 ^ (m + 1 + 1) = (c - 1) / 2 ^ (m + 1) := by
      rw [pwS (m + 1), ← Int.ediv_ediv_of_nonneg (by decide : (0 : Int) ≤ 2)]
      congr 1
      omega
    rw [e1, e2, e3, ih]
    omega
theorem Fs_top {c : Int} (h : 0 ≤ c) {l : Nat} (hl : 1 ≤ l) : 1 + (l : Int) - c + Fs (c - 1) (l - 1) ≤ l + (if c = 0 then 1 else 0) := by
  split
  · rename_i h0
    subst h0
    have := Fs_neg (l - 1)
    rw [show (0 : Int) - 1 = -1 by omega]
    omega
  · have := Fs_le (show 0 ≤ c - 1 by omega) (l - 1)
    have : 0 ≤ (c - 1) / 2 ^ (l - 1) := Int.ediv_nonneg (by omega) (Int.le_of_lt (pw0 _))
    omega
/-- whether a prefix has a code behind it -/
def InC (l : Nat) (c : Int) (d k : Nat) (w : Int) : Prop := k < l ∧ (w * 2 ^ (l - k) < c ∨ (k ≤ d ∧ w = c / 2 ^ (l - k)))
def thr (f : Nat → Int) (n l : Nat) (c : Int) (k : Nat) : Int := if k < l then ac f n k else c
/-- what a cell of the tree must be -/
def Cel (T : Nat → Int) (N : Nat) (f : Nat → Int) (n l : Nat) (c : Int) (d : Nat) (K : Nat → Nat) (V : Nat → Int) (k : Nat) (w x : Int) : Prop :=
  (w < thr f n l c k → ∃ s : Nat, s < n ∧ f s = (k : Int) ∧ cd f n s = w ∧ x = -1 - s) ∧
  (thr f n l c k ≤ w → InC l c d k w → ∃ y : Nat, 0 < y ∧ y < N ∧ x = y ∧ K y = k ∧ V y = w) ∧
  (thr f n l c k ≤ w → ¬ InC l c d k w → x = 0)
def TG (T : Nat → Int) (N : Nat) (f : Nat → Int) (n l : Nat) (c : Int) (d : Nat) (K : Nat → Nat) (V : Nat → Int) : Prop :=
  (1 ≤ N ∧ K 0 = 0 ∧ V 0 = 0) ∧ (∀ i, i < N → i ≠ 0 → 1 ≤ K i ∧ ac f n (K i) ≤ V i ∧ InC l c d (K i) (V i)) ∧
  (∀ i j, i < N → j < N → K i = K j → V i = V j → i = j) ∧
  ∀ i, i < N → ∀ e : Nat, e ≤ 1 → Cel T N f n l c d K V (K i + 1) (2 * V i + e) (T (2 * i + e))
theorem TG.init (f : Nat → Int) (n : Nat) {T : Nat → Int} (h0 : T 0 = 0) (h1 : T 1 = 0) : TG T 1 f n 1 0 0 (fun _ => 0) (fun _ => 0) := by
  refine ⟨⟨by omega, rfl, rfl⟩, fun i h1 h2 => absurd h1 (by omega), fun i j h1 h2 _ _ => by omega, fun i hi e he => ⟨fun h => ?_, fun _ h => ?_, fun _ _ => ?_⟩⟩
  · unfold thr at h
    rw [if_neg (by omega)] at h
    dsimp only at h
    omega
  · exact absurd h.1 (by omega)
  · rcases (show 2 * i + e = 0 ∨ 2 * i + e = 1 by omega) with h | h <;> rw [h] <;> assumption
section TreeG
variable {T : Nat → Int} {N : Nat} {f : Nat → Int} {n l : Nat} {c : Int} {d : Nat} {K : Nat → Nat} {V : Nat → Int}
theorem TG.val (h : TG T N f n l c d K V) {i : Nat} (hi : i < N) : 0 ≤ V i := by
  by_cases h0 : i = 0
  · rw [h0, h.1.2.2]
    exact Int.le_refl 0
  · have h1 := (h.2.1 i hi h0).2.1
    have h2 := (ac_le f n (K i)).1
    omega
theorem div_half (c : Int) (q : Nat) : c / 2 ^ (q + 1) = c / 2 ^ q / 2 := by
  rw [Int.ediv_ediv_of_nonneg (Int.le_of_lt (pw0 q)), pwS, Int.mul_comm]
theorem thr_le (hc : 2 * ac f n (l - 1) ≤ c) {k : Nat} (hk : k < l) : thr f n l c k ≤ c / 2 ^ (l - k) := by
  unfold thr
  rw [if_pos hk]
  refine Int.le_ediv_of_mul_le (pw0 _) ?_
  have h1 := ac_ge' f n (show k ≤ l - 1 by omega)
  rw [show l - k = (l - 1 - k) + 1 by omega, pwS, Int.mul_left_comm]
  omega
/-- growing: the next node is there -/
theorem TG.walk (h : TG T N f n l c d K V) (hc : 2 * ac f n (l - 1) ≤ c) {i : Nat} (hi : i < N) (hK : K i = d) (hV : V i = c / 2 ^ (l - d)) {e q : Nat} (hq : q = l - 1 - d) (hd : d + 1 < l) (he : (e : Int) = c / 2 ^ q % 2) (hT : T (2 * i + e) ≠ 0) :
    ∃ y : Nat, y < N ∧ T (2 * i + e) = y ∧ K y = d + 1 ∧ V y = c / 2 ^ (l - (d + 1)) ∧ TG T N f n l c (d + 1) K V := by
  have hcel := h.2.2.2 i hi e (by omega)
  have e1 : 2 * V i + e = c / 2 ^ q := by
    rw [hV, he, show l - d = q + 1 by omega, div_half]
    omega
  rw [e1, hK] at hcel
  have e2 : l - (d + 1) = q := by omega
  have ht := thr_le hc (show d + 1 < l by omega)
  rw [e2] at ht ⊢
  have hin : c / 2 ^ q * 2 ^ q < c := by
    by_cases hh : c / 2 ^ q * 2 ^ q < c
    · exact hh
    · refine absurd (hcel.2.2 ht ?_) hT
      rintro ⟨_, g | g⟩
      · rw [e2] at g
        exact hh g
      · omega
  obtain ⟨y, y1, y2, y3, y4, y5⟩ := hcel.2.1 ht ⟨by omega, Or.inl (by rw [e2]; exact hin)⟩
  have hiff : ∀ k w, InC l c (d + 1) k w ↔ InC l c d k w := by
    intro k w
    constructor
    · rintro ⟨g1, g2 | ⟨g2, g3⟩⟩
      · exact ⟨g1, Or.inl g2⟩
      · by_cases hk : k = d + 1
        · subst hk
          refine ⟨g1, Or.inl ?_⟩
          rw [g3, e2]
          exact hin
        · exact ⟨g1, Or.inr ⟨by omega, g3⟩⟩
    · rintro ⟨g1, g2 | ⟨g2, g3⟩⟩
      · exact ⟨g1, Or.inl g2⟩
      · exact ⟨g1, Or.inr ⟨by omega, g3⟩⟩
  refine ⟨y, y2, y3, y4, y5, h.1, fun j hj hj0 => ?_, h.2.2.1, fun j hj e' he' => ?_⟩
  · rw [hiff]
    exact h.2.1 j hj hj0
  · have := h.2.2.2 j hj e' he'
    unfold Cel at this ⊢
    rw [hiff]
    exact this
/-- growing: a new node -/
theorem TG.new (h : TG T N f n l c d K V) (hc : 2 * ac f n (l - 1) ≤ c) {i : Nat} (hi : i < N) (hK : K i = d) (hV : V i = c / 2 ^ (l - d)) {e q : Nat} (hq : q = l - 1 - d) (hd : d + 1 < l) (he : (e : Int) = c / 2 ^ q % 2) (hT : T (2 * i + e) = 0) {T' : Nat → Int}
    (t1 : T' (2 * i + e) = N) (t2 : T' (2 * N) = 0) (t3 : T' (2 * N + 1) = 0) (t4 : ∀ j, j < 2 * N → j ≠ 2 * i + e → T' j = T j) :
    c / 2 ^ q * 2 ^ q = c ∧ ∃ K' V', K' N = d + 1 ∧ V' N = c / 2 ^ (l - (d + 1)) ∧ TG T' (N + 1) f n l c (d + 1) K' V' := by
  have hcel := h.2.2.2 i hi e (by omega)
  have e1 : 2 * V i + e = c / 2 ^ q := by
    rw [hV, he, show l - d = q + 1 by omega, div_half]
    omega
  rw [e1, hK] at hcel
  have e2 : l - (d + 1) = q := by omega
  have ht := thr_le hc (show d + 1 < l by omega)
  rw [e2] at ht ⊢
  have hle : c / 2 ^ q * 2 ^ q ≤ c := Int.ediv_mul_le c (Int.ne_of_gt (pw0 q))
  have hnin : ¬ InC l c d (d + 1) (c / 2 ^ q) := fun g => by
    obtain ⟨y, y1, y2, y3, y4, y5⟩ := hcel.2.1 ht g
    omega
  have heq : c / 2 ^ q * 2 ^ q = c := by
    by_cases hh : c / 2 ^ q * 2 ^ q < c
    · exact absurd ⟨by omega, Or.inl (by rw [e2]; exact hh)⟩ hnin
    · omega
  refine ⟨heq, fun j => if j = N then d + 1 else K j, fun j => if j = N then c / 2 ^ q else V j, if_pos rfl, if_pos rfl, ?_⟩
  have hmono : ∀ k w, InC l c d k w → InC l c (d + 1) k w := fun k w g => ⟨g.1, g.2.imp id (fun g => ⟨by omega, g.2⟩)⟩
  have h0 := h.1
  refine ⟨⟨by omega, ?_, ?_⟩, ?_, ?_, ?_⟩
  · show (if 0 = N then d + 1 else K 0) = 0
    rw [if_neg (by omega)]
    exact h0.2.1
  · show (if 0 = N then c / 2 ^ q else V 0) = 0
    rw [if_neg (by omega)]
    exact h0.2.2
  · intro j hj hj0
    dsimp only
    by_cases hjN : j = N
    · rw [if_pos hjN, if_pos hjN]
      refine ⟨by omega, ?_, by omega, Or.inr ⟨by omega, by rw [e2]⟩⟩
      unfold thr at ht
      rw [if_pos (by omega)] at ht
      exact ht
    · rw [if_neg hjN, if_neg hjN]
      have := h.2.1 j (by omega) hj0
      exact ⟨this.1, this.2.1, hmono _ _ this.2.2⟩
  · have key : ∀ j, j < N → K j = d + 1 → V j = c / 2 ^ q → False := by
      intro j hj g1 g2
      by_cases hj0 : j = 0
      · rw [hj0, h0.2.1] at g1
        omega
      · have := (h.2.1 j hj hj0).2.2
        rw [g1, g2] at this
        exact hnin this
    intro i' j' hi' hj' g1 g2
    dsimp only at g1 g2
    by_cases a1 : i' = N
    · by_cases a2 : j' = N
      · omega
      · rw [if_pos a1, if_neg a2] at g1 g2
        exact absurd (key j' (by omega) g1.symm g2.symm) id
    · by_cases a2 : j' = N
      · rw [if_neg a1, if_pos a2] at g1 g2
        exact absurd (key i' (by omega) g1 g2) id
      · rw [if_neg a1, if_neg a2] at g1 g2
        exact h.2.2.1 i' j' (by omega) (by omega) g1 g2
  · intro j hj e' he'
    dsimp only
    by_cases hjN : j = N
    · rw [if_pos hjN, if_pos hjN, hjN]
      have tz : T' (2 * N + e') = 0 := by
        rcases (show e' = 0 ∨ e' = 1 by omega) with g | g <;> subst g
        · exact t2
        · exact t3
      have hq1 : 1 ≤ q := by omega
      have hpq : (2 : Int) ^ q = 2 * 2 ^ (q - 1) := by
        rw [← pwS]
        congr 1
        omega
      have hthr : thr f n l c (d + 1 + 1) ≤ 2 * (c / 2 ^ q) := by
        unfold thr
        by_cases hk : d + 1 + 1 < l
        · rw [if_pos hk]
          have g1 := ac_ge' f n (show d + 1 + 1 ≤ l - 1 by omega)
          rw [show l - 1 - (d + 1 + 1) = q - 2 by omega] at g1
          have hpq2 : (2 : Int) ^ (q - 1) = 2 * 2 ^ (q - 2) := by
            rw [← pwS]
            congr 1
            omega
          refine Int.le_of_mul_le_mul_right (c := 2 * (c / 2 ^ q)) (a := 2 ^ (q - 1)) ?_ (pw0 _)
          have g2 : 2 * (c / 2 ^ q) * 2 ^ (q - 1) = c := by
            rw [Int.mul_right_comm, ← hpq, Int.mul_comm]
            exact heq
          rw [g2, hpq2, Int.mul_left_comm]
          omega
        · rw [if_neg hk]
          have : q = 1 := by omega
          subst this
          have : (2 : Int) ^ 1 = 2 := rfl
          omega
      refine ⟨fun g => absurd g (by omega), fun _ g => ?_, fun _ _ => tz⟩
      exfalso
      obtain ⟨g1, g2 | g2⟩ := g
      · rw [show l - (d + 1 + 1) = q - 1 by omega] at g2
        have g3 : 2 * (c / 2 ^ q) * 2 ^ (q - 1) = c := by
          rw [Int.mul_right_comm, ← hpq, Int.mul_comm]
          exact heq
        have g4 : 2 * (c / 2 ^ q) * 2 ^ (q - 1) ≤ (2 * (c / 2 ^ q) + e') * 2 ^ (q - 1) := Int.mul_le_mul_of_nonneg_right (by omega) (Int.le_of_lt (pw0 _))
        omega
      · omega
    · rw [if_neg hjN, if_neg hjN]
      have hj' : j < N := by omega
      have hc' := h.2.2.2 j hj' e' he'
      by_cases hcell : 2 * j + e' = 2 * i + e
      · have hji : j = i := by omega
        have hee : e' = e := by omega
        subst hji hee
        rw [hK, e1, t1]
        refine ⟨fun g => absurd g (by omega), fun _ _ => ⟨N, by omega, by omega, rfl, if_pos rfl, if_pos rfl⟩, fun _ g => absurd ⟨by omega, Or.inr ⟨by omega, by rw [e2]⟩⟩ g⟩
      · rw [t4 _ (by omega) hcell]
        refine ⟨hc'.1, fun g1 g2 => ?_, fun g1 g2 => hc'.2.2 g1 fun g3 => g2 (hmono _ _ g3)⟩
        have g3 : InC l c d (K j + 1) (2 * V j + e') := by
          refine ⟨g2.1, ?_⟩
          rcases g2.2 with g | ⟨g, gw⟩
          · exact Or.inl g
          · by_cases hkd : K j + 1 ≤ d
            · exact Or.inr ⟨hkd, gw⟩
            · exfalso
              have hkd2 : K j = d := by omega
              rw [hkd2, e2] at gw
              refine hcell ?_
              have hV2 : V j = V i := by
                rw [hV, show l - d = q + 1 by omega, div_half]
                omega
              have := h.2.2.1 j i hj' hi (show K j = K i by omega) hV2
              subst this
              omega
        obtain ⟨y, y1, y2, y3, y4, y5⟩ := hc'.2.1 g1 g3
        exact ⟨y, y1, by omega, y3, (if_neg (show ¬ y = N by omega)).trans y4, (if_neg (show ¬ y = N by omega)).trans y5⟩
/-- growing: the code's end -/
theorem TG.leaf (h : TG T N f n l c (l - 1) K V) (hl : 1 ≤ l) (hc0 : 0 ≤ c) (hc : 2 * ac f n (l - 1) ≤ c) {i : Nat} (hi : i < N) (hK : K i = l - 1) (hV : V i = c / 2) {e s : Nat} (he : (e : Int) = c % 2) (hs : s < n) (hfs : f s = l) (hcd : cd f n s = c) {T' : Nat → Int}
    (t1 : T' (2 * i + e) = -1 - s) (t4 : ∀ j, j ≠ 2 * i + e → T' j = T j) : TG T' N f n l (c + 1) 0 K V := by
  have hin : ∀ k w, k < l → 1 ≤ k → (InC l c (l - 1) k w ↔ InC l (c + 1) 0 k w) := by
    intro k w hk hk1
    have hp := pw0 (l - k)
    constructor
    · rintro ⟨g1, g2 | ⟨g2, g3⟩⟩
      · exact ⟨g1, Or.inl (by omega)⟩
      · refine ⟨g1, Or.inl ?_⟩
        have := Int.ediv_mul_le c (Int.ne_of_gt hp)
        rw [g3]
        omega
    · rintro ⟨g1, g2 | ⟨g2, g3⟩⟩
      · refine ⟨g1, ?_⟩
        by_cases hh : w * 2 ^ (l - k) < c
        · exact Or.inl hh
        · refine Or.inr ⟨by omega, ?_⟩
          have : w * 2 ^ (l - k) = c := by omega
          rw [← this, Int.mul_ediv_cancel _ (Int.ne_of_gt hp)]
      · omega
  refine ⟨h.1, fun j hj hj0 => ?_, h.2.2.1, fun j hj e' he' => ?_⟩
  · have := h.2.1 j hj hj0
    exact ⟨this.1, this.2.1, (hin _ _ this.2.2.1 this.1).mp this.2.2⟩
  · have hkl : K j + 1 ≤ l := by
      by_cases hj0 : j = 0
      · rw [hj0, h.1.2.1]
        omega
      · have := (h.2.1 j hj hj0).2.2.1
        omega
    have hc' := h.2.2.2 j hj e' he'
    by_cases hk : K j + 1 < l
    · have hcell : 2 * j + e' ≠ 2 * i + e := fun g => by
        have : j = i := by omega
        subst this
        omega
      rw [t4 _ hcell]
      have ethr : thr f n l (c + 1) (K j + 1) = thr f n l c (K j + 1) := by
        unfold thr
        rw [if_pos hk, if_pos hk]
      unfold Cel at hc' ⊢
      rw [ethr, ← hin _ _ hk (by omega)]
      exact hc'
    · have hk2 : K j + 1 = l := by omega
      have ethr : thr f n l (c + 1) (K j + 1) = c + 1 := if_neg (by omega)
      have ethr2 : thr f n l c (K j + 1) = c := if_neg (by omega)
      unfold Cel at hc' ⊢
      rw [ethr]
      rw [ethr2] at hc'
      by_cases hcell : 2 * j + e' = 2 * i + e
      · have hji : j = i := by omega
        have hee : e' = e := by omega
        subst hji hee
        rw [t1]
        have ew : 2 * V j + e' = c := by omega
        refine ⟨fun _ => ⟨s, hs, by rw [hfs, hk2], by rw [hcd, ew], rfl⟩, fun g => absurd g (by omega), fun g => absurd g (by omega)⟩
      · rw [t4 _ hcell]
        have hne : 2 * V j + e' ≠ c := fun g => by
          have hV2 : V j = V i := by omega
          have hKK : K j = K i := by
            clear hc'
            omega
          have := h.2.2.1 j i hj hi hKK hV2
          subst this
          omega
        refine ⟨fun g => hc'.1 (by omega), fun _ g => absurd g.1 (by omega), fun g1 g2 => hc'.2.2 (by omega) fun g => absurd g.1 (by omega)⟩
/-- the next length -/
theorem TG.next (h : TG T N f n l (ac f n l) 0 K V) (hl : 1 ≤ l) : TG T N f n (l + 1) (2 * ac f n l) 0 K V := by
  have hlt : ∀ j, j < N → K j + 1 ≤ l := fun j hj => by
    by_cases hj0 : j = 0
    · rw [hj0, h.1.2.1]
      omega
    · have := (h.2.1 j hj hj0).2.2.1
      omega
  have hin : ∀ k w, 1 ≤ k → k ≤ l → (InC (l + 1) (2 * ac f n l) 0 k w ↔ w * 2 ^ (l - k) < ac f n l) := by
    intro k w hk hkl
    have e : w * 2 ^ (l + 1 - k) = 2 * (w * 2 ^ (l - k)) := by
      rw [show l + 1 - k = (l - k) + 1 by omega, pwS, Int.mul_left_comm]
    constructor
    · rintro ⟨g1, g2 | g2⟩
      · rw [e] at g2
        omega
      · omega
    · intro g
      exact ⟨by omega, Or.inl (by rw [e]; omega)⟩
  have hin2 : ∀ k w, 1 ≤ k → k < l → (InC l (ac f n l) 0 k w ↔ w * 2 ^ (l - k) < ac f n l) := by
    intro k w hk hkl
    constructor
    · rintro ⟨g1, g2 | g2⟩
      · exact g2
      · omega
    · intro g
      exact ⟨hkl, Or.inl g⟩
  refine ⟨h.1, fun j hj hj0 => ?_, h.2.2.1, fun j hj e' he' => ?_⟩
  · have := h.2.1 j hj hj0
    have g := this.2.2
    have g1 := g.1
    rw [hin2 _ _ this.1 g1] at g
    exact ⟨this.1, this.2.1, (hin _ _ this.1 (by omega)).mpr g⟩
  · have hc' := h.2.2.2 j hj e' he'
    have hk := hlt j hj
    unfold Cel at hc' ⊢
    have ethr : thr f n (l + 1) (2 * ac f n l) (K j + 1) = ac f n (K j + 1) := if_pos (by omega)
    rw [ethr, hin _ _ (by omega) hk]
    by_cases hk2 : K j + 1 < l
    · have ethr2 : thr f n l (ac f n l) (K j + 1) = ac f n (K j + 1) := if_pos hk2
      rw [ethr2, hin2 _ _ (by omega) hk2] at hc'
      exact hc'
    · have hk3 : K j + 1 = l := by omega
      have ethr2 : thr f n l (ac f n l) (K j + 1) = ac f n l := if_neg (by omega)
      rw [ethr2] at hc'
      rw [hk3] at hc' ⊢
      refine ⟨hc'.1, fun g1 g2 => ?_, fun g1 _ => hc'.2.2 g1 fun g => absurd g.1 (by omega)⟩
      rw [show l - l = 0 by omega] at g2
      simp at g2
      omega
/-- reading by a tree that is made -/
theorem TG.read (h : TG T N f n 16 (2 * ac f n 15) 0 K V) {i : Nat} (hi : i < N) : K i ≤ 14 ∧ ∀ e : Nat, e ≤ 1 →
    (2 * V i + e < ac f n (K i + 1) → ∃ s : Nat, s < n ∧ f s = ((K i + 1 : Nat) : Int) ∧ cd f n s = 2 * V i + e ∧ T (2 * i + e) = -1 - s) ∧
    (ac f n (K i + 1) ≤ 2 * V i + e → (∃ y : Nat, 0 < y ∧ y < N ∧ T (2 * i + e) = y ∧ K y = K i + 1 ∧ V y = 2 * V i + e) ∨ (T (2 * i + e) = 0 ∧ ac f n 15 ≤ (2 * V i + e) * 2 ^ (14 - K i))) := by
  have hk : K i ≤ 14 := by
    by_cases hi0 : i = 0
    · rw [hi0, h.1.2.1]
      omega
    · obtain ⟨g1, g2, g3, g4⟩ := h.2.1 i hi hi0
      by_cases hk : K i ≤ 14
      · exact hk
      · have hk2 : K i = 15 := by omega
        rw [hk2] at g2 g4
        rw [show 16 - 15 = 1 by omega, show (2 : Int) ^ 1 = 2 from rfl] at g4
        omega
  refine ⟨hk, fun e he => ?_⟩
  have hc := h.2.2.2 i hi e he
  have ethr : thr f n 16 (2 * ac f n 15) (K i + 1) = ac f n (K i + 1) := if_pos (by omega)
  unfold Cel at hc
  rw [ethr] at hc
  refine ⟨hc.1, fun g => ?_⟩
  have e2 : (2 * V i + e) * 2 ^ (16 - (K i + 1)) = 2 * ((2 * V i + e) * 2 ^ (14 - K i)) := by
    rw [show 16 - (K i + 1) = (14 - K i) + 1 by omega, pwS, Int.mul_left_comm]
  by_cases hin : (2 * V i + e) * 2 ^ (14 - K i) < ac f n 15
  · exact Or.inl (hc.2.1 g ⟨by omega, Or.inl (by rw [e2]; omega)⟩)
  · refine Or.inr ⟨hc.2.2 g ?_, by omega⟩
    rintro ⟨g1, g2 | g2⟩
    · rw [e2] at g2
      omega
    · omega
end TreeG
