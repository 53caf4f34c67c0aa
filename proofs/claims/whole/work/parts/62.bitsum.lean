/-! How many bits a part's tokens take: counted by tokens, and by symbols. -/
theorem sm_add (f g : Nat → Int) : ∀ n, sm (fun s => f s + g s) n = sm f n + sm g n := by
  intro n
  induction n with
  | zero => rfl
  | succ n ih =>
    rw [sm, sm, sm, ih]
    omega
theorem sm_ind (f : Nat → Int) (x : Int) : ∀ n : Nat, sm (fun s => f s * (if x = (s : Int) then 1 else 0)) n = if 0 ≤ x ∧ x < n then f x.toNat else 0 := by
  intro n
  induction n with
  | zero => rw [sm, if_neg (by omega)]
  | succ n ih =>
    rw [sm, ih]
    by_cases h : x = (n : Int)
    · rw [if_pos h, if_neg (by omega), if_pos (by omega), Int.mul_one, h, Int.toNat_natCast]
      omega
    · rw [if_neg h, Int.mul_zero, Int.add_zero]
      by_cases h2 : 0 ≤ x ∧ x < n
      · rw [if_pos h2, if_pos (by omega)]
      · rw [if_neg h2, if_neg (by omega)]
theorem sm_zero : ∀ n, sm (fun _ => (0 : Int)) n = 0 := by
  intro n
  induction n with
  | zero => rfl
  | succ n ih => rw [sm, ih]; rfl
/-- sums by symbols are sums by tokens -/
theorem exch (f : Nat → Int) (T : Nat → Int) (n : Nat) : ∀ m : Nat, (∀ t, t < m → T t < n) → sm (fun s => f s * cn T s m) n = sm (fun t => if 0 ≤ T t then f (T t).toNat else 0) m := by
  intro m
  induction m with
  | zero =>
    intro _
    show sm (fun s => f s * 0) n = 0
    rw [sm_congr n (g := fun _ => 0) fun t _ => Int.mul_zero _, sm_zero]
  | succ m ih =>
    intro h
    have hm := h m (by omega)
    rw [sm, ← ih fun t ht => h t (by omega), sm_congr n (g := fun s => f s * cn T s m + f s * (if T m = (s : Int) then 1 else 0)) fun s _ => by rw [cn, Int.mul_add], sm_add, sm_ind]
    by_cases h0 : 0 ≤ T m
    · rw [if_pos h0, if_pos ⟨h0, hm⟩]
    · rw [if_neg h0, if_neg (by omega)]
theorem tsy_in {g : Nat × (Nat → Int) × (Nat → Int)} (hok : TokOK g) {t : Nat} (ht : t < g.1) : 0 ≤ tsy g t ∧ tsy g t < 286 := by
  have h := hok t ht
  have l := lsy_in (g.2.1 t).toNat
  unfold tsy
  split <;> omega
theorem tds_in {g : Nat × (Nat → Int) × (Nat → Int)} (t : Nat) : -1 ≤ tds g t ∧ tds g t < 30 := by
  have l := dsy_in (g.2.2 t).toNat
  unfold tds
  split <;> omega
theorem cS_0 {g : Nat × (Nat → Int) × (Nat → Int)} (hok : TokOK g) {s : Nat} (hs : 286 ≤ s) : cS g s = 0 := by
  unfold cS
  rw [cn_none g.1 fun t ht h => by have := tsy_in hok ht; omega, if_neg (by omega)]
  rfl
theorem cD_0 {g : Nat × (Nat → Int) × (Nat → Int)} {s : Nat} (hs : 30 ≤ s) : cD g s = 0 := by
  unfold cD
  exact cn_none g.1 fun t ht h => by have := tds_in (g := g) t; omega
theorem tkb_sum {fs fd : Nat → Int} (hfs : ∀ s, 0 ≤ fs s) (hfd : ∀ s, 0 ≤ fd s) (g : Nat × (Nat → Int) × (Nat → Int)) (hok : TokOK g) : ∀ m, m ≤ g.1 → sm (fun t => if 0 ≤ tsy g t then fs (tsy g t).toNat else 0) m + sm (fun t => if 0 ≤ tds g t then fd (tds g t).toNat else 0) m + sm (tmb g) m = ((tkbs fs fd g m : Nat) : Int) := by
  intro m
  induction m with
  | zero => intro _; rfl
  | succ m ih =>
    intro h
    have a := ih (by omega)
    have key : (if 0 ≤ tsy g m then fs (tsy g m).toNat else 0) + (if 0 ≤ tds g m then fd (tds g m).toNat else 0) + tmb g m = ((tkb fs fd g m : Nat) : Int) := by
      have i := tsy_in hok (show m < g.1 by omega)
      rw [if_pos i.1]
      unfold tsy tds tmb tkb
      by_cases hz : g.2.1 m = 0
      · simp only [if_pos hz]
        have := hfs (g.2.2 m).toNat
        rw [if_neg (by omega)]
        omega
      · simp only [if_neg hz]
        rw [if_pos (Int.natCast_nonneg _), Int.toNat_natCast, Int.toNat_natCast]
        have a1 := hfs (lsy (g.2.1 m).toNat)
        have a2 := hfd (dsy (g.2.2 m).toNat)
        omega
    rw [sm, sm, sm, tkbs]
    omega
theorem bits_sum {fs fd : Nat → Int} (hfs : ∀ s, 0 ≤ fs s) (hfd : ∀ s, 0 ≤ fd s) {g : Nat × (Nat → Int) × (Nat → Int)} (hok : TokOK g) {N M : Nat} (hN : 286 ≤ N) (hM : 30 ≤ M) : sm (fun s => fs s * cS g s) N + sm (fun s => fd s * cD g s) M + sm (tmb g) g.1 = ((tkbs fs fd g g.1 + (fs 256).toNat : Nat) : Int) := by
  have e1 : sm (fun s => fs s * cS g s) N = sm (fun s => fs s * cn (tsy g) s g.1) N + fs 256 := by
    rw [sm_congr N (g := fun s => fs s * cn (tsy g) s g.1 + fs s * (if (256 : Int) = (s : Int) then 1 else 0)) fun s _ => ?_, sm_add, sm_ind, if_pos (by omega)]
    · rfl
    · unfold cS
      rw [Int.mul_add]
      by_cases h : s = 256
      · rw [if_pos h, if_pos (by omega)]
      · rw [if_neg h, if_neg (by omega)]
  rw [e1, exch fs (tsy g) N g.1 fun t ht => by have := tsy_in hok ht; omega, show (fun s => fd s * cD g s) = fun s => fd s * cn (tds g) s g.1 from rfl, exch fd (tds g) M g.1 fun t ht => by have := tds_in (g := g) t; omega]
  have a := tkb_sum hfs hfd g hok g.1 (Nat.le_refl _)
  have b := hfs 256
  omega
theorem tkb_le {fs fd : Nat → Int} (hfs : ∀ s, fs s ≤ 15) (hfd : ∀ s, fd s ≤ 15) (g : Nat × (Nat → Int) × (Nat → Int)) (t : Nat) : tkb fs fd g t ≤ 50 := by
  have a1 := hfs (g.2.2 t).toNat
  have a2 := hfs (lsy (g.2.1 t).toNat)
  have a3 := hfd (dsy (g.2.2 t).toNat)
  have l5 := lbits_le (lsy (g.2.1 t).toNat)
  have h2 := dsy_in (g.2.2 t).toNat
  have d13 : dbits (dsy (g.2.2 t).toNat) ≤ 14 := by unfold dbits; split <;> omega
  unfold tkb
  split <;> omega
theorem tkbs_le {fs fd : Nat → Int} (hfs : ∀ s, fs s ≤ 15) (hfd : ∀ s, fd s ≤ 15) (g : Nat × (Nat → Int) × (Nat → Int)) : ∀ m, tkbs fs fd g m ≤ 50 * m := by
  intro m
  induction m with
  | zero => exact Nat.le_refl _
  | succ m ih =>
    have := tkb_le hfs hfd g m
    show tkbs fs fd g m + tkb fs fd g m ≤ _
    omega
section SBitsum
variable {Y : Gl} {X : Cx} {e : Nat} {iv av : IVt} {a1 : Nat}
theorem s_X13_bitsBy (Ka : ArrK 100 a1) (hka : kl a1 = 339) {fs fd : Nat → Int} (hfs : ∀ s, 0 ≤ fs s ∧ fs s ≤ 15) (hfd : ∀ s, 0 ≤ fd s ∧ fd s ≤ 15) (hs : ∀ s, s < 288 → av a1 s = fs s) (hd : ∀ d, d < 32 → av a1 (288 + d) = fd d) {g : Nat × (Nat → Int) × (Nat → Int)} (hT : TkR iv av g) (hok : TokOK g) (hg : g.1 ≤ 4096) : OkN Y (e + 3) mX13_bitsBy [.ref (gl_b Y + 73), .ref (gl_b Y + a1)] RV iv av 116 (Same iv av ((tkbs fs fd g g.1 + (fs 256).toNat : Nat) : Int)) := by
  refine o_X13_bitsBy Ka fun X C => ⟨by omega, fun _ => ?_⟩
  have lp : ∀ (m t : Nat), m + t = g.1 → L_X13_bitsBy_8 Y X (Same iv av ((tkbs fs fd g g.1 + (fs 256).toNat : Nat) : Int)) a1 ((tkbs fs fd g t + (fs 256).toNat : Nat) : Int) t iv av := by
    intro m
    induction m with
    | zero =>
      intro t h
      have et : t = g.1 := by omega
      subst et
      have := tkbs_le (fun s => (hfs s).2) (fun s => (hfd s).2) g g.1
      have := (hfs 256).2
      exact w_X13_bitsBy_8 C Ka (by omega) (by omega) fun _ => ⟨fun _ => ⟨rfl, rfl, rfl⟩, fun g' => absurd g' (by have := hT.1; omega)⟩
    | succ m ih =>
      intro t h
      have hb := tkbs_le (fun s => (hfs s).2) (fun s => (hfd s).2) g t
      have hb2 := (hfs 256).2
      obtain ⟨t1, t2⟩ := hT.2 t (by omega)
      have ow := hok t (by omega)
      have hT1 := hT.1
      have nxt : ∀ x : Int, x = ((tkbs fs fd g t + (fs 256).toNat : Nat) : Int) + ((tkb fs fd g t : Nat) : Int) → L_X13_bitsBy_8 Y X (Same iv av ((tkbs fs fd g g.1 + (fs 256).toNat : Nat) : Int)) a1 x ((t : Int) + 1) iv av := by
        intro x hx
        have := ih (t + 1) (by omega)
        rw [show x = ((tkbs fs fd g (t + 1) + (fs 256).toNat : Nat) : Int) by rw [hx, tkbs]; omega, show (t : Int) + 1 = ((t + 1 : Nat) : Int) by omega]
        exact this
      obtain ⟨L, hL⟩ := Int.eq_ofNat_of_zero_le (show 0 ≤ g.2.1 t by omega)
      obtain ⟨V, hV⟩ := Int.eq_ofNat_of_zero_le (show 0 ≤ g.2.2 t by omega)
      have i1 := lsy_in L
      have i2 := dsy_in V
      refine w_X13_bitsBy_8 C Ka (by omega) (by omega) fun _ => ⟨fun g' => absurd g' (by omega), fun _ => ⟨by omega, ?_⟩⟩
      rw [Int.toNat_natCast, t1, hL]
      rw [hL, hV] at ow
      refine fun _ => OkN.mono (s_X13_lengthSymbol (n := L) (by omega)) ?_
      rintro r iv1 av1 hR1 ⟨rfl, rfl, rfl⟩ _
      rw [t2, hV]
      refine fun _ => OkN.mono (s_X13_distanceSymbol (n := V) (by omega)) ?_
      rintro r iv2 av2 hR2 ⟨rfl, rfl, rfl⟩ _
      rw [t1, t2, hL, hV]
      refine fun _ => ⟨fun hne => ⟨by omega, ?_⟩, fun hz => ?_⟩
      · have ek : tkb fs fd g t = (fs (lsy L)).toNat + lbits (lsy L) + (fd (dsy V)).toNat + dbits (dsy V) := by
          unfold tkb
          rw [hL, hV, if_neg hne, Int.toNat_natCast, Int.toNat_natCast]
        rw [Int.toNat_natCast, hs _ (by omega)]
        refine fun _ => OkN.mono (s_X13_lengthBits (s := lsy L) (by omega)) ?_
        rintro r iv3 av3 hR3 ⟨rfl, rfl, rfl⟩ _
        rw [show (288 + ((dsy V : Nat) : Int)).toNat = 288 + dsy V by omega, hd _ (by omega)]
        refine ⟨by omega, fun _ => OkN.mono (s_X13_distanceBits (d := dsy V) (by omega)) ?_⟩
        rintro r iv4 av4 hR4 ⟨rfl, rfl, rfl⟩ _
        refine nxt _ ?_
        have b1 := (hfs (lsy L)).1
        have b2 := (hfd (dsy V)).1
        rw [ek]
        omega
      · have hV255 : V < 256 := by omega
        have ek : tkb fs fd g t = (fs V).toNat := by
          unfold tkb
          rw [hL, hV, if_pos hz, Int.toNat_natCast]
        rw [Int.toNat_natCast, hs _ (by omega)]
        refine fun _ => ⟨by omega, fun _ => nxt _ ?_⟩
        have b1 := (hfs V).1
        rw [ek]
        omega
  have e0 : av a1 256 = ((tkbs fs fd g 0 + (fs 256).toNat : Nat) : Int) := by
    rw [hs 256 (by omega), tkbs]
    have := (hfs 256).1
    omega
  rw [e0]
  exact lp g.1 0 (by omega)
end SBitsum
