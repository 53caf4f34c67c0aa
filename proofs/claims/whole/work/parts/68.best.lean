/-! How many bits a made part's header takes. -/
theorem hdb_sum {z : Nat → Int} (hz : ∀ s, 0 ≤ z s) {q : Nat × (Nat → Int) × (Nat → Int)} (hok : TdOK q) : sm (fun s => z s * cZ q s) 19 + sm (fun t => ((sbits (q.2.1 t).toNat : Nat) : Int)) q.1 = ((hdb z q q.1 : Nat) : Int) := by
  have key : ∀ m, m ≤ q.1 → sm (fun t => if 0 ≤ q.2.1 t then z (q.2.1 t).toNat else 0) m + sm (fun t => ((sbits (q.2.1 t).toNat : Nat) : Int)) m = ((hdb z q m : Nat) : Int) := by
    intro m
    induction m with
    | zero => intro _; rfl
    | succ m ih =>
      intro h
      have a := ih (by omega)
      have c := hok m (by omega)
      have d := hz (q.2.1 m).toNat
      rw [sm, sm, hdb, if_pos c.1]
      omega
  rw [show (fun s => z s * cZ q s) = fun s => z s * cn q.2.1 s q.1 from rfl, exch z q.2.1 19 q.1 fun t ht => by have := hok t ht; omega]
  exact key q.1 (Nat.le_refl _)
section SBest
variable {Y : Gl} {X : Cx} {e : Nat} {iv av : IVt} {beg : Nat} {b : Bw}
theorem c_bitsFor {k k1 n m : Nat} {f c : Nat → Int} (K : CodeK RV 116 k) (K1 : CodeK RV 116 k1) (hn : kl (k + 2) = n) (hm : kl (k1 + 1) = m) (hn2 : n ≤ 288) (hf : ∀ s, s < n → av (k + 2) s = f s) (hf2 : ∀ s, 0 ≤ f s ∧ f s ≤ 15) (hc : ∀ s, s < m → av (k1 + 1) s = c s) (hc0 : ∀ s, m ≤ s → c s = 0) (hc2 : ∀ s, 0 ≤ c s ∧ c s ≤ 10000) : OkN Y (e + 1) mX3_bitsFor [.ref (gl_b Y + k), .ref (gl_b Y + k1)] RV iv av 116 (Same iv av (sm (fun s => f s * c s) n)) := by
  have h := s_X3_bitsFor (Y := Y) (e := e) (iv := iv) (av := av) (g := fun s => f s * c s) K K1 (fun s hs => ?_) (fun s hs => ?_)
  · rw [hn] at h
    exact h
  · rw [hm, hf s (by omega)]
    by_cases h : s < m
    · rw [if_pos h, hc s h]
    · rw [if_neg h, hc0 s (by omega)]
  · have q := sm_bd (f := fun s => f s * c s) (b := 150000) (fun t => ⟨Int.mul_nonneg (hf2 t).1 (hc2 t).1, by
      have := Int.mul_le_mul (hf2 t).2 (hc2 t).2 (hc2 t).1 (by omega)
      omega⟩) s
    omega
/-- the three sorts' bits, the best sort -/
def bSto (p n : Nat) : Nat := 3 + (8 - (p + 3) % 8) % 8 + 32 + 8 * n
def bFix (g : Nat × (Nat → Int) × (Nat → Int)) : Nat := 3 + (tkbs fxL (fun _ => 5) g g.1 + (fxL 256).toNat)
def bMad (z : Nat → Int) (q g : Nat × (Nat → Int) × (Nat → Int)) : Nat := 17 + 3 * tsz z + hdb z q q.1 + (tkbs (lnS g) (lnD g) g g.1 + (lnS g 256).toNat)
def bSort (x y z : Nat) : Int := if x ≤ y ∧ x ≤ z then 0 else if y ≤ z then 1 else 2
theorem fxL_le (s : Nat) : 0 ≤ fxL s ∧ fxL s ≤ 15 := by
  unfold fxL
  split
  · omega
  · split
    · omega
    · split <;> omega
theorem s_X8_bestSort {g q : Nat × (Nat → Int) × (Nat → Int)} (hok : TokOK g) (hg : g.1 ≤ 4096) (hqo : TdOK q) (hq : q.1 ≤ 320) (c33 : CdC av 33 (lnS g) 288 286) (c37 : CdC av 37 (lnD g) 32 30) (c41 : CdC av 41 (lnZ q) 19 19) (h47 : ∀ s, s < 288 → av 47 s = fxL s) (h51 : ∀ s, s < 32 → av 51 s = 5) (h34 : ∀ s, s < 286 → av 34 s = cS g s) (h38 : ∀ s, s < 30 → av 38 s = cD g s) (h42 : ∀ s, s < 19 → av 42 s = cZ q s) (hT : TdC iv av q) (h11 : iv 22 11 = sm (tmb g) g.1) (hS : SK iv av beg b) {n : Nat} (hn : n ≤ 4096) : OkN Y (e + 2) mX8_bestSort [.ref (gl_b Y + 22), .int (i32 (n : Int))] RV iv av 116 (Same iv av (bSort (bSto b.1 n) (bFix g) (bMad (lnZ q) q g))) := by
  have K45 : CodeK RV 116 45 := ⟨rfl, rfl, rfl, rfl, by omega, rfl, rfl, rfl⟩
  have K49 : CodeK RV 116 49 := ⟨rfl, rfl, rfl, rfl, by omega, rfl, rfl, rfl⟩
  have f1 := c_bitsFor (Y := Y) (e := e) (iv := iv) (av := av) (f := lnS g) (c := cS g) c33.1 c33.1 (n := 286) (m := 286) rfl rfl (by omega) (fun s hs => (c33.2.2.2.2 s hs).1) (lnS_le g) h34 (fun s hs => cS_0 hok hs) (cS_le g hg)
  have f2 := c_bitsFor (Y := Y) (e := e) (iv := iv) (av := av) (f := lnD g) (c := cD g) c37.1 c37.1 (n := 30) (m := 30) rfl rfl (by omega) (fun s hs => (c37.2.2.2.2 s hs).1) (lnD_le g) h38 (fun s hs => cD_0 hs) (cD_le g hg)
  have f3 := c_bitsFor (Y := Y) (e := e) (iv := iv) (av := av) (f := fxL) (c := cS g) K45 c33.1 (n := 288) (m := 286) rfl rfl (by omega) h47 fxL_le h34 (fun s hs => cS_0 hok hs) (cS_le g hg)
  have f4 := c_bitsFor (Y := Y) (e := e) (iv := iv) (av := av) (f := fun _ => 5) (c := cD g) K49 c37.1 (n := 32) (m := 30) rfl rfl (by omega) h51 (fun _ => by omega) h38 (fun s hs => cD_0 hs) (cD_le g hg)
  have f5 := c_bitsFor (Y := Y) (e := e) (iv := iv) (av := av) (f := lnZ q) (c := cZ q) c41.1 c41.1 (n := 19) (m := 19) rfl rfl (by omega) (fun s hs => (c41.2.2.2.2 s hs).1) (fun s => by have := lnZ_le q s; omega) h42 (fun s hs => cZ_0 hqo hs) (cZ_le q hq)
  have e1 := bits_sum (fs := lnS g) (fd := lnD g) (fun s => (lnS_le g s).1) (fun s => (lnD_le g s).1) hok (N := 286) (M := 30) (by omega) (by omega)
  have e2 := bits_sum (fs := fxL) (fd := fun _ => 5) (fun s => (fxL_le s).1) (fun s => by omega) hok (N := 288) (M := 32) (by omega) (by omega)
  have e3 := hdb_sum (z := lnZ q) (fun s => (lnZ_le q s).1) hqo
  have b1 := tkbs_le (fun s => (lnS_le g s).2) (fun s => (lnD_le g s).2) g g.1
  have b2 := tkbs_le (fun s => (fxL_le s).2) (fun s => show (fun _ : Nat => (5 : Int)) s ≤ 15 by show (5 : Int) ≤ 15; omega) g g.1
  have b3 := lnS_le g 256
  have b4 := fxL_le 256
  have ez : tsz (av 43) = tsz (lnZ q) := nd_congr 4 19 fun i hi => (c41.2.2.2.2 _ (ordN_lt i hi)).1
  have hz4 := tsz_in (lnZ q)
  have hS0 := sm_bd (f := fun t => ((sbits (q.2.1 t).toNat : Nat) : Int)) (b := 7) (fun t => by have := sbits_le (q.2.1 t).toNat; omega)
  have hSq := hS0 q.1
  have hZb := sm_bd (f := fun s => lnZ q s * cZ q s) (b := 70000) (fun t => by
    have a1 := lnZ_le q t
    have a2 := cZ_le q hq t
    exact ⟨Int.mul_nonneg a1.1 a2.1, by have := Int.mul_le_mul a1.2 a2.2 a2.1 (by omega); omega⟩) 19
  refine o_X8_bestSort fun X C => OkN.mono s_X8_toldSizes ?_
  rintro r iv1 av1 hR1 ⟨hr1, rfl, rfl⟩ _
  rw [ez] at hr1
  subst hr1
  refine OkN.mono f5 ?_
  rintro r iv2 av2 hR2 ⟨hr2, rfl, rfl⟩ _
  subst hr2
  have fin : ∀ x2 : Int, x2 = 14 + 3 * ((tsz (lnZ q) : Nat) : Int) + ((hdb (lnZ q) q q.1 : Nat) : Int) → L_X8_bestSort_24 Y X (Same iv2 av2 (bSort (bSto b.1 n) (bFix g) (bMad (lnZ q) q g))) n x2 q.1 iv2 av2 := by
    intro x2 hx2
    have h14 := hT.1
    refine w_X8_bestSort_24 C (by omega) fun _ => ⟨fun _ => OkN.mono f1 ?_, fun g' => absurd g' (by omega)⟩
    rintro r3 iv3 av3 hR3 ⟨hr3, rfl, rfl⟩ _
    refine OkN.mono f2 ?_
    rintro r7 iv4 av4 hR4 ⟨hr7, rfl, rfl⟩ _ _
    refine OkN.mono f3 ?_
    rintro r12 iv5 av5 hR5 ⟨hr12, rfl, rfl⟩ _
    refine OkN.mono f4 ?_
    rintro r16 iv6 av6 hR6 ⟨hr16, rfl, rfl⟩ _ _
    refine OkN.mono (s_X0_bitsToByte (k := 3) hS (by omega)) ?_
    rintro r21 iv7 av7 hR7 ⟨hr21, rfl, rfl⟩ _
    rw [h11]
    have hS5 : (8 - (b.1 + 3) % 8) % 8 ≤ 7 := by omega
    have v1 : bFix g = 3 + (tkbs fxL (fun _ => 5) g g.1 + (fxL 256).toNat) := rfl
    have v2 : bMad (lnZ q) q g = 17 + 3 * tsz (lnZ q) + hdb (lnZ q) q q.1 + (tkbs (lnS g) (lnD g) g g.1 + (lnS g 256).toNat) := rfl
    have v3 : bSto b.1 n = 3 + (8 - (b.1 + 3) % 8) % 8 + 32 + 8 * n := rfl
    have F : 3 + r12 + r16 + sm (tmb g) g.1 = ((bFix g : Nat) : Int) := by
      rw [v1, hr12, hr16]
      generalize sm (fun s => fxL s * cS g s) 288 = S3 at *
      generalize sm (fun s => 5 * cD g s) 32 = S4 at *
      generalize sm (tmb g) g.1 = M at *
      clear hS0
      omega
    have Md : 3 + x2 + r3 + r7 + sm (tmb g) g.1 = ((bMad (lnZ q) q g : Nat) : Int) := by
      rw [v2, hr3, hr7]
      generalize sm (fun s => lnS g s * cS g s) 286 = S3 at *
      generalize sm (fun s => lnD g s * cD g s) 30 = S4 at *
      generalize sm (tmb g) g.1 = M at *
      clear hS0
      omega
    have So : 3 + r21 + 32 + 8 * (n : Int) = ((bSto b.1 n : Nat) : Int) := by
      rw [v3, hr21]
      omega
    rw [F, Md, So]
    have lF : bFix g ≤ 10000000 := by rw [v1]; omega
    have lM : bMad (lnZ q) q g ≤ 10000000 := by
      rw [v2]
      generalize sm (fun s => lnZ q s * cZ q s) 19 = S3 at *
      generalize sm (fun t => ((sbits (q.2.1 t).toNat : Nat) : Int)) q.1 = S4 at *
      clear hS0
      omega
    have lS : bSto b.1 n ≤ 10000000 := by rw [v3]; omega
    have l159 : ¬ (bSto b.1 n ≤ bFix g ∧ bSto b.1 n ≤ bMad (lnZ q) q g) → L_X8_bestSort_159 Y X (Same iv7 av7 (bSort (bSto b.1 n) (bFix g) (bMad (lnZ q) q g))) ((bMad (lnZ q) q g : Nat) : Int) ((bFix g : Nat) : Int) iv7 av7 := by
      intro hno
      refine w_X8_bestSort_159 C (by omega) (by omega) ⟨fun h => ⟨?_, rfl, rfl⟩, fun h => ⟨?_, rfl, rfl⟩⟩
      · unfold bSort
        rw [if_neg hno, if_neg (by omega)]
      · unfold bSort
        rw [if_neg hno, if_pos (by omega)]
    refine ⟨by omega, by omega, fun h => l159 (by omega), fun h => ⟨by omega, fun h2 => l159 (by omega), fun h2 => ⟨?_, rfl, rfl⟩⟩⟩
    unfold bSort
    rw [if_pos (by omega)]
  have lp : ∀ (m t : Nat), t + m = q.1 → L_X8_bestSort_24 Y X (Same iv2 av2 (bSort (bSto b.1 n) (bFix g) (bMad (lnZ q) q g))) n (14 + 3 * ((tsz (lnZ q) : Nat) : Int) + sm (fun s => lnZ q s * cZ q s) 19 + sm (fun t => ((sbits (q.2.1 t).toNat : Nat) : Int)) t) t iv2 av2 := by
    intro m
    induction m with
    | zero =>
      intro t ht
      have et : t = q.1 := by omega
      subst et
      refine fin _ ?_
      rw [Int.add_assoc, e3]
    | succ m ih =>
      intro t ht
      have h14 := hT.1
      have c := hqo t (by omega)
      refine w_X8_bestSort_24 C (by omega) fun _ => ⟨fun g' => absurd g' (by omega), fun _ => ⟨fun g' => absurd g' (by omega), fun _ => ⟨by omega, ?_⟩⟩⟩
      rw [Int.toNat_natCast, (hT.2 t (by omega)).1]
      refine fun hr => OkN.mono (s_X11_sizeBits hr) ?_
      rintro r3 iv3 av3 hR3 ⟨hr3, rfl, rfl⟩ _
      have := ih (t + 1) (by omega)
      rw [show sm (fun t => ((sbits (q.2.1 t).toNat : Nat) : Int)) (t + 1) = sm (fun t => ((sbits (q.2.1 t).toNat : Nat) : Int)) t + ((sbits (q.2.1 t).toNat : Nat) : Int) from rfl, ← Int.add_assoc] at this
      rw [hr3, show (t : Int) + 1 = ((t + 1 : Nat) : Int) by omega]
      exact this
  have := lp q.1 0 (by omega)
  rw [show sm (fun t => ((sbits (q.2.1 t).toNat : Nat) : Int)) 0 = 0 from rfl, Int.add_zero] at this
  exact this
end SBest
