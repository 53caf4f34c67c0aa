/-! The class's codes for a part; fixed lengths and needed symbols of the reference. -/
theorem cd_of {f g : Nat → Int} {h : Nat} (hfg : ∀ s, s < h → f s = g s) (hz : ∀ s, h ≤ s → f s = 0) (j : Nat) {s : Nat} (hs : s < h) : cd f (h + j) s = cd g h s := by
  unfold cd
  rw [ac_pad hfg hz j, hfg s hs, cn_congr s fun t ht => hfg t (by omega)]
theorem lns_pad {c : Nat → Int} {n : Nat} (h : ∀ s, n ≤ s → c s ≤ 0) (j lim : Nat) : lns c (n + j) lim = lns c n lim := by
  funext s
  unfold lns lvl
  rw [srt_pad h j]
theorem lns_0 {c : Nat → Int} {n lim s : Nat} (h : c s ≤ 0) : lns c n lim s = 0 := by
  unfold lns
  rw [if_neg (by omega)]
/-- the lengths of a part's codes, of the sizes' code -/
def lnS (g : Nat × (Nat → Int) × (Nat → Int)) : Nat → Int := lns (cS g) 288 15
def lnD (g : Nat × (Nat → Int) × (Nat → Int)) : Nat → Int := lns (cD g) 32 15
def cZ (q : Nat × (Nat → Int) × (Nat → Int)) (s : Nat) : Int := cn q.2.1 s q.1
def lnZ (q : Nat × (Nat → Int) × (Nat → Int)) : Nat → Int := lns (cZ q) 19 7
theorem lnS_le (g : Nat × (Nat → Int) × (Nat → Int)) (s : Nat) : 0 ≤ lnS g s ∧ lnS g s ≤ 15 := lns_le _ _ _ (by omega)
theorem lnD_le (g : Nat × (Nat → Int) × (Nat → Int)) (s : Nat) : 0 ≤ lnD g s ∧ lnD g s ≤ 15 := lns_le _ _ _ (by omega)
theorem lnZ_le (q : Nat × (Nat → Int) × (Nat → Int)) (s : Nat) : 0 ≤ lnZ q s ∧ lnZ q s ≤ 7 := lns_le _ _ _ (by omega)
theorem cS_le (g : Nat × (Nat → Int) × (Nat → Int)) (h : g.1 ≤ 4096) (s : Nat) : 0 ≤ cS g s ∧ cS g s ≤ 10000 := by
  have := cn_le (tsy g) s g.1
  unfold cS
  split <;> omega
theorem cD_le (g : Nat × (Nat → Int) × (Nat → Int)) (h : g.1 ≤ 4096) (s : Nat) : 0 ≤ cD g s ∧ cD g s ≤ 10000 := by
  have := cn_le (tds g) s g.1
  unfold cD
  omega
theorem cZ_le (q : Nat × (Nat → Int) × (Nat → Int)) (h : q.1 ≤ 320) (s : Nat) : 0 ≤ cZ q s ∧ cZ q s ≤ 10000 := by
  have := cn_le q.2.1 s q.1
  unfold cZ
  omega
theorem cZ_0 {q : Nat × (Nat → Int) × (Nat → Int)} (h : TdOK q) {s : Nat} (hs : 19 ≤ s) : cZ q s = 0 := cn_none q.1 fun t ht h2 => by
  have := h t ht
  omega
section SSizes
variable {Y : Gl} {X : Cx} {e : Nat} {iv av : IVt}
theorem mk_CdC {k M j : Nat} {f : Nat → Int} (K : CodeK RV 116 k) (h2 : kl (k + 2) = M) (h3 : kl (k + 3) = M) (hM : M ≤ 288) (hk : 33 ≤ k) (hv : ∀ s, s < M → av (k + 2) s = f s) (hz : ∀ s, M ≤ s → f s = 0) (hb : ∀ s, 0 ≤ f s ∧ f s ≤ 15) : OkN Y (e + 1) mX3_makeCodes [.ref (gl_b Y + k)] RV iv av 116 (fun r iv' av' => iv' = iv ∧ Off [k + 3] av av' ∧ CdC av' k f (M + j) M) := by
  refine OkN.mono (s_X3_makeCodes K (by rw [h2, h3]) (by omega)) ?_
  rintro r iv1 av1 hR1 ⟨rfl, rfl⟩
  refine ⟨rfl, (Off.rf _ _).upA (by simp), K, by omega, by omega, by omega, fun s hs => ⟨?_, hb s, fun hp => ?_⟩⟩
  · rw [upA_ne (by omega)]
    exact hv s hs
  · rw [upA_eq]
    unfold tcF
    rw [h2, if_pos ⟨hs, by rw [hv s hs]; omega, Or.inl (by rw [hv s hs]; have := hb s; omega)⟩, hv s hs, cd_of (fun t ht => (hv t ht).symm) hz j hs]
theorem s_X8_makeCodes {g : Nat × (Nat → Int) × (Nat → Int)} (hok : TokOK g) (hg : g.1 ≤ 4096) (h34 : ∀ s, s < 286 → av 34 s = cS g s) (h38 : ∀ s, s < 30 → av 38 s = cD g s) (h32 : ∀ i, i < 576 → av 32 i = 0) : OkN Y (e + 3) mX8_makeCodes [.ref (gl_b Y + 22)] RV iv av 116
    (fun r iv' av' => iv' = iv ∧ Off [27, 28, 29, 30, 31, 32, 35, 36, 39, 40] av av' ∧ (∀ i, i < 576 → av' 32 i = 0) ∧ CdC av' 33 (lnS g) 288 286 ∧ CdC av' 37 (lnD g) 32 30) := by
  have K33 : CodeK RV 116 33 := ⟨rfl, rfl, rfl, rfl, by omega, rfl, rfl, rfl⟩
  have K37 : CodeK RV 116 37 := ⟨rfl, rfl, rfl, rfl, by omega, rfl, rfl, rfl⟩
  have eS : lns (cS g) 286 15 = lnS g := (lns_pad (n := 286) (fun s hs => by rw [cS_0 hok hs]; exact Int.le_refl 0) 2 15).symm
  have eD : lns (cD g) 30 15 = lnD g := (lns_pad (n := 30) (fun s hs => by rw [cD_0 hs]; exact Int.le_refl 0) 2 15).symm
  refine o_X8_makeCodes (OkN.mono (s_X6_make (lim := 15) (n := 286) (c := cS g) K33 (by omega) rfl rfl (by omega) (by omega) (by omega) (fun m hm => Pn_15 m (by omega)) (cS_le g hg) h34 h32) ?_)
  rintro r iv1 av1 hR1 ⟨rfl, g2, g3, g4⟩
  refine OkN.mono (s_X6_make (lim := 15) (n := 30) (c := cD g) K37 (by omega) rfl rfl (by omega) (by omega) (by omega) (fun m hm => Pn_15 m (by omega)) (cD_le g hg) (fun s hs => by rw [g2 38 (by decide)]; exact h38 s hs) g3) ?_
  rintro r iv2 av2 hR2 ⟨rfl, k2, k3, k4⟩
  refine OkN.mono (mk_CdC (k := 33) (M := 286) (j := 2) (f := lnS g) K33 rfl rfl (by omega) (by omega) (fun s hs => by rw [k2 35 (by decide), ← eS]; exact g4 s hs) (fun s hs => lns_0 (by rw [cS_0 hok hs]; exact Int.le_refl 0)) (lnS_le g)) ?_
  rintro r iv3 av3 hR3 ⟨rfl, u2, u3⟩
  refine OkN.mono (mk_CdC (k := 37) (M := 30) (j := 2) (f := lnD g) K37 rfl rfl (by omega) (by omega) (fun s hs => by rw [u2 39 (by decide), ← eD]; exact k4 s hs) (fun s hs => lns_0 (by rw [cD_0 hs]; exact Int.le_refl 0)) (lnD_le g)) ?_
  rintro r iv4 av4 hR4 ⟨rfl, v2, v3⟩
  refine ⟨rfl, ((g2.mono (by decide)).tr (k2.mono (by decide))).tr ((u2.mono (by decide)).tr (v2.mono (by decide))), fun i hi => ?_, ?_, v3⟩
  · rw [v2 32 (by decide), u2 32 (by decide)]
    exact k3 i hi
  · obtain ⟨c1, c2, c3, c4, c5⟩ := u3
    refine ⟨c1, c2, c3, c4, fun s hs => ?_⟩
    rw [v2 35 (by decide), v2 36 (by decide)]
    exact c5 s hs
theorem s_X13_needed {f n least : Nat} (hfn : f + n ≤ 339) (hl : least < 100000) : OkN Y e mX13_needed [.ref (gl_b Y + 73), .int (i32 (f : Int)), .int (i32 (n : Int)), .int (i32 (least : Int))] RV iv av 116 (Same iv av (nd (fun s => av 99 (f + s)) least n : Nat)) := by
  refine o_X13_needed fun X C => ?_

  · have lp : ∀ m : Nat, m ≤ n → (least ≤ m ∨ m = n) → nd (fun s => av 99 (f + s)) least n = nd (fun s => av 99 (f + s)) least m → L_X13_needed_3 Y X (Same iv av (nd (fun s => av 99 (f + s)) least n : Nat)) f least m iv av := by
      intro m
      induction m with
      | zero =>
        intro h1 h2 h3
        exact w_X13_needed_3 C (by omega) (by omega) ⟨fun _ => ⟨by rw [h3]; rfl, rfl, rfl⟩, fun g => absurd g (by omega)⟩
      | succ m ih =>
        intro h1 h2 h3
        refine w_X13_needed_3 C (by omega) (by omega) ⟨fun g => ⟨by rw [h3, nd, if_pos (Or.inl (by omega))], rfl, rfl⟩, fun g => ⟨by omega, ?_⟩⟩
        rw [show ((f : Int) + ((m + 1 : Nat) : Int) - 1).toNat = f + m by omega]
        refine fun _ => ⟨fun hne => ⟨by rw [h3, nd, if_pos (Or.inr hne)], rfl, rfl⟩, fun hz => ?_⟩
        rw [show ((m + 1 : Nat) : Int) + -1 = (m : Int) by omega]
        refine ih (by omega) (by omega) ?_
        rw [h3, nd, if_neg fun g' => g'.elim (by omega) fun g'' => g'' hz]
    exact lp n (Nat.le_refl _) (Or.inr rfl) rfl

end SSizes
