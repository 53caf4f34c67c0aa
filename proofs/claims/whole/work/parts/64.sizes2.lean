/-! The class's sizes; small things of the reference's parts. -/
section SSizes2
variable {Y : Gl} {X : Cx} {e : Nat} {iv av : IVt}
theorem s_X8_makeSizes {q : Nat × (Nat → Int) × (Nat → Int)} (hT : TdC iv av q) (hok : TdOK q) (hq : q.1 ≤ 320) (h32 : ∀ i, i < 576 → av 32 i = 0) : OkN Y (e + 3) mX8_makeSizes [.ref (gl_b Y + 22)] RV iv av 116
    (fun r iv' av' => iv' = iv ∧ Off [27, 28, 29, 30, 31, 32, 42, 43, 44] av av' ∧ (∀ i, i < 576 → av' 32 i = 0) ∧ CdC av' 41 (lnZ q) 19 19 ∧ ∀ s, s < 19 → av' 42 s = cZ q s) := by
  have K41 : CodeK RV 116 41 := ⟨rfl, rfl, rfl, rfl, by omega, rfl, rfl, rfl⟩
  refine o_X8_makeSizes fun X C => OkN.mono (s_X3_forget K41) ?_
  rintro r iv1 av1 hR1 ⟨rfl, rfl⟩
  have lp : ∀ (m t : Nat) (av1 : IVt), m + t = q.1 → Off [42] av av1 → (∀ s : Nat, s < 19 → av1 42 s = cn q.2.1 s t) → L_X8_makeSizes_9 Y X (fun r iv' av' => iv' = iv1 ∧ Off [27, 28, 29, 30, 31, 32, 42, 43, 44] av av' ∧ (∀ i, i < 576 → av' 32 i = 0) ∧ CdC av' 41 (lnZ q) 19 19 ∧ ∀ s, s < 19 → av' 42 s = cZ q s) t iv1 av1 := by
    intro m
    induction m with
    | zero =>
      intro t av1 h1 h2 h3
      have et : t = q.1 := by omega
      subst et
      refine w_X8_makeSizes_9 C (by omega) fun _ => ⟨fun _ => ?_, fun g => absurd g (by have := hT.1; omega)⟩
      refine OkN.mono (s_X6_make (lim := 7) (n := 19) (c := cZ q) K41 (by omega) rfl rfl (by omega) (by omega) (by omega) (fun m hm => Pn_7 m (by omega)) (cZ_le q hq) h3 fun i hi => by rw [h2 32 (by decide)]; exact h32 i hi) ?_
      rintro r iv2 av2 hR2 ⟨rfl, k2, k3, k4⟩
      refine OkN.mono (mk_CdC (k := 41) (M := 19) (j := 0) (f := lnZ q) K41 rfl rfl (by omega) (by omega) k4 (fun s hs => lns_0 (by rw [cZ_0 hok hs]; exact Int.le_refl 0)) fun s => by have := lnZ_le q s; omega) ?_
      rintro r iv3 av3 hR3 ⟨rfl, u2, u3⟩
      exact ⟨rfl, (h2.mono (by decide)).tr ((k2.mono (by decide)).tr (u2.mono (by decide))), fun i hi => by rw [u2 32 (by decide)]; exact k3 i hi, u3, fun s hs => by rw [u2 42 (by decide), k2 42 (by decide)]; exact h3 s hs⟩
    | succ m ih =>
      intro t av1 h1 h2 h3
      have hT1 := hT.1
      obtain ⟨c1, c2, c3, c4⟩ := hok t (by omega)
      have e55 : av1 55 t = q.2.1 t := (congrFun (h2 55 (by decide)) t).trans (hT.2 t (by omega)).1
      obtain ⟨z, hz⟩ := Int.eq_ofNat_of_zero_le c1
      have q1 := h3 z (by omega)
      have q2 := cn_le q.2.1 z t
      refine w_X8_makeSizes_9 C (by omega) fun _ => ⟨fun g => absurd g (by omega), fun _ => ⟨fun g => absurd g (by omega), fun _ => ⟨by omega, ?_⟩⟩⟩
      rw [Int.toNat_natCast, e55, hz]
      refine fun _ => OkN.mono (s_X3_count K41 (x := (z : Int)) (by omega) (by omega) (by show (z : Int) < 19; omega) (by show av1 42 (z : Int).toNat < _; rw [Int.toNat_natCast]; omega)) ?_
      rintro r iv2 av2 hR2 ⟨rfl, rfl⟩
      rw [Int.toNat_natCast, show (t : Int) + 1 = ((t + 1 : Nat) : Int) by omega]
      refine ih (t + 1) _ (by omega) (h2.up (by decide)) fun s hs => ?_
      show up2 av1 42 z (av1 42 z + 1) 42 s = _
      rw [up2_at, cn, hz]
      by_cases hsz : s = z
      · subst hsz
        rw [if_pos rfl, if_pos rfl, q1]
      · rw [if_neg hsz, if_neg (by omega), h3 s hs, Int.add_zero]
  refine lp q.1 0 _ (by omega) ((Off.rf _ _).upA (by decide)) fun s hs => ?_
  refine (congrFun (upA_eq _ 42 _) s).trans ?_
  exact if_pos (show (s : Int) < 19 by omega)
theorem s_X13_stepBits {s : Nat} (hs : s ≤ 18) : OkN Y e mX13_stepBits [.int (i32 (s : Int))] RV iv av 116 (Same iv av (sbits s)) := by
  refine o_X13_stepBits (by omega) ⟨fun h1 => ⟨fun h2 => ⟨fun h3 => ⟨?_, rfl, rfl⟩, fun h3 => ⟨?_, rfl, rfl⟩⟩, fun h2 => ⟨?_, rfl, rfl⟩⟩, fun h1 => ⟨?_, rfl, rfl⟩⟩
  · unfold sbits
    rw [if_pos (by omega)]
    rfl
  · have : s = 18 := by omega
    subst this
    rfl
  · have : s = 17 := by omega
    subst this
    rfl
  · have : s = 16 := by omega
    subst this
    rfl
/-- how many of the sizes' lengths are told -/
def tsz (z : Nat → Int) : Nat := nd (fun i => z (ordN i)) 4 19
theorem ordN_lt : ∀ k, k < 19 → ordN k < 19 := by decide +kernel
theorem s_X8_toldSizes : OkN Y (e + 1) mX8_toldSizes [.ref (gl_b Y + 22)] RV iv av 116 (Same iv av (tsz (av 43) : Nat)) := by
  have K41 : CodeK RV 116 41 := ⟨rfl, rfl, rfl, rfl, by omega, rfl, rfl, rfl⟩
  refine o_X8_toldSizes fun X C => ?_
  have lp : ∀ m : Nat, m ≤ 19 → (4 ≤ m) → tsz (av 43) = nd (fun i => av 43 (ordN i)) 4 m → L_X8_toldSizes_3 Y X (Same iv av (tsz (av 43) : Nat)) m iv av := by
    intro m
    induction m with
    | zero => intro _ h; omega
    | succ m ih =>
      intro h1 h2 h3
      refine w_X8_toldSizes_3 C (by omega) ⟨fun g => ⟨by rw [h3, nd, if_pos (Or.inl (by omega))], rfl, rfl⟩, fun g => ⟨by omega, ?_⟩⟩
      rw [show ((m + 1 : Nat) : Int) - 1 = (m : Int) by omega, show ((m + 1 : Nat) : Int) + -1 = (m : Int) by omega]
      have ho := ordN_lt m (by omega)
      refine OkN.mono (s_X11_ordered (k := m) (by omega)) ?_
      rintro r iv1 av1 hR1 ⟨rfl, rfl, rfl⟩ _
      refine OkN.mono (s_X3_lengthOf K41 (x := ((ordN m : Nat) : Int)) (by omega)) ?_
      rintro r iv2 av2 hR2 ⟨hr, rfl, rfl⟩ _
      rw [if_pos ⟨by omega, by show ((ordN m : Nat) : Int) < 19; omega⟩, Int.toNat_natCast] at hr
      have hr' : r = av2 43 (ordN m) := hr
      refine ⟨fun hne => ⟨by rw [h3, nd, if_pos (Or.inr (by rw [← hr']; exact hne))], rfl, rfl⟩, fun hz => ?_⟩
      refine ih (by omega) (by omega) ?_
      rw [h3, nd, if_neg fun g' => g'.elim (by omega) fun g'' => g'' (by rw [← hr']; exact hz)]
  exact lp 19 (by omega) (by omega) rfl
end SSizes2
