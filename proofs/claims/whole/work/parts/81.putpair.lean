/-! The pair of put. -/
theorem pow_in : ∀ q, q < 17 → 12 ≤ q → 4096 ≤ 2 ^ q ∧ 2 ^ q ≤ 65536 := by decide
/-- sizes and bytes of the files -/
def nOf (av : IVt) : Nat → Nat := fun t => (av 4 (t + 1) - av 4 t).toNat
abbrev bOf (av : IVt) : Nat → Nat → Int := fun t j => av 3 ((av 4 t).toNat + j)
theorem sT_row {iv av : IVt} (h : FI iv av) : ∀ f, f ≤ 64 → ((sT (nOf av) f : Nat) : Int) = av 4 f := by
  intro f
  induction f with
  | zero => intro _; exact h.1.symm
  | succ f ih =>
    intro hf
    have a := ih (by omega)
    have b := h.2.1 f (by omega)
    show ((sT (nOf av) f + (av 4 (f + 1) - av 4 f).toNat : Nat) : Int) = _
    omega
theorem rng3 {iv av : IVt} (h : Rng iv av) (i : Nat) : -128 ≤ av 3 i ∧ av 3 i ≤ 127 := by
  have h := h.2 3 i
  unfold tyR at h
  rw [show kc 3 = 101 from rfl, if_pos rfl] at h
  exact h
section SPutPair
variable {Y : Gl} {X : Cx} {e e' : Nat} {iv av : IVt} {c : Nat}
def putI (iv : IVt) (l : Int) : IVt := up2 (up2 (up2 (up2 iv 12 1 0) 5 4 l) 5 5 0) 5 6 0
theorem s_X11_put {x1 x2 x3 E : Int} (h1 : InR x1) (h2 : InR x2) (h3 : InR x3) (hFI : FI iv av) (hIP : InvP E iv av) (hE : E ≤ 80000000) (h12 : 0 ≤ iv 12 1) (h14 : iv 14 1 = 0) : OkN Y (e + 7) mX11_put [.ref (gl_b Y + 0), .int (i32 x1), .int (i32 x2), .int (i32 x3)] RV iv av 116
    (fun r iv' av' => ((x1 < 12 ∨ 16 < x1) ∧ r = -1 ∧ iv' = iv ∧ av' = av) ∨ (12 ≤ x1 ∧ x1 ≤ 16 ∧ r = (pR (sEnd x2 x3 (2 ^ x1.toNat) (nOf av) (bOf av))).1 ∧ ptF (putI iv x1) av iv' av' ∧ cRp iv' av' (sEnd x2 x3 (2 ^ x1.toNat) (nOf av) (bOf av)) 64 ∧ InvP (E + 65536) iv' av')) := by
  have hFb := hFI.2.2.2
  have hF0 := hFI.bd (i := 64) (Nat.le_refl _)
  refine o_X11_put h1 fun X C => ⟨fun g => Or.inl ⟨Or.inl g, rfl, rfl, rfl⟩, fun g => ⟨fun g2 => OkN.mono s_X4_bytes ?_, fun g2 => Or.inl ⟨Or.inr (by omega), rfl, rfl, rfl⟩⟩⟩
  rintro r1 iv1 av1 hR1 ⟨rfl, rfl, rfl⟩
  refine ⟨rfl, OkN.mono (s_X2_count bk_2) ?_⟩
  rintro r2 iv2 av2 hR2 ⟨hr2, rfl, rfl⟩ _
  refine ⟨fun _ => OkN.mono (s_X2_keep bk_12 (x := 0) (by omega)) ?_, fun g3 => absurd g3 (by omega)⟩
  rintro r3 iv3 av3 hR3 ⟨hi3, rfl⟩
  have e3 : iv3 = up2 iv2 12 1 0 := by
    rw [hi3]
    split
    · rfl
    · rw [show (0 : Int) = iv2 12 1 by omega, up2_self]
  clear hi3
  subst e3
  refine OkN.mono (s_X5_begin lk_RV h1) ?_
  rintro r4 iv4 av4 hR4 ⟨rfl, rfl⟩
  have hpw := pow_in x1.toNat (by omega) (by omega)
  have hbs : bkS (putI iv2 x1) = ((2 ^ x1.toNat : Nat) : Int) := by
    show (2 : Int) ^ x1.toNat = _
    rw [Int.natCast_pow]
    rfl
  have hsum := sT_row hFI 64 (Nat.le_refl _)
  have hcf : cFl (putI iv2 x1) av4 (nOf av4) (bOf av4) := by
    refine ⟨hFI, fun t ht => ?_, fun t j => rfl, rng3 hR4⟩
    have := hFI.2.1 t ht
    show av4 4 (t + 1) - av4 4 t = (((av4 4 (t + 1) - av4 4 t).toNat : Nat) : Int)
    omega
  refine l_X11_put (iv0 := putI iv2 x1) (av0 := av4) (bs := 2 ^ x1.toNat) (n := nOf av4) (B := bOf av4) (E := E) C h2 h3 hpw.1 hpw.2 (by omega) hE ⟨by show 12 ≤ x1; omega, g2⟩ hbs hcf (fun iv' av' q1 q2 q3 => Or.inr ⟨by omega, g2, rfl, q1, q2, q3⟩) 64 0 (putI iv2 x1) av4 (by omega) ⟨Off.rf _ _, Off.rf _ _, rfl⟩ ⟨⟨rfl, fun j hj => absurd hj (Nat.not_lt_zero _)⟩, ⟨rfl, fun j hj => absurd hj (Nat.not_lt_zero _)⟩, ⟨rfl, fun j hj => absurd hj (Nat.not_lt_zero _)⟩, ⟨h14, fun j hj => absurd hj (Nat.not_lt_zero _)⟩, fun t ht => absurd ht (Nat.not_lt_zero _)⟩ ?_
  refine (hIP.off (iv' := putI iv2 x1) ((((Off.rf _ _).up (by decide)).up (by decide)).up (by decide) |>.up (by decide)) (Off.rf _ _)).mono ?_
  show E ≤ E + ((0 : Nat) : Int) - ((0 : Nat) : Int)
  omega
def putJ (iv : IVt) (b x2 x3 : Int) : IVt := up2 (up2 (up2 (up2 (up2 (up2 (up2 iv 73 6 b) 73 7 x2) 73 8 x3) 73 23 0) 73 16 0) 73 18 0) 73 22 0
theorem s_X13_put {x1 x2 x3 : Int} {n : Nat → Nat} {B : Nat → Nat → Int} (h1 : InR x1) (h2 : 0 ≤ x2 ∧ x2 ≤ 1) (h3 : 0 ≤ x3 ∧ x3 ≤ 1) (hT : sT n 64 ≤ 65536) (hFl : rFl av n B) (h88 : ∀ i, -128 ≤ av 88 i ∧ av 88 i ≤ 127) : OkN Y (e + 23) mX13_put [.ref (gl_b Y + 73), .int (i32 x1), .int (i32 x2), .int (i32 x3)] RV iv av 116
    (fun r iv' av' => ((x1 < 12 ∨ 16 < x1) ∧ r = -1 ∧ iv' = iv ∧ av' = av) ∨ (12 ≤ x1 ∧ x1 ≤ 16 ∧ r = (pR (sEnd x2 x3 (2 ^ x1.toNat) n B)).1 ∧ rtF (putJ iv ((2 ^ x1.toNat : Nat) : Int) x2 x3) av iv' av' ∧ rRp iv' av' (sEnd x2 x3 (2 ^ x1.toNat) n B) 64)) := by
  refine o_X13_put h1 fun X C => ⟨fun g => Or.inl ⟨Or.inl g, rfl, rfl, rfl⟩, fun g => ⟨fun g2 => ?_, fun g2 => Or.inl ⟨Or.inr (by omega), rfl, rfl, rfl⟩⟩⟩
  have hpw := pow_in x1.toNat (by omega) (by omega)
  have hcp : (1 : Int) * 2 ^ x1.toNat = ((2 ^ x1.toNat : Nat) : Int) := by
    rw [Int.one_mul, Int.natCast_pow]
    rfl
  rw [hcp]
  refine ⟨by omega, by omega, h2, h3, ?_⟩
  exact l_X13_put (iv0 := putJ iv ((2 ^ x1.toNat : Nat) : Int) x2 x3) (av0 := av) (bs := 2 ^ x1.toNat) (n := n) (B := B) (pk := x2) (fr := x3) C hpw.1 hpw.2 hT hFl rfl rfl rfl (fun iv' av' q1 q2 => Or.inr ⟨by omega, g2, rfl, q1, q2⟩) 64 0 (putJ iv ((2 ^ x1.toNat : Nat) : Int) x2 x3) av (by omega) (rtF.rf _ _) h88 ⟨⟨rfl, fun j hj => absurd hj (Nat.not_lt_zero _)⟩, ⟨rfl, fun j hj => absurd hj (Nat.not_lt_zero _)⟩, ⟨rfl, fun j hj => absurd hj (Nat.not_lt_zero _)⟩, ⟨rfl, fun j hj => absurd hj (Nat.not_lt_zero _)⟩, fun t ht => absurd ht (Nat.not_lt_zero _)⟩
theorem p_put {x1 x2 x3 : Int} (h : Inv c iv av) (hc : c ≤ 1000) (h1 : InR x1) (h2 : 0 ≤ x2 ∧ x2 ≤ 1) (h3 : 0 ≤ x3 ∧ x3 ≤ 1) : OkN Y (e + 7) mX11_put [.ref (gl_b Y + 0), .int (i32 x1), .int (i32 x2), .int (i32 x3)] RV iv av 116 (Thn Y (e' + 23) mX13_put [.ref (gl_b Y + 73), .int (i32 x1), .int (i32 x2), .int (i32 x3)] c) := by
  have hI := h.up
  obtain ⟨hF, hT, hR, hO, hK, hL, hP, hB⟩ := h
  have hFI := hF.1
  have hsum := sT_row hFI 64 (Nat.le_refl _)
  have hF64 := hFI.2.2.1
  have hFb := hFI.2.2.2
  refine OkN.mono (s_X11_put h1 (by omega) (by omega) hFI hP (by omega) hR.2.1 hB.1) ?_
  rintro r iv1 av1 hR1 (⟨g0, rfl, rfl, rfl⟩ | ⟨g1, g2, rfl, o, hcr, hip⟩)
  · exact o_X13_put h1 fun X C => ⟨fun _ => ⟨rfl, hI⟩, fun g => ⟨fun g2 => absurd g2 (by omega), fun _ => ⟨rfl, hI⟩⟩⟩
  have hpw := pow_in x1.toNat (by omega) (by omega)
  have o4 : av1 4 = av 4 := o.2.1 4 (by decide)
  have hrf : rFl av1 (nOf av) (bOf av) := by
    have q75 : av1 75 = av 75 := o.2.1 75 (by decide)
    have q76 : av1 76 = av 76 := o.2.1 76 (by decide)
    have q77 : av1 77 = av 77 := o.2.1 77 (by decide)
    refine ⟨fun t ht => ?_, fun t ht j hj => ?_, rng77 hR1⟩
    · have a1 := hF.2.2.1 t ht
      have a2 := hF.2.2.2.1 t ht
      have a3 := hFI.2.1 t ht
      have e1 : ((nOf av t : Nat) : Int) = av 76 t := by
        show (((av 4 (t + 1) - av 4 t).toNat : Nat) : Int) = _
        omega
      rw [q75, q76, e1]
      omega
    · have a1 := hF.2.2.1 t ht
      have hj' : j < (av 4 (t + 1) - av 4 t).toNat := hj
      rw [q75, q77]
      exact hF.2.2.2.2.2 t ht j (by omega)
  refine OkN.mono (s_X13_put h1 h2 h3 (by omega) hrf (rng88 hR1)) ?_
  rintro r iv2 av2 hR2 (⟨g0, _⟩ | ⟨_, _, rfl, u, hrr⟩)
  · omega
  refine ⟨rfl, ?_⟩
  obtain ⟨pe1, pe2, pe3⟩ := pJ_end (n := nOf av) (pk := x2) (fr := x3) (B := bOf av) hpw.1 hpw.2 (by omega)
  generalize hS : sEnd x2 x3 (2 ^ x1.toNat) (nOf av) (bOf av) = S at *
  obtain ⟨⟨s1, s2, s3, s4⟩, s5, s6⟩ := pe1
  have oi : ∀ k, k ∉ [5, 12, 14, 22, 23, 57, 73] → iv2 k = iv k := fun k hk => by
    simp only [List.mem_cons, List.not_mem_nil, or_false, not_or] at hk
    have a1 : iv2 k = iv1 k := (u.1.1 k hk.2.2.2.2.2.2 (List.not_mem_nil)).trans (by unfold putJ; rw [up2_ne hk.2.2.2.2.2.2, up2_ne hk.2.2.2.2.2.2, up2_ne hk.2.2.2.2.2.2, up2_ne hk.2.2.2.2.2.2, up2_ne hk.2.2.2.2.2.2, up2_ne hk.2.2.2.2.2.2, up2_ne hk.2.2.2.2.2.2])
    have a2 : iv1 k = iv k := (o.1 k (by simp [hk])).trans (by unfold putI; rw [up2_ne hk.1, up2_ne hk.1, up2_ne hk.1, up2_ne hk.2.1])
    exact a1.trans a2
  have o73 : ∀ j, j ∉ [6, 7, 8, 16, 18, 22, 23, 31, 34, 45] → iv2 73 j = iv 73 j := fun j hj => by
    simp only [List.mem_cons, List.not_mem_nil, or_false, not_or] at hj
    have a1 : iv2 73 j = iv1 73 j := (u.1.2 j (by simp [hj])).trans (by unfold putJ; rw [up2_nj (by omega), up2_nj (by omega), up2_nj (by omega), up2_nj (by omega), up2_nj (by omega), up2_nj (by omega), up2_nj (by omega)])
    have a2 : iv1 73 = iv 73 := o.1 73 (by decide)
    rw [a1, a2]
  have oc : ∀ k, k ≠ 73 → iv2 k = iv1 k := fun k hk => (u.1.1 k hk (List.not_mem_nil)).trans (by unfold putJ; rw [up2_ne hk, up2_ne hk, up2_ne hk, up2_ne hk, up2_ne hk, up2_ne hk, up2_ne hk])
  have oa : ∀ k, k ∉ [6, 7, 8, 9, 13, 15, 24, 25, 27, 28, 29, 30, 31, 32, 34, 35, 36, 38, 39, 40, 42, 43, 44, 53, 54, 55, 56, 78, 79, 80, 81, 82, 83, 84, 85, 86, 87, 88, 89, 93, 94, 95, 96, 97, 98, 99, 100, 101, 102, 103, 104, 105, 106, 107, 108] → av2 k = av k := by
    have := (o.2.1.mono (L' := [6, 7, 8, 9, 13, 15, 24, 25, 27, 28, 29, 30, 31, 32, 34, 35, 36, 38, 39, 40, 42, 43, 44, 53, 54, 55, 56, 78, 79, 80, 81, 82, 83, 84, 85, 86, 87, 88, 89, 93, 94, 95, 96, 97, 98, 99, 100, 101, 102, 103, 104, 105, 106, 107, 108]) (by decide)).tr (u.2.mono (by decide))
    exact this
  obtain ⟨⟨c1, c2⟩, ⟨c3, c4⟩, ⟨c5, c6⟩, ⟨c7, c8⟩, c9⟩ := hcr
  obtain ⟨⟨r1, r2⟩, ⟨r3, r4⟩, ⟨r5, r6⟩, ⟨r7, r8⟩, r9⟩ := hrr
  have e5 : iv2 5 = iv1 5 := oc 5 (by decide)
  have e12 : iv2 12 = iv1 12 := oc 12 (by decide)
  have e14 : iv2 14 = iv1 14 := oc 14 (by decide)
  have l5 : iv1 5 4 = x1 := o.2.2
  have hbs : bkS iv2 = ((2 ^ x1.toNat : Nat) : Int) := by
    unfold bkS
    rw [e5, l5, Int.natCast_pow]
    rfl
  have a6 : av2 6 = av1 6 := u.2 6 (by decide)
  have a7 : av2 7 = av1 7 := u.2 7 (by decide)
  have a8 : av2 8 = av1 8 := u.2 8 (by decide)
  have a9 : av2 9 = av1 9 := u.2 9 (by decide)
  have a13 : av2 13 = av1 13 := u.2 13 (by decide)
  refine ⟨?_, ?_, ⟨?_, ?_, ?_, fun j hj => ?_⟩, ?_, ?_, ⟨⟨⟨?_, ?_, ?_⟩, ⟨?_, ?_, ?_⟩, ⟨?_, ?_, ?_⟩, fun j hj => ?_, fun j hj => ?_⟩, fun t ht => ?_⟩, ?_, ⟨?_, ?_, ?_, ?_⟩⟩
  · unfold InvF FI at *
    rw [oi 2 (by decide), o73 5 (by decide), oa 3 (by decide), oa 4 (by decide), oa 75 (by decide), oa 76 (by decide), oa 77 (by decide)]
    exact hF
  · unfold InvT at *
    rw [o73 0 (by decide), oi 10 (by decide), oa 74 (by decide), oa 11 (by decide)]
    exact hT
  · rw [r1, e12, c1]
  · rw [e12, c1]
    omega
  · rw [e12, c1]
    omega
  · rw [e12, c1] at hj
    rw [r2 j (by omega), a13, c2 j (by omega)]
  · unfold InvO at *
    rw [o73 25 (by decide), oi 20 (by decide), oa 90 (by decide), oa 21 (by decide)]
    exact hO
  · unfold InvK at *
    rw [o73 28 (by decide), oi 0 (by decide)]
    exact hK
  · rw [e5, l5]
    exact g1
  · rw [e5, l5]
    exact g2
  · rw [hbs]
    exact u.1.2 6 (by decide)
  · rw [r3, e5, c3]
  · rw [e5, c3]
    omega
  · rw [e5, c3]
    omega
  · rw [r5, e5, c5]
  · rw [e5, c5]
    omega
  · rw [e5, c5]
    omega
  · rw [e5, c3] at hj
    rw [r4 j (by omega), a7, c4 j (by omega)]
    exact ⟨rfl, s5 j (by omega)⟩
  · rw [e5, c5] at hj
    have q := s6 j (by omega)
    rw [(r6 j (by omega)).1, (r6 j (by omega)).2, a8, a9, (c6 j (by omega)).1, (c6 j (by omega)).2]
    exact ⟨rfl, rfl, q.1.1, q.1.2, q.2.1, q.2.2⟩
  · have hn : nOf av t ≤ 65536 := by
      have b0 := hFI.bd (i := t) (by omega)
      have b1 := hFI.bd (i := t + 1) (by omega)
      show (av 4 (t + 1) - av 4 t).toNat ≤ 65536
      omega
    exact LF_of (bs := 2 ^ x1.toNat) (n := nOf av t) (S := S) hbs (by omega) hn (pe3 t ht).1 (pe3 t ht).2 (by rw [e5]; exact c3) (by rw [e5]; exact c5) (by rw [e14]; exact c7) (fun j hj => by rw [a7]; exact c4 j hj) (fun j hj => by rw [a9]; exact (c6 j hj).2) (fun w w1 w2 => by rw [a6]; exact c9 t ht w w1 w2) (r9 t ht)
  · have : InvP (1 + 65536 * (c : Int) + 65536) iv2 av2 := by
      unfold InvP at *
      rw [oc 57 (by decide), oc 23 (by decide), u.2 24 (by decide), u.2 47 (by decide), u.2 48 (by decide), u.2 51 (by decide), u.2 52 (by decide), u.2 32 (by decide)]
      exact hip
    exact this.mono (by omega)
  · rw [e14, c7, pe2]
    rfl
  · rw [r7, pe2]
    rfl
  · rw [oi 16 (by decide)]
    exact hB.2.2.1
  · rw [oi 18 (by decide)]
    exact hB.2.2.2
end SPutPair
