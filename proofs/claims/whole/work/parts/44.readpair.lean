/-! The pair of read. -/
section SReadPair
variable {Y : Gl} {X : Cx} {e e' : Nat} {iv av iv' av' : IVt} {c : Nat}
theorem InvF.of (h : InvF iv av) (e2 : iv' 2 = iv 2) (e5 : iv' 73 5 = iv 73 5) (a3 : av' 3 = av 3) (a4 : av' 4 = av 4) (a75 : av' 75 = av 75) (a76 : av' 76 = av 76) (a77 : av' 77 = av 77) : InvF iv' av' := by
  unfold InvF FI at *
  rw [e2, e5, a3, a4, a75, a76, a77]
  exact h
theorem InvT.of (h : InvT iv av) (e0 : iv' 73 0 = iv 73 0) (e10 : iv' 10 = iv 10) (a11 : av' 11 = av 11) (a74 : av' 74 = av 74) : InvT iv' av' := by
  unfold InvT at *
  rw [e0, e10, a11, a74]
  exact h
theorem InvR.of (h : InvR iv av) (e23 : iv' 73 23 = iv 73 23) (e12 : iv' 12 = iv 12) (a13 : av' 13 = av 13) (a89 : av' 89 = av 89) : InvR iv' av' := by
  unfold InvR at *
  rw [e23, e12, a13, a89]
  exact h
theorem InvL.of (h : InvL iv av) (e5 : iv' 5 = iv 5) (e14 : iv' 14 = iv 14) (e6 : iv' 73 6 = iv 73 6) (e16 : iv' 73 16 = iv 73 16) (e18 : iv' 73 18 = iv 73 18) (a6 : av' 6 = av 6) (a7 : av' 7 = av 7) (a8 : av' 8 = av 8) (a9 : av' 9 = av 9)
    (a78 : av' 78 = av 78) (a79 : av' 79 = av 79) (a80 : av' 80 = av 80) (a81 : av' 81 = av 81) (a82 : av' 82 = av 82) (a83 : av' 83 = av 83) (a84 : av' 84 = av 84) (a85 : av' 85 = av 85) (a86 : av' 86 = av 86) (a87 : av' 87 = av 87) : InvL iv' av' := by
  have eb : bkS iv' = bkS iv := by unfold bkS; rw [e5]
  have ed : ∀ n k, due iv' n k = due iv n k := fun n k => by unfold due; rw [eb]
  unfold InvL InvL0 LF at *
  rw [e5, e14, e6, e16, e18, a6, a7, a8, a9, a78, a79, a80, a81, a82, a83, a84, a85, a86, a87, eb]
  simp only [ed]
  exact h
theorem InvP.of {E : Int} (h : InvP E iv av) (e57 : iv' 57 = iv 57) (e23 : iv' 23 = iv 23) (a24 : av' 24 = av 24) (a47 : av' 47 = av 47) (a48 : av' 48 = av 48) (a51 : av' 51 = av 51) (a52 : av' 52 = av 52) (a32 : av' 32 = av 32) : InvP E iv' av' := by
  unfold InvP at *
  rw [e57, e23, a24, a47, a48, a51, a52, a32]
  exact h
theorem l_X13_read97 (C : CX Y X RX13 "read" cX13_read 7 (some .int) (e + 6) 0 0) {M : Int} (hM : M ≤ 4096) (hM0 : 0 ≤ M) {P : PN} {av0 : IVt} (hP : ∀ av', Off [90] av0 av' → (∀ j : Nat, j < M → av' 90 j = av0 91 j) → P M iv av') : ∀ (m k : Nat) (av : IVt), (k : Int) + m = M → Off [90] av0 av → (∀ j : Nat, j < k → av 90 j = av0 91 j) → L_X13_read_97 Y X P M k iv av := by
  intro m
  induction m with
  | zero =>
    intro k av h1 h2 h3
    exact w_X13_read_97 C (by omega) (by omega) ⟨fun _ => hP av h2 fun j hj => h3 j (by omega), fun h => absurd h (by omega)⟩
  | succ m ih =>
    intro k av h1 h2 h3
    refine w_X13_read_97 C (by omega) (by omega) ⟨fun h => absurd h (by omega), fun _ => ⟨by omega, ?_⟩⟩
    rw [Int.toNat_natCast, h2 91 (by decide), show (k : Int) + 1 = ((k + 1 : Nat) : Int) by omega]
    intro hby
    rw [bm8_id hby]
    refine ih (k + 1) _ (by omega) (h2.up (by decide)) fun j hj => ?_
    rw [up2_at]
    by_cases hjk : j = k
    · rw [if_pos hjk, hjk]
    · rw [if_neg hjk]
      exact h3 j (by omega)
theorem s_X13_read {f fr n : Int} (h : RfH iv av) (hf : InR f) (hfr : InR fr) (hn : InR n) : OkN Y (e + 6) mX13_read [.ref (gl_b Y + 73), .int (i32 f), .int (i32 fr), .int (i32 n)] RV iv av 116
    (fun r iv' av' => OffM LMi LTj iv iv' ∧ Off LTa av av' ∧ RdE iv av f fr n r (iv' 73 28) (iv 73 25) (av 90) (iv' 73 25) (av' 90)) := by
  have f0 : OffM LMi LTj iv (up2 iv 73 28 0) := (OffM.rf _ _ _).up (by decide)
  have h0 := h.of f0 (Off.rf LTa av)
  have bad : ∀ X : Cx, CX Y X RX13 "read" cX13_read 7 (some .int) (e + 6) 0 0 → rdBad f fr n → L_X13_read_27 Y X (fun r iv' av' => OffM LMi LTj iv iv' ∧ Off LTa av av' ∧ RdE iv av f fr n r (iv' 73 28) (iv 73 25) (av 90) (iv' 73 25) (av' 90)) (up2 iv 73 28 0) av := fun X C hbad =>
    w_X13_read_27 C ⟨f0, Off.rf _ _, Or.inl ⟨hbad, rfl, up2_eq _ _ _ _, rfl, rfl⟩⟩
  refine o_X13_read hf hfr hn fun X C => OkN.mono (s_X13_isFile hf) ?_
  rintro r iv1 av1 hR1 ⟨rfl, rfl, rfl⟩ hr1
  refine ⟨fun hz => bad X C (Or.inl (by grind)), fun hnz => ⟨fun h1 => bad X C (Or.inr (Or.inl h1)), fun h1 => ⟨fun h2 => bad X C (Or.inr (Or.inr (Or.inl h2))), fun h2 => ⟨fun h3 => ?_, fun h3 => bad X C (Or.inr (Or.inr (Or.inr (by omega))))⟩⟩⟩⟩
  have hfi : 0 ≤ f ∧ f < 64 := by grind
  have nb : ¬ rdBad f fr n := by unfold rdBad; omega
  have hz := (h.1.2.2.2.2.2.1 f.toNat (by omega)).1
  have e78 : av1 78 f.toNat = av1 6 (8 * f.toNat + 1) := (h.2.2.2.2.2.2 f.toNat (by omega)).1
  have e79 : av1 79 f.toNat = av1 6 (8 * f.toNat + 2) := (h.2.2.2.2.2.2 f.toNat (by omega)).2.1
  have hff : ((f.toNat : Nat) : Int) = f := by omega
  rw [e78]
  -- with so many bytes
  have go : ∀ M : Int, M = rdM (av1 6 (8 * f.toNat + 1)) fr n → L_X13_read_62 Y X (fun r iv' av' => OffM LMi LTj iv iv' ∧ Off LTa av1 av' ∧ RdE iv av1 f fr n r (iv' 73 28) (iv 73 25) (av1 90) (iv' 73 25) (av' 90)) f fr M (up2 iv 73 28 0) av1 := by
    intro M hM
    have hM0 : 0 ≤ M ∧ M ≤ n ∧ (0 < M → fr + M ≤ av1 6 (8 * f.toNat + 1)) := by
      rw [hM]
      unfold rdM
      split
      · omega
      · split <;> omega
    refine w_X13_read_62 C hf hfr (by omega) ⟨fun hle => w_X13_read_88 C (by omega) ?_, fun hgt => ⟨by omega, ?_⟩⟩
    · refine l_X13_read97 C (by omega) hM0.1 (av0 := av1) ?_ 0 0 av1 (by omega) (Off.rf _ _) fun j hj => absurd hj (Nat.not_lt_zero _)
      intro av2 b1 b2
      refine ⟨f0.up (by decide), b1.mono (by decide), Or.inr (Or.inl ⟨nb, by omega, by omega, ?_, ?_⟩)⟩
      · show up2 iv 73 28 0 73 28 = 0
        exact up2_eq _ _ _ _
      · rw [up2_eq]
        omega
    · refine o_X13_layAll fun X' C' => ⟨by omega, fun _ => ?_⟩
      rw [e79]
      have := l_X13_layAll (iv0 := up2 iv 73 28 0) (av0 := av1) C' h0 (f := f.toNat) (by omega) (fr := fr) (en := fr + M) (by omega) (by omega) (by omega) (by omega) (up2_eq _ _ _ _) (P := fun r3 iv4 av5 => (InR r3) → ((¬ r3 = 0) → L_X13_read_88 Y X (fun r iv' av' => OffM LMi LTj iv iv' ∧ Off LTa av1 av' ∧ RdE iv av1 f fr n r (iv' 73 28) (iv 73 25) (av1 90) (iv' 73 25) (av' 90)) M iv4 av5) ∧ ((r3 = 0) → (fun r iv' av' => OffM LMi LTj iv iv' ∧ Off LTa av1 av' ∧ RdE iv av1 f fr n r (iv' 73 28) (iv 73 25) (av1 90) (iv' 73 25) (av' 90)) (-4) (up2 iv4 73 28 0) av5)) ?_ (av1 6 (8 * f.toNat + 3)).toNat 0 (up2 iv 73 28 0) av1 (by omega) (OffM.rf _ _ _) (Off.rf _ _) rfl (fun j hj hjk => absurd hjk (by omega)) (fun k' q1 q2 => absurd q2 (Nat.not_lt_zero _)) ?_
      · rw [hff] at this
        exact this
      · intro r3 iv4 av5 b1 b2 b3 b4 hr3
        have eok : ∀ lo hi, rdOk (up2 iv 73 28 0) av1 f.toNat lo hi ↔ rdOk iv av1 f.toNat lo hi := fun lo hi => Iff.rfl
        have f4 : OffM LMi LTj iv iv4 := f0.tr b1
        rcases b4 with ⟨c1, rfl, c3, c4⟩ | ⟨c1, rfl⟩
        · refine ⟨fun _ => w_X13_read_88 C (by omega) ?_, fun h => absurd h (by decide)⟩
          refine l_X13_read97 C (by omega) hM0.1 (av0 := av5) ?_ M.toNat 0 av5 (by omega) (Off.rf _ _) fun j hj => absurd hj (Nat.not_lt_zero _)
          intro av6 d1 d2
          refine ⟨f4.up (by decide), (b2.mono (by decide)).tr (d1.mono (by decide)), Or.inr (Or.inr (Or.inl ⟨nb, by omega, ?_, hM, ?_, ?_, fun j hj => ?_⟩))⟩
          · rw [← hM]
            exact c1
          · rw [← hM]
            exact c4
          · rw [← hM]
            exact up2_eq _ _ _ _
          · rw [← hM] at hj
            rw [d2 j hj]
            exact c3 j (by omega)
        · refine ⟨fun h => absurd rfl h, fun _ => ⟨f4.up (by decide), b2.mono (by decide), Or.inr (Or.inr (Or.inr ⟨nb, by omega, ?_, rfl, up2_eq _ _ _ _, ?_, ?_⟩))⟩⟩
          · rw [← hM]
            exact c1
          · show iv4 73 25 = iv 73 25
            rw [b3]
            rfl
          · rw [b2 90 (by decide)]
      · show up2 iv 73 28 0 73 28 = tkS _ _ (min 0 _ - _)
        rw [up2_eq, show ∀ a b : Nat, min 0 a - b = 0 from fun a b => by omega]
        rfl
  refine ⟨hfi, fun _ => ⟨by omega, fun hge => ⟨fun hle => go n ?_, fun hgt => go _ ?_⟩, fun hlt => go 0 ?_⟩⟩
  · unfold rdM
    rw [if_neg (by omega), if_pos hle]
  · unfold rdM
    rw [if_neg (by omega), if_neg hgt]
  · unfold rdM
    rw [if_pos (by omega)]
theorem RdE.of {f fr n r tk on0 on : Int} {ob0 ob : Nat → Int} (h : RdE iv' av' f fr n r tk on0 ob0 on ob) (e5 : iv' 5 = iv 5) (e12 : iv' 12 = iv 12) (a6 : av' 6 = av 6) (a7 : av' 7 = av 7) (a8 : av' 8 = av 8) (a9 : av' 9 = av 9) (a13 : av' 13 = av 13) : RdE iv av f fr n r tk on0 ob0 on ob := by
  have epc : pc iv' av' = pc iv av := by funext f k; exact pc_of e5 e12 a6 a7 a8 a9 a13
  have epB : pcB av' = pcB av := by funext f k; exact pcB_of a6 a7 a9
  have ebN : bkN iv' = bkN iv := by unfold bkN; rw [e5]
  have efB : fB iv' av' = fB iv av := by funext f q; unfold fB; rw [epc, ebN]
  have epT : pcT av' = pcT av := by funext f k; unfold pcT; rw [epB]
  unfold RdE rdOk at *
  rw [epc, ebN, efB, epT, a6] at h
  exact h
theorem p_read {f fr n : Int} (h : Inv c iv av) (hf : InR f) (hfr : InR fr) (hn : InR n) : OkN Y (e + 6) mX11_read [.ref (gl_b Y + 0), .int (i32 f), .int (i32 fr), .int (i32 n)] RV iv av 116 (Thn Y (e' + 6) mX13_read [.ref (gl_b Y + 73), .int (i32 f), .int (i32 fr), .int (i32 n)] c) := by
  obtain ⟨hF, hT, hR, hO, hK, hL, hP, hB⟩ := h
  have hrd := hL.rdh hR hB.1
  refine OkN.mono (s_X11_read hrd hf hfr hn hB.2.2.1 hB.2.2.2 hO.2.1) ?_
  rintro r iv1 av1 hR1 ⟨b1, b2, b3, b4, b5, b6, b7⟩
  have hL1 : InvL iv1 av1 := hL.of (b1 5 (by decide)) (b1 14 (by decide)) (by rw [b1 73 (by decide)]) (by rw [b1 73 (by decide)]) (by rw [b1 73 (by decide)]) (b2 6 (by decide)) (b2 7 (by decide)) (b2 8 (by decide)) (b2 9 (by decide)) (b2 78 (by decide)) (b2 79 (by decide)) (b2 80 (by decide)) (b2 81 (by decide)) (b2 82 (by decide)) (b2 83 (by decide)) (b2 84 (by decide)) (b2 85 (by decide)) (b2 86 (by decide)) (b2 87 (by decide))
  have hR1 : InvR iv1 av1 := hR.of (by rw [b1 73 (by decide)]) (b1 12 (by decide)) (b2 13 (by decide)) (b2 89 (by decide))
  have hrf := hL1.rfh hR1 (by rw [b1 14 (by decide)]; exact hB.1)
  refine OkN.mono (s_X13_read hrf hf hfr hn) ?_
  rintro r2 iv2 av2 hR2 ⟨c1, c2, c3⟩
  have c4 := c3.of (b1 5 (by decide)) (b1 12 (by decide)) (b2 6 (by decide)) (b2 7 (by decide)) (b2 8 (by decide)) (b2 9 (by decide)) (b2 13 (by decide))
  have e25 : iv1 73 25 = iv 73 25 := by rw [b1 73 (by decide)]
  have e90 : av1 90 = av 90 := b2 90 (by decide)
  rw [e25, e90] at c4
  have e20 : iv2 20 = iv1 20 := c1.1 20 (by decide) (by decide)
  have e21 : av2 21 = av1 21 := c2 21 (by decide)
  have e0 : iv2 0 = iv1 0 := c1.1 0 (by decide) (by decide)
  have both : r2 = r ∧ iv2 73 28 = iv1 0 10 ∧ InvO iv2 av2 := by
    obtain ⟨o1, o2, o3, o4⟩ := hO
    unfold InvO
    rw [e20, e21]
    rcases b7 with ⟨x1, x2, x3, x4, x5⟩ | ⟨x0, x1, x2, x3, x4⟩ | ⟨x0, x1, x2, x3, x4, x5, x6⟩ | ⟨x0, x1, x2, x3, x4, x5, x6⟩
    · rcases c4 with ⟨y1, y2, y3, y4, y5⟩ | ⟨y0, y1, y2, y3, y4⟩ | ⟨y0, y1, y2, y3, y4, y5, y6⟩ | ⟨y0, y1, y2, y3, y4, y5, y6⟩
      · refine ⟨by omega, by omega, by omega, by omega, by omega, fun j hj => ?_⟩
        rw [x5, y5]
        exact o4 j (by omega)
      · exact absurd x1 y0
      · exact absurd x1 y0
      · exact absurd x1 y0
    · rcases c4 with ⟨y1, y2, y3, y4, y5⟩ | ⟨y0, y1, y2, y3, y4⟩ | ⟨y0, y1, y2, y3, y4, y5, y6⟩ | ⟨y0, y1, y2, y3, y4, y5, y6⟩
      · exact absurd y1 x0
      · exact ⟨by omega, by omega, by omega, by omega, by omega, fun j hj => absurd hj (by omega)⟩
      · omega
      · omega
    · have hM4096 : rdM (av 6 (8 * f.toNat + 1)) fr n ≤ 4096 := by
        unfold rdBad at x0
        unfold rdM
        split
        · omega
        · split <;> omega
      rcases c4 with ⟨y1, y2, y3, y4, y5⟩ | ⟨y0, y1, y2, y3, y4⟩ | ⟨y0, y1, y2, y3, y4, y5, y6⟩ | ⟨y0, y1, y2, y3, y4, y5, y6⟩
      · exact absurd y1 x0
      · omega
      · refine ⟨by omega, by omega, by omega, by omega, by omega, fun j hj => ?_⟩
        rw [x6 j (by omega), y6 j (by omega)]
      · exact absurd x2 y2
    · rcases c4 with ⟨y1, y2, y3, y4, y5⟩ | ⟨y0, y1, y2, y3, y4⟩ | ⟨y0, y1, y2, y3, y4, y5, y6⟩ | ⟨y0, y1, y2, y3, y4, y5, y6⟩
      · exact absurd y1 x0
      · omega
      · exact absurd y2 x2
      · refine ⟨by omega, by omega, by omega, by omega, by omega, fun j hj => ?_⟩
        rw [x6, y6]
        exact o4 j (by omega)
  have i2 : ∀ {k : Nat}, k ∉ LRdi → k ≠ 73 → k ∉ LMi → iv2 k = iv k := fun k1 k2 k3 => (c1.1 _ k2 k3).trans (b1 _ k1)
  have j2 : ∀ {j : Nat}, j ∉ LTj → iv2 73 j = iv 73 j := fun h => (c1.2 _ h).trans (by rw [b1 73 (by decide)])
  have a2 : ∀ {k : Nat}, k ∉ LRda → k ∉ LTa → av2 k = av k := fun k1 k2 => (c2 _ k2).trans (b2 _ k1)
  refine ⟨both.1, hF.of (i2 (by decide) (by decide) (by decide)) (j2 (by decide)) (a2 (by decide) (by decide)) (a2 (by decide) (by decide)) (a2 (by decide) (by decide)) (a2 (by decide) (by decide)) (a2 (by decide) (by decide)), ?_, ?_, both.2.2, ?_, ?_, ?_, ?_⟩
  · exact hT.of (j2 (by decide)) (i2 (by decide) (by decide) (by decide)) (a2 (by decide) (by decide)) (a2 (by decide) (by decide))
  · exact hR.of (j2 (by decide)) (i2 (by decide) (by decide) (by decide)) (a2 (by decide) (by decide)) (a2 (by decide) (by decide))
  · show iv2 73 28 = iv2 0 10
    rw [both.2.1, e0]
  · exact hL.of (i2 (by decide) (by decide) (by decide)) (i2 (by decide) (by decide) (by decide)) (j2 (by decide)) (j2 (by decide)) (j2 (by decide)) (a2 (by decide) (by decide)) (a2 (by decide) (by decide)) (a2 (by decide) (by decide)) (a2 (by decide) (by decide)) (a2 (by decide) (by decide)) (a2 (by decide) (by decide)) (a2 (by decide) (by decide)) (a2 (by decide) (by decide)) (a2 (by decide) (by decide)) (a2 (by decide) (by decide)) (a2 (by decide) (by decide)) (a2 (by decide) (by decide)) (a2 (by decide) (by decide)) (a2 (by decide) (by decide))
  · exact hP.up.of (i2 (by decide) (by decide) (by decide)) (i2 (by decide) (by decide) (by decide)) (a2 (by decide) (by decide)) (a2 (by decide) (by decide)) (a2 (by decide) (by decide)) (a2 (by decide) (by decide)) (a2 (by decide) (by decide)) (a2 (by decide) (by decide))
  · have e16 : iv2 16 = iv1 16 := c1.1 16 (by decide) (by decide)
    have e18 : iv2 18 = iv1 18 := c1.1 18 (by decide) (by decide)
    refine ⟨by rw [i2 (by decide) (by decide) (by decide)]; exact hB.1, by rw [j2 (by decide)]; exact hB.2.1, by rw [e16]; exact ⟨b3, b4⟩, by rw [e18]; exact ⟨b5, b6⟩⟩
end SReadPair
