/-! The class puts all files. -/
theorem cTw_iff {iv av : IVt} {n : Nat → Nat} {B : Nat → Nat → Int} (h : cFl iv av n B) {o f : Nat} (ho : o < 64) (hf : f < 64) : cTw av o f ↔ TwE n B o f := by
  obtain ⟨f1, f5, f6, f7⟩ := h
  have e1 := f5 o ho
  have e2 := f5 f hf
  unfold cTw TwE
  constructor
  · rintro ⟨g1, g2⟩
    refine ⟨by omega, fun j hj => ?_⟩
    rw [f6 o j, f6 f j]
    exact g2 j (by omega)
  · rintro ⟨g1, g2⟩
    refine ⟨by omega, fun j hj => ?_⟩
    rw [← f6 o j, ← f6 f j]
    exact g2 j (by omega)
section SCPut2
variable {Y : Gl} {X : Cx} {e : Nat} {iv av : IVt} {bs f : Nat} {n : Nat → Nat} {B : Nat → Nat → Int} {pk fr E : Int} {S : PS}
theorem s_X4_twin2 (h : cFl iv av n B) (hf : f < 64) : OkN Y (e + 2) mX4_twin [.ref (gl_b Y + 1), .int (i32 (f : Int))] RV iv av 116 (Same iv av (twn n B f)) := by
  refine OkN.mono (s_X4_twin h.1 hf) ?_
  rintro r iv1 av1 hR1 ⟨rfl, rfl, hr⟩
  have hn := h.2.1 f hf
  refine ⟨(twn_of ?_).symm, rfl, rfl⟩
  rcases hr with ⟨e1, g⟩ | ⟨o, e1, g1, g2, g3, g4⟩
  · refine Or.inl ⟨e1, g.imp (fun g => by omega) fun g o ho ht => g o ho ((cTw_iff h (by omega) hf).mpr ht)⟩
  · exact Or.inr ⟨o, e1, g1, by omega, (cTw_iff h (by omega) hf).mp g3, fun o' ho' ht => g4 o' ho' ((cTw_iff h (by omega) hf).mpr ht)⟩
theorem s_X11_joinFragment {rest : Nat} (hf : f < 64) (hFl : cFl iv av n B) (hc : cRp iv av S (f + 1)) (hr : rest ≤ n f) (hH : (pH S).1 + rest ≤ 65536) (hG : (pG S).1 ≤ 64) (hIP : InvP E iv av) : OkN Y (e + 2) mX11_joinFragment [.ref (gl_b Y + 0), .int (i32 (f : Int)), .int (i32 (rest : Int))] RV iv av 116
    (fun r iv' av' => ptF iv av iv' av' ∧ cRp iv' av' (sJoin f rest (fun i => B f (n f - rest + i)) S) (f + 1) ∧ InvP E iv' av') := by
  obtain ⟨f1, f5, f6, f7⟩ := id hFl
  obtain ⟨⟨a1, a2⟩, ⟨b1, b2⟩, ⟨c1, c2⟩, ⟨d1, d2⟩, ee⟩ := id hc
  have hnf := f5 f hf
  have hb0 := f1.bd (i := f) (by omega)
  have hb1 := f1.bd (i := f + 1) (by omega)
  have hb2 := f1.2.2.2
  obtain ⟨st, hst⟩ := Int.eq_ofNat_of_zero_le hb0.1
  have k3 : kl (2 + 1) = 65536 := rfl
  have k15 : kl (14 + 1) = 65536 := rfl
  refine o_X11_joinFragment (by omega) (by omega) (OkN.mono (s_X2_count bk_14) ?_)
  rintro r1 iv1 av1 hR1 ⟨hr1, rfl, rfl⟩ _
  rw [d1] at hr1
  subst hr1
  refine OkN.mono (s_X5_join hf (by omega)) ?_
  rintro r2 iv2 av2 hR2 ⟨rfl, rfl⟩
  refine OkN.mono s_X4_bytes ?_
  rintro r3 iv3 av3 hR3 ⟨rfl, rfl, rfl⟩
  refine ⟨rfl, by omega, ?_⟩
  have hsta := s_X4_start (Y := Y) (e := e + 1) (iv := iv3) (av := up2 (up2 av1 6 (8 * f + 4) (iv3 5 6)) 6 (8 * f + 5) ((pH S).1 : Int)) (x := (f : Int) + 1) (by omega) (by omega)
  rw [show ((f : Int) + 1).toNat = f + 1 by omega, show up2 (up2 av1 6 (8 * f + 4) (iv3 5 6)) 6 (8 * f + 5) ((pH S).1 : Int) 4 (f + 1) = ((st + n f : Nat) : Int) by show av1 4 (f + 1) = _; omega] at hsta
  refine OkN.mono hsta ?_
  rintro r4 iv4 av4 hR4 ⟨rfl, rfl, rfl⟩ _
  refine ⟨by omega, ?_⟩
  rw [show ((st + n f : Nat) : Int) - (rest : Int) = ((st + (n f - rest) : Nat) : Int) by omega]
  refine OkN.mono (s_X2_addAll bk_14 bk_2 (f := ((st + (n f - rest) : Nat) : Int)) (n := (rest : Int)) (by omega) (by omega) (by omega) (by omega) (by omega) (by omega) (by omega) (by omega)) ?_
  rintro r5 iv5 av5 hR5 ⟨rfl, rfl⟩
  refine ⟨⟨(Off.rf _ _).up (by decide), (((Off.rf _ _).up (by decide)).up (by decide)).upA (by decide), rfl⟩, ⟨⟨a1, a2⟩, ⟨b1, b2⟩, ⟨c1, c2⟩, ⟨?_, ?_⟩, fun t ht w h1 h2 => ?_⟩, hIP.off ((Off.rf _ _).up (by decide)) ((((Off.rf _ _).up (by decide)).up (by decide)).upA (by decide))⟩
  · rw [up2_eq, d1]
    show _ = (((pH S).1 + rest : Nat) : Int)
    omega
  · refine apR_rows (g0 := av1 15) d2 (fun j hj => ?_) fun j hj => ?_
    · show va_cpy (av1 3) (av1 15) ((st + (n f - rest) : Nat) : Int).toNat (iv4 14 1).toNat (rest : Int).toNat j = _
      rw [d1, Int.toNat_natCast, Int.toNat_natCast, Int.toNat_natCast]
      unfold va_cpy
      rw [if_neg (by omega)]
    · show va_cpy (av1 3) (av1 15) ((st + (n f - rest) : Nat) : Int).toNat (iv4 14 1).toNat (rest : Int).toNat ((pH S).1 + j) = _
      rw [d1, Int.toNat_natCast, Int.toNat_natCast, Int.toNat_natCast]
      unfold va_cpy
      rw [if_pos (by omega)]
      show av1 3 _ = B f (n f - rest + j)
      rw [f6 f, hst, Int.toNat_natCast]
      congr 1
      omega
  · show (if 8 * t + w = 8 * f + 5 then ((pH S).1 : Int) else if 8 * t + w = 8 * f + 4 then iv4 5 6 else av1 6 (8 * t + w)) = stF (stF (pF S) f 4 (pG S).1) f 5 (pH S).1 t w
    unfold stF
    by_cases c5 : t = f ∧ w = 5
    · rw [if_pos (by omega), if_pos c5]
    · rw [if_neg (by omega), if_neg c5]
      by_cases c4 : t = f ∧ w = 4
      · rw [if_pos (by omega), if_pos c4]
        exact c1
      · rw [if_neg (by omega), if_neg c4]
        exact ee t ht w h1 h2
theorem s_X11_closeFragment (hpk : InR pk) (hc : cRp iv av S f) (hH0 : 0 < (pH S).1) (hH : (pH S).1 ≤ 65536) (hR : (pR S).1 + (pH S).1 ≤ 80000) (hG : (pG S).1 < 64) (hIP : InvP E iv av) (hE : E ≤ 90000000) : OkN Y (e + 6) mX11_closeFragment [.ref (gl_b Y + 0), .int (i32 pk)] RV iv av 116
    (fun r iv' av' => ptF iv av iv' av' ∧ cRp iv' av' (sClose pk S) f ∧ InvP (E + (pH S).1) iv' av') := by
  obtain ⟨⟨a1, a2⟩, ⟨b1, b2⟩, ⟨c1, c2⟩, ⟨d1, d2⟩, ee⟩ := id hc
  obtain ⟨q1, q2, q3⟩ := sAll_congr (pk := pk) (n := (pH S).1) (D := DB av 14 0) (D' := (pH S).2) fun i hi => by
    show av 15 (0 + i) = _
    rw [Nat.zero_add]
    exact d2 i hi
  have hnum := sNum_in pk (pH S).2 hH
  refine o_X11_closeFragment hpk (OkN.mono (s_X2_count bk_12) ?_)
  rintro r1 iv1 av1 hR1 ⟨hr1, rfl, rfl⟩ _
  rw [a1] at hr1
  subst hr1
  refine OkN.mono (s_X2_count bk_14) ?_
  rintro r2 iv2 av2 hR2 ⟨hr2, rfl, rfl⟩ _
  rw [d1] at hr2
  subst hr2
  refine OkN.mono (s_X11_append (k := 14) (F := 0) (n := (pH S).1) (beg := (pR S).1) (pk := pk) (Or.inr rfl) (by omega) hH (by rw [d1]; omega) (by rw [d1]; omega) hIP a1 (by omega) (by omega) hpk) ?_
  rintro r3 iv3 av3 hR3 ⟨rfl, o, i1, i2, i3, i4⟩ _
  rw [q3]
  rw [q1] at i1 i3
  have o5 : iv3 5 = iv2 5 := o.1 5 (by decide)
  refine OkN.mono (s_X5_addFragment (b := ((pR S).1 : Int)) (c := sNum pk (pH S).2 (pH S).1) (by omega) (by omega) (by rw [o5]; omega) (by rw [o5]; omega)) ?_
  rintro r4 iv4 av4 hR4 ⟨rfl, rfl⟩
  refine OkN.mono (s_X2_keep bk_14 (x := 0) (by omega)) ?_
  rintro r5 iv5 av5 hR5 ⟨hi5, rfl⟩
  have e14 : up2 iv3 5 6 (iv3 5 6 + 1) 14 1 = ((pH S).1 : Int) := by
    show iv3 14 1 = _
    rw [o.1 14 (by decide)]
    exact d1
  rw [if_pos (by rw [e14]; omega)] at hi5
  subst hi5
  unfold sClose
  rw [if_neg (by omega)]
  refine ⟨⟨((o.1.mono (by decide)).up (by decide)).up (by decide), ((o.2.mono (by decide)).up (by decide)).up (by decide), congrFun o5 4⟩, ⟨⟨i1, ?_⟩, ⟨?_, fun j hj => ?_⟩, ⟨?_, fun j hj => ?_⟩, ⟨rfl, fun j hj => absurd hj (Nat.not_lt_zero _)⟩, fun t ht w h1 h2 => ?_⟩, i4.off (((Off.rf _ _).up (by decide)).up (by decide)) (((Off.rf _ _).up (by decide)).up (by decide))⟩
  · refine apR_rows a2 i2 fun j hj => ?_
    rw [← q2 j (by rw [q1]; exact hj)]
    exact i3 j hj
  · show iv3 5 5 = _
    rw [o5]
    exact b1
  · show av3 7 j = _
    rw [o.2 7 (by decide)]
    exact b2 j hj
  · show iv3 5 6 + 1 = (((pG S).1 + 1 : Nat) : Int)
    rw [o5, c1]
    omega
  · have hj' : j < (pG S).1 + 1 := hj
    show (if j = (iv3 5 6).toNat then ((pR S).1 : Int) else av3 8 j) = (if j = (pG S).1 then ((pR S).1 : Int) else (pG S).2.1 j) ∧ (if j = (iv3 5 6).toNat then sNum pk (pH S).2 (pH S).1 else av3 9 j) = if j = (pG S).1 then sNum pk (pH S).2 (pH S).1 else (pG S).2.2 j
    rw [o5, c1, Int.toNat_natCast, o.2 8 (by decide), o.2 9 (by decide)]
    by_cases he : j = (pG S).1
    · rw [if_pos he, if_pos he, if_pos he, if_pos he]
      exact ⟨rfl, rfl⟩
    · rw [if_neg he, if_neg he, if_neg he, if_neg he]
      exact c2 j (by omega)
  · show av3 6 (8 * t + w) = _
    rw [o.2 6 (by decide)]
    exact ee t ht w h1 h2
theorem cRp.shr {t : Nat} (hc : cRp iv av S f) (ht : t < f) (hn : pF S t 1 = n f) : cRp iv (upA av 6 (fun i => if 8 * f ≤ i ∧ i < 8 * f + 8 then av 6 (8 * t + (i - 8 * f)) else av 6 i)) (sShare f t (n f) S) (f + 1) := by
  obtain ⟨a, b, c, d, ee⟩ := hc
  refine ⟨a, b, c, d, fun t' ht' w h1 h2 => ?_⟩
  show (if 8 * f ≤ 8 * t' + w ∧ 8 * t' + w < 8 * f + 8 then av 6 (8 * t + (8 * t' + w - 8 * f)) else av 6 (8 * t' + w)) = if t' = f then (if w = 1 then (n f : Int) else pF S t w) else pF S t' w
  by_cases he : t' = f
  · subst he
    rw [if_pos (by omega), if_pos rfl, show 8 * t' + w - 8 * t' = w by omega, ee t ht w h1 h2]
    by_cases w1 : w = 1
    · subst w1
      rw [if_pos rfl]
      exact hn
    · rw [if_neg w1]
  · rw [if_neg (by omega), if_neg he]
    exact ee t' (by omega) w h1 h2
theorem l_X11_put (C : CX Y X RX11 "put" cX11_put 7 (some .int) (e + 7) 0 0) (hpk : InR pk) (hfr : InR fr) (h1 : 4096 ≤ bs) (h2 : bs ≤ 65536) (hT : sT n 64 ≤ 65536) (hE : E ≤ 80000000) {iv0 av0 : IVt} (hlog : 12 ≤ iv0 5 4 ∧ iv0 5 4 ≤ 16) (hbs : bkS iv0 = bs) (hFl : cFl iv0 av0 n B) {P : PN} (hP : ∀ iv' av', ptF iv0 av0 iv' av' → cRp iv' av' (sEnd pk fr bs n B) 64 → InvP (E + 65536) iv' av' → P ((pR (sEnd pk fr bs n B)).1 : Int) iv' av') :
    ∀ (d f : Nat) (iv av : IVt), f + d = 64 → ptF iv0 av0 iv av → cRp iv av (sPut pk fr bs n B f) f → InvP (E + sT n f - (pH (sPut pk fr bs n B f)).1) iv av → L_X11_put_51 Y X P pk fr f iv av := by
  have hb : 0 < bs := by omega
  intro d
  induction d with
  | zero =>
    intro f iv av q1 q2 q3 q4
    have ef : f = 64 := by omega
    subst ef
    have hJ := pJ_put (pk := pk) (fr := fr) (B := B) h1 h2 64 hT
    unfold sEnd at hP
    generalize hS : sPut pk fr bs n B 64 = S1 at *
    obtain ⟨⟨s1, s2, s3, s4⟩, s5, s6⟩ := hJ.1
    refine w_X11_put_51 C hpk hfr (by omega) ⟨fun _ => OkN.mono (s_X2_count bk_14) ?_, fun g => absurd g (by omega)⟩
    rintro r1 iv1 av1 hR1 ⟨hr1, rfl, rfl⟩ _
    have h14 := q3.2.2.2.1.1
    refine ⟨fun hle => OkN.mono (s_X2_count bk_12) ?_, fun hgt => OkN.mono (s_X11_closeFragment (S := S1) hpk q3 (by omega) (by omega) (by omega) ?_ q4 (by omega)) ?_⟩
    · have h0 : (pH S1).1 = 0 := by omega
      have ec : sClose pk S1 = S1 := by unfold sClose; rw [if_pos h0]
      rw [ec] at hP
      rintro r2 iv2 av2 hR2 ⟨hr2, rfl, rfl⟩ _
      rw [q3.1.1] at hr2
      subst hr2
      exact hP _ _ q2 q3 (q4.mono (by omega))
    · rw [if_neg (by omega)] at s3
      omega
    · rintro r2 iv2 av2 hR2 ⟨g1, g2, g3⟩
      refine OkN.mono (s_X2_count bk_12) ?_
      rintro r3 iv3 av3 hR3 ⟨hr3, rfl, rfl⟩ _
      rw [g2.1.1] at hr3
      subst hr3
      exact hP _ _ (q2.tr g1) g2 (g3.mono (by omega))
  | succ d ih =>
    intro f iv av q1 q2 q3 q4
    have hf : f < 64 := by omega
    have hTf : sT n f + n f ≤ 65536 := Nat.le_trans (sT_le (show f + 1 ≤ 64 by omega)) hT
    have eT : sT n (f + 1) = sT n f + n f := rfl
    have hJ := pJ_put (n := n) (pk := pk) (fr := fr) (B := B) h1 h2 f (by omega)
    have hw := twP n B f
    have enx : sPut pk fr bs n B (f + 1) = if twn n B f < 0 then sFile pk fr bs f (n f) (B f) (sPut pk fr bs n B f) else sShare f (twn n B f).toNat (n f) (sPut pk fr bs n B f) := rfl
    have hih := fun iv9 av9 => ih (f + 1) iv9 av9 (by omega)
    rw [enx] at hih
    clear ih enx
    generalize hS : sPut pk fr bs n B f = S0 at *
    generalize htw : twn n B f = tw at *
    have hFl1 := hFl.pt q2
    refine w_X11_put_51 C hpk hfr (by omega) ⟨fun g => absurd g (by omega), fun _ => OkN.mono (s_X4_twin2 hFl1 hf) ?_⟩
    rw [htw]
    rintro r1 iv1 av1 hR1 ⟨rfl, rfl, rfl⟩ _
    refine ⟨fun hneg => ?_, fun hpos => ?_⟩
    · rw [if_pos hneg] at hih
      have hr := restOf_lt (fr := fr) (n := n f) hb
      have hl1 : iv1 5 4 = iv0 5 4 := q2.2.2
      have hbs1 : bkS iv1 = bs := by unfold bkS at *; rw [hl1]; exact hbs
      refine OkN.mono (s_X11_putBlocks (S := S0) (E := E + sT n f - (pH S0).1) hf hpk hfr hJ h1 h2 hT (by omega) (by omega) hbs1 hFl1 q3 q4) ?_
      rintro r2 iv2 av2 hR2 ⟨rfl, g1, g2, g3⟩ _
      obtain ⟨m1, m2, m3, m4⟩ := mid_ok (pk := pk) (fr := fr) (B := B f) hJ h1 h2 hTf
      have hmd := md_mid (S := S0) (f := f) (n := n f) (pk := pk) (fr := fr) (B := B f) hb h2
      unfold sFile at hih
      generalize hS1 : sMid pk fr bs f (n f) (B f) S0 = S1 at *
      have eH : pH S1 = pH S0 := hmd.1.2.1
      have q5 := q2.tr g1
      have hl2 : iv2 5 4 = iv0 5 4 := q5.2.2
      have hbs2 : (2 : Int) ^ (iv2 5 4).toNat = bs := by rw [hl2]; exact hbs
      obtain ⟨⟨s1, s2, s3, s4⟩, s5, s6⟩ := id m1
      refine ⟨fun hle => ⟨fun _ => ?_, fun g => absurd hle g⟩, fun hgt => OkN.mono (s_X5_blockBytes (by omega) (by omega)) ?_⟩
      · rw [if_neg (by omega)] at hih
        refine hih iv2 av2 q5 g2 (g3.mono ?_)
        rw [eH]
        omega
      · rw [if_pos (by omega)] at hih
        rintro r3 iv3 av3 hR3 ⟨hr3, rfl, rfl⟩ _
        rw [hbs2] at hr3
        subst hr3
        refine OkN.mono (s_X2_count bk_14) ?_
        rintro r4 iv4 av4 hR4 ⟨hr4, rfl, rfl⟩ _
        rw [g2.2.2.2.1.1] at hr4
        subst hr4
        have hFl2 := hFl.pt q5
        refine ⟨by omega, fun hfit => ⟨fun g => absurd g hgt, fun _ => ?_⟩, fun hfull => ?_⟩
        · have er : sRoom pk bs (restOf fr bs (n f)) S1 = S1 := by unfold sRoom; rw [if_neg (by omega)]
          rw [er] at hih
          refine OkN.mono (s_X11_joinFragment (S := S1) (rest := restOf fr bs (n f)) hf hFl2 g2 hr.2 (by omega) (by omega) g3) ?_
          rintro r5 iv5 av5 hR5 ⟨j1, j2, j3⟩
          refine hih iv5 av5 (q5.tr j1) j2 (j3.mono ?_)
          show _ ≤ _ - (((pH S1).1 + restOf fr bs (n f) : Nat) : Int)
          rw [eH]
          omega
        · have er : sRoom pk bs (restOf fr bs (n f)) S1 = sClose pk S1 := by unfold sRoom; rw [if_pos (by omega)]
          rw [er] at hih
          have c0 := close_N (pk := pk) (S := S1)
          have hG : (pG (sClose pk S1)).1 ≤ 64 := by
            have := (m1.close (pk := pk) (by omega) h2).1.2.2.1
            omega
          refine OkN.mono (s_X11_closeFragment (S := S1) hpk g2 (by omega) (by omega) (by omega) ?_ g3 (by omega)) ?_
          · rw [if_neg (by omega)] at s3
            omega
          · rintro r5 iv5 av5 hR5 ⟨j1, j2, j3⟩
            refine ⟨fun g => absurd g hgt, fun _ => ?_⟩
            refine OkN.mono (s_X11_joinFragment (S := sClose pk S1) (rest := restOf fr bs (n f)) hf (hFl.pt (q5.tr j1)) j2 hr.2 (by omega) hG j3) ?_
            rintro r6 iv6 av6 hR6 ⟨l1, l2, l3⟩
            refine hih iv6 av6 ((q5.tr j1).tr l1) l2 (l3.mono ?_)
            show _ ≤ _ - (((pH (sClose pk S1)).1 + restOf fr bs (n f) : Nat) : Int)
            rw [c0.2.2, eH]
            omega
    · rw [if_neg hpos] at hih
      rcases hw with ⟨e1, _⟩ | ⟨o, e1, g1, g2, g3, g4⟩
      · omega
      · subst e1
        rw [Int.toNat_natCast] at hih
        refine OkN.mono (s_X5_share hf (t := o) (by omega) (by omega)) ?_
        rintro r2 iv2 av2 hR2 ⟨rfl, rfl⟩
        refine hih iv2 _ (q2.tr ⟨Off.rf _ _, (Off.rf _ _).upA (by decide), rfl⟩) (q3.shr g1 ?_) ((q4.off (Off.rf _ _) ((Off.rf _ _).upA (by decide))).mono ?_)
        · rw [← g3.1]
          exact (hJ.2 o g1).1.1
        · show _ ≤ _ - ((pH S0).1 : Int)
          omega
end SCPut2
