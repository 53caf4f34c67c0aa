/-! The class puts a file. -/
theorem InvP.off {E : Int} {iv av iv' av' : IVt} (h : InvP E iv av) (h1 : Off [5, 12, 14] iv iv') (h2 : Off [6, 7, 8, 9, 13, 15] av av') : InvP E iv' av' := by
  unfold InvP at *
  rw [h1 57 (by decide), h1 23 (by decide), h2 24 (by decide), h2 47 (by decide), h2 48 (by decide), h2 51 (by decide), h2 52 (by decide), h2 32 (by decide)]
  exact h
theorem cnt_min {fr : Int} {bs n : Nat} (hb : 0 < bs) : min (cntB fr bs n * bs) n ≤ n - restOf fr bs n := by
  by_cases h0 : restOf fr bs n = 0
  · rw [h0]
    exact Nat.min_le_right _ _
  · obtain ⟨_, e1, e2, e3⟩ := restOf_pos hb (by omega : 0 < restOf fr bs n)
    rw [e2, e1, e3]
    exact Nat.min_le_left _ _
abbrev ptF (iv av iv' av' : IVt) : Prop := Off [5, 12, 14, 22, 23, 57] iv iv' ∧ Off [6, 7, 8, 9, 13, 15, 24, 25, 27, 28, 29, 30, 31, 32, 34, 35, 36, 38, 39, 40, 42, 43, 44, 53, 54, 55, 56] av av' ∧ iv' 5 4 = iv 5 4
theorem ptF.tr {a b c d x y : IVt} (h : ptF a b c d) (g : ptF c d x y) : ptF a b x y := ⟨h.1.tr g.1, h.2.1.tr g.2.1, g.2.2.trans h.2.2⟩
/-- the class's cells hold what was put, files below f -/
def cRp (iv av : IVt) (S : PS) (f : Nat) : Prop := (iv 12 1 = (pR S).1 ∧ ∀ j, j < (pR S).1 → av 13 j = (pR S).2 j) ∧ (iv 5 5 = (pN S).1 ∧ ∀ j, j < (pN S).1 → av 7 j = (pN S).2 j) ∧ (iv 5 6 = (pG S).1 ∧ ∀ j, j < (pG S).1 → av 8 j = (pG S).2.1 j ∧ av 9 j = (pG S).2.2 j) ∧ (iv 14 1 = (pH S).1 ∧ ∀ j, j < (pH S).1 → av 15 j = (pH S).2 j) ∧ ∀ t, t < f → ∀ w, 1 ≤ w → w < 8 → av 6 (8 * t + w) = pF S t w
theorem cRp.opn {iv av : IVt} {S : PS} {f n : Nat} {beg : Int} (h : cRp iv av S f) : cRp iv (upA av 6 (loF (av 6) f n beg (iv 5 5))) (sOpen f n beg S) (f + 1) := by
  obtain ⟨a, b, c, d, e⟩ := h
  refine ⟨a, b, c, d, fun t ht w h1 h2 => ?_⟩
  show loF (av 6) f n beg (iv 5 5) (8 * t + w) = if t = f then (if w = 1 then (n : Int) else if w = 2 then beg else if w = 4 then -2 else if w = 7 then ((pN S).1 : Int) else 0) else pF S t w
  unfold loF
  by_cases htf : t = f
  · subst htf
    rw [if_pos rfl]
    by_cases w1 : w = 1
    · rw [if_pos (by omega), if_pos w1]
    · rw [if_neg (by omega), if_neg w1]
      by_cases w2 : w = 2
      · rw [if_pos (by omega), if_pos w2]
      · rw [if_neg (by omega), if_neg w2]
        by_cases w4 : w = 4
        · rw [if_pos (by omega), if_pos w4]
        · rw [if_neg (by omega), if_neg w4]
          by_cases w7 : w = 7
          · rw [if_pos (by omega), if_pos w7]
            exact b.1
          · rw [if_neg (by omega), if_neg w7, if_pos (by omega)]
  · rw [if_neg htf, if_neg (by omega), if_neg (by omega), if_neg (by omega), if_neg (by omega), if_neg (by omega)]
    exact e t (by omega) w h1 h2
theorem cRp.zer {iv av : IVt} {S : PS} {f b : Nat} {pk : Int} {D : Nat → Int} (h : cRp iv av S (f + 1)) (hz : ZD D b) : cRp (up2 iv 5 5 (iv 5 5 + 1)) (up2 (up2 (up2 av 7 (iv 5 5).toNat 0) 6 (8 * f + 3) (av 6 (8 * f + 3) + 1)) 6 (8 * f + 6) (av 6 (8 * f + 6) + b)) (sBlk pk f D b S) (f + 1) := by
  obtain ⟨a, ⟨b1, b2⟩, c, d, e⟩ := h
  unfold sBlk
  rw [cif_pos hz]
  refine ⟨a, ⟨?_, fun j hj => ?_⟩, c, d, fun t ht w h1 h2 => ?_⟩
  · rw [up2_eq, b1]
    show _ = (((pN S).1 + 1 : Nat) : Int)
    omega
  · have hj' : j < (pN S).1 + 1 := hj
    show (if j = (iv 5 5).toNat then 0 else av 7 j) = if j = (pN S).1 then 0 else (pN S).2 j
    rw [b1, Int.toNat_natCast]
    split
    · rfl
    · exact b2 j (by omega)
  · have e3 := e f (by omega) 3 (by omega) (by omega)
    have e6 := e f (by omega) 6 (by omega) (by omega)
    show (if 8 * t + w = 8 * f + 6 then av 6 (8 * f + 6) + b else if 8 * t + w = 8 * f + 3 then av 6 (8 * f + 3) + 1 else av 6 (8 * t + w)) = stF (stF (pF S) f 3 (pF S f 3 + 1)) f 6 (pF S f 6 + b) t w
    unfold stF
    rw [e3, e6]
    by_cases c6 : t = f ∧ w = 6
    · rw [if_pos (by omega), if_pos c6]
    · rw [if_neg (by omega), if_neg c6]
      by_cases c3 : t = f ∧ w = 3
      · rw [if_pos (by omega), if_pos c3]
      · rw [if_neg (by omega), if_neg c3]
        exact e t ht w h1 h2
theorem apR_rows {g0 g : Nat → Int} {r : Nat × (Nat → Int)} {n : Nat} {G : Nat → Int} (h0 : ∀ j, j < r.1 → g0 j = r.2 j) (h1 : ∀ j, j < r.1 → g j = g0 j) (h2 : ∀ j, j < n → g (r.1 + j) = G j) : ∀ j, j < (apR r n G).1 → g j = (apR r n G).2 j := by
  intro j hj
  have hj' : j < r.1 + n := hj
  show g j = if j < r.1 then r.2 j else G (j - r.1)
  by_cases h : j < r.1
  · rw [if_pos h, h1 j h, h0 j h]
  · rw [if_neg h, ← h2 (j - r.1) (by omega)]
    congr 1
    omega
theorem cRp.blk {iv av iv1 av1 : IVt} {S : PS} {f b : Nat} {pk : Int} {D : Nat → Int} (h : cRp iv av S (f + 1)) (hz : ¬ ZD D b) (o : apF iv av iv1 av1) (e1 : iv1 12 1 = (((pR S).1 + sLen pk D b : Nat) : Int)) (e2 : ∀ j, j < (pR S).1 → av1 13 j = av 13 j) (e3 : ∀ j, j < sLen pk D b → av1 13 ((pR S).1 + j) = sByt pk D b j) : cRp (up2 iv1 5 5 (iv1 5 5 + 1)) (up2 (up2 av1 7 (iv1 5 5).toNat (sNum pk D b)) 6 (8 * f + 3) (av1 6 (8 * f + 3) + 1)) (sBlk pk f D b S) (f + 1) := by
  obtain ⟨⟨a1, a2⟩, ⟨b1, b2⟩, ⟨c1, c2⟩, ⟨d1, d2⟩, e⟩ := h
  unfold sBlk
  rw [cif_neg hz]
  have o5 : iv1 5 = iv 5 := o.1 5 (by decide)
  have o14 : iv1 14 = iv 14 := o.1 14 (by decide)
  have q6 : av1 6 = av 6 := o.2 6 (by decide)
  have q7 : av1 7 = av 7 := o.2 7 (by decide)
  refine ⟨⟨e1, apR_rows a2 e2 e3⟩, ⟨?_, fun j hj => ?_⟩, ⟨?_, fun j hj => ?_⟩, ⟨?_, fun j hj => ?_⟩, fun t ht w h1 h2 => ?_⟩
  · rw [up2_eq, o5, b1]
    show _ = (((pN S).1 + 1 : Nat) : Int)
    omega
  · have hj' : j < (pN S).1 + 1 := hj
    show (if j = (iv1 5 5).toNat then sNum pk D b else av1 7 j) = if j = (pN S).1 then sNum pk D b else (pN S).2 j
    rw [o5, b1, Int.toNat_natCast, q7]
    split
    · rfl
    · exact b2 j (by omega)
  · show iv1 5 6 = _
    rw [o5]
    exact c1
  · show av1 8 j = _ ∧ av1 9 j = _
    rw [o.2 8 (by decide), o.2 9 (by decide)]
    exact c2 j hj
  · show iv1 14 1 = _
    rw [o14]
    exact d1
  · show av1 15 j = _
    rw [o.2 15 (by decide)]
    exact d2 j hj
  · have e3 := e f (by omega) 3 (by omega) (by omega)
    show (if 8 * t + w = 8 * f + 3 then av1 6 (8 * f + 3) + 1 else av1 6 (8 * t + w)) = stF (pF S) f 3 (pF S f 3 + 1) t w
    unfold stF
    rw [q6, e3]
    by_cases c3 : t = f ∧ w = 3
    · rw [if_pos (by omega), if_pos c3]
    · rw [if_neg (by omega), if_neg c3]
      exact e t ht w h1 h2
/-- the files' bytes, as the class has them -/
def cFl (iv av : IVt) (n : Nat → Nat) (B : Nat → Nat → Int) : Prop := FI iv av ∧ (∀ t, t < 64 → av 4 (t + 1) - av 4 t = n t) ∧ (∀ t j, B t j = av 3 ((av 4 t).toNat + j)) ∧ ∀ j, -128 ≤ av 3 j ∧ av 3 j ≤ 127
theorem cFl.pt {iv av iv' av' : IVt} {n : Nat → Nat} {B : Nat → Nat → Int} (h : cFl iv av n B) (o : ptF iv av iv' av') : cFl iv' av' n B := by
  unfold cFl FI at *
  rw [o.1 2 (by decide), o.2.1 4 (by decide), o.2.1 3 (by decide)]
  exact h
section SCPut
variable {Y : Gl} {X : Cx} {e : Nat} {iv av : IVt} {bs f : Nat} {n : Nat → Nat} {B : Nat → Nat → Int} {pk fr E : Int} {S : PS}
theorem l_X11_putBlocks (C : CX Y X RX11 "putBlocks" cX11_putBlocks 10 (some .int) (e + 6) 0 0) (hf : f < 64) (hpk : InR pk) (hJ : pJ bs n f S) (h1 : 4096 ≤ bs) (h2 : bs ≤ 65536) (hT : sT n 64 ≤ 65536) (hE : E + 70000 ≤ 100000000) {beg : Int} {st : Nat} {iv0 av0 : IVt} (hFl : cFl iv0 av0 n B) (hst : av0 4 f = st) {P : PN} (hP : ∀ iv' av', ptF iv0 av0 iv' av' → cRp iv' av' (sBlks pk f (B f) bs (n f) (cntB fr bs (n f)) (sOpen f (n f) beg S)) (f + 1) → InvP (E + ((n f - restOf fr bs (n f) : Nat) : Int)) iv' av' → P (restOf fr bs (n f)) iv' av') :
    ∀ (d m : Nat) (iv av : IVt), m + d = cntB fr bs (n f) → ptF iv0 av0 iv av → cRp iv av (sBlks pk f (B f) bs (n f) m (sOpen f (n f) beg S)) (f + 1) → InvP (E + ((min (m * bs) (n f) : Nat) : Int)) iv av → L_X11_putBlocks_77 Y X P f pk (n f) bs (restOf fr bs (n f)) st ((m * bs : Nat) : Int) iv av := by
  have hb : 0 < bs := by omega
  have hr := restOf_lt (fr := fr) (n := n f) hb
  have hTf : sT n f + n f ≤ 65536 := Nat.le_trans (sT_le (show f + 1 ≤ 64 by omega)) hT
  have hcm := cnt_min (fr := fr) (n := n f) hb
  intro d
  induction d with
  | zero =>
    intro m iv av q1 q2 q3 q4
    have em : m = cntB fr bs (n f) := by omega
    have hge : ¬ (m * bs < n f - restOf fr bs (n f)) := fun h => by
      have := (cntB_lt hb).mpr h
      omega
    subst em
    generalize hx : cntB fr bs (n f) * bs = x at *
    have hx2 : x ≤ 200000 := by
      by_cases hc0 : cntB fr bs (n f) = 0
      · rw [hc0, Nat.zero_mul] at hx
        omega
      · have h8 := (cntB_lt (fr := fr) (n := n f) (m := cntB fr bs (n f) - 1) hb).mp (by omega)
        have e9 : cntB fr bs (n f) * bs = (cntB fr bs (n f) - 1) * bs + bs := by
          rw [← Nat.succ_mul]
          congr 1
          omega
        omega
    refine w_X11_putBlocks_77 C (by omega) hpk (by omega) (by omega) (by omega) ⟨by omega, fun _ => hP iv av q2 q3 (q4.mono (by omega)), fun g => absurd g (by omega)⟩
  | succ d ih =>
    intro m iv av q1 q2 q3 q4
    have hlt := (cntB_lt (fr := fr) (n := n f) (m := m) hb).mp (by omega)
    have hmd := md_all (S0 := S) (f := f) (n := n f) (beg := beg) (pk := pk) (B := B f) h2 m fun k hk => by
      have := (cntB_lt (fr := fr) (n := n f) (m := k) hb).mp (by omega)
      omega
    have hih := fun iv9 av9 => ih (m + 1) iv9 av9 (by omega)
    rw [show (m + 1) * bs = m * bs + bs from Nat.succ_mul m bs] at hih
    have hm4 := Nat.mul_le_mul_left m h1
    have enx : sBlks pk f (B f) bs (n f) (m + 1) (sOpen f (n f) beg S) = sBlk pk f (fun i => B f (m * bs + i)) (min bs (n f - m * bs)) (sBlks pk f (B f) bs (n f) m (sOpen f (n f) beg S)) := rfl
    rw [enx] at hih
    clear ih enx
    generalize hS1 : sBlks pk f (B f) bs (n f) m (sOpen f (n f) beg S) = S1 at *
    generalize hx : m * bs = x at *
    obtain ⟨bn, hbn⟩ : ∃ bn, bn = min bs (n f - x) := ⟨_, rfl⟩
    rw [← hbn] at hih
    obtain ⟨⟨a1, a2, a3⟩, ⟨b1, b2⟩, b3, ⟨d1, d2, d3, d4, d5, d6, d7, d8⟩, e1, e2⟩ := hmd
    obtain ⟨⟨s1, s2, s3, s4⟩, s5, s6⟩ := hJ.1
    obtain ⟨⟨c1, c2⟩, ⟨c3, c4⟩, c5, c6, c7⟩ := id q3
    have F3 := c7 f (by omega) 3 (by omega) (by omega)
    have F6 := c7 f (by omega) 6 (by omega) (by omega)
    obtain ⟨⟨f1, f2, f3, f4⟩, f5, f6, f7⟩ := hFl.pt q2
    have hst2 : av 4 f = st := by rw [q2.2.1 4 (by decide)]; exact hst
    have hnf := f5 f hf
    have hfb := FI.bd (iv := iv) (av := av) ⟨f1, f2, f3, f4⟩ (i := f + 1) (by omega)
    have k3 : kl (2 + 1) = 65536 := rfl
    have hmin : min (bs : Int) ((n f : Int) - (x : Int)) = (bn : Int) := by omega
    refine w_X11_putBlocks_77 C (by omega) hpk (by omega) (by omega) (by omega) ⟨by omega, fun g => absurd g (by omega), fun _ => ⟨by omega, OkN.mono s_X4_bytes ?_⟩⟩
    rintro r1 iv1 av1 hR1 ⟨rfl, rfl, rfl⟩
    refine ⟨rfl, by omega, ?_⟩
    rw [hmin, show (st : Int) + (x : Int) = ((st + x : Nat) : Int) by omega]
    refine OkN.mono (s_X2_isZero bk_2 (x1 := ((st + x : Nat) : Int)) (x2 := (bn : Int)) (by omega) (by omega) (by omega) (by omega) (by omega) (by omega)) ?_
    rintro r2 iv2 av2 hR2 ⟨rfl, rfl, hz⟩ _
    have hDD : DB av2 2 (st + x) = fun i => B f (x + i) := funext fun i => by
      show av2 3 (st + x + i) = B f (x + i)
      rw [f6 f (x + i), hst2, Int.toNat_natCast, Nat.add_assoc]
    have hZZ : ZR (av2 (2 + 1)) ((st + x : Nat) : Int) (bn : Int) ↔ ZD (fun i => B f (x + i)) bn := by
      have hv : ∀ i : Nat, av2 3 (((st + x : Nat) : Int) + (i : Int)).toNat = B f (x + i) := fun i => by
        rw [show (((st + x : Nat) : Int) + (i : Int)).toNat = st + x + i by omega, f6 f (x + i), hst2, Int.toNat_natCast, Nat.add_assoc]
      constructor
      · intro h i hi
        have g1 := h i (by omega)
        have g2 := f7 ((st + x) + i)
        have g3 := hv i
        rw [show (((st + x : Nat) : Int) + (i : Int)).toNat = st + x + i by omega] at g1 g3
        have g1 : av2 3 (st + x + i) % 256 = 0 := g1
        show B f (x + i) = 0
        omega
      · intro h i hi
        have g1 : B f (x + i) = 0 := h i (by omega)
        show av2 3 (((st + x : Nat) : Int) + (i : Int)).toNat % 256 = 0
        rw [hv i, g1]
        rfl
    have hN80 : iv2 5 5 < 80 := by omega
    have go : ∀ iv3 av3, ptF iv2 av2 iv3 av3 → cRp iv3 av3 (sBlk pk f (fun i => B f (x + i)) bn S1) (f + 1) → InvP (E + ((min x (n f) : Nat) : Int) + bn) iv3 av3 → L_X11_putBlocks_77 Y X P f pk (n f) bs (restOf fr bs (n f)) st ((x : Int) + (bs : Int)) iv3 av3 := by
      intro iv3 av3 g1 g2 g3
      rw [show (x : Int) + (bs : Int) = ((x + bs : Nat) : Int) by omega]
      exact hih iv3 av3 (q2.tr g1) g2 (g3.mono (by omega))
    rcases hz with ⟨rfl, hz⟩ | ⟨rfl, hz⟩
    · refine ⟨fun h => absurd h (by omega), fun _ => ?_⟩
      refine OkN.mono (s_X5_addZeros (b := (bn : Int)) hf (by omega) (by omega) hN80 (by omega) (by omega)) ?_
      rintro r3 iv3 av3 hR3 ⟨rfl, rfl⟩
      exact go _ _ ⟨(Off.rf _ _).up (by decide), (((Off.rf _ _).up (by decide)).up (by decide)).up (by decide), rfl⟩ (q3.zer (hZZ.mp hz)) ((q4.off ((Off.rf _ _).up (by decide)) ((((Off.rf _ _).up (by decide)).up (by decide)).up (by decide))).mono (by omega))
    · refine ⟨fun _ => OkN.mono s_X4_bytes ?_, fun h => absurd rfl h⟩
      rintro r3 iv3 av3 hR3 ⟨rfl, rfl, rfl⟩
      refine ⟨rfl, ?_⟩
      refine OkN.mono (s_X11_append (k := 2) (F := st + x) (n := bn) (beg := (pR S1).1) (Or.inl rfl) (by omega) (by omega) (by omega) (by omega) q4 c1 (by omega) (by omega) hpk) ?_
      rw [hDD]
      rintro r4 iv4 av4 hR4 ⟨rfl, o, i1, i2, i3, i4⟩ _
      have hnum := sNum_in pk (fun i => B f (x + i)) (n := bn) (by omega)
      have o5 : iv4 5 = iv3 5 := o.1 5 (by decide)
      have o6 : av4 6 = av3 6 := o.2 6 (by decide)
      refine OkN.mono (s_X5_addBlock (b := sNum pk (fun i => B f (x + i)) bn) hf (by omega) (by rw [o5]; omega) (by rw [o5]; exact hN80) (by rw [o6]; omega)) ?_
      rintro r5 iv5 av5 hR5 ⟨rfl, rfl⟩
      refine go _ _ ⟨(o.1.mono (by decide)).up (by decide), ((o.2.mono (by decide)).up (by decide)).up (by decide), congrFun o5 4⟩ (q3.blk (fun h => hz (hZZ.mpr h)) o i1 i2 i3) (i4.off ((Off.rf _ _).up (by decide)) (((Off.rf _ _).up (by decide)).up (by decide)))
theorem s_X11_putBlocks (hf : f < 64) (hpk : InR pk) (hfr : InR fr) (hJ : pJ bs n f S) (h1 : 4096 ≤ bs) (h2 : bs ≤ 65536) (hT : sT n 64 ≤ 65536) (hE : E + 70000 ≤ 100000000) (hlog : 12 ≤ iv 5 4 ∧ iv 5 4 ≤ 16) (hbs : bkS iv = bs) (hFl : cFl iv av n B) (hc : cRp iv av S f) (hIP : InvP E iv av) : OkN Y (e + 6) mX11_putBlocks [.ref (gl_b Y + 0), .int (i32 (f : Int)), .int (i32 pk), .int (i32 fr)] RV iv av 116
    (fun r iv' av' => r = restOf fr bs (n f) ∧ ptF iv av iv' av' ∧ cRp iv' av' (sMid pk fr bs f (n f) (B f) S) (f + 1) ∧ InvP (E + ((n f - restOf fr bs (n f) : Nat) : Int)) iv' av') := by
  have hb : 0 < bs := by omega
  have hr := restOf_lt (fr := fr) (n := n f) hb
  have hTf : sT n f + n f ≤ 65536 := Nat.le_trans (sT_le (show f + 1 ≤ 64 by omega)) hT
  obtain ⟨f1, f5, f6, f7⟩ := id hFl
  have hnf := f5 f hf
  have hb0 := f1.bd (i := f) (by omega)
  have hb1 := f1.bd (i := f + 1) (by omega)
  have hb2 := f1.2.2.2
  obtain ⟨st, hst⟩ := Int.eq_ofNat_of_zero_le hb0.1
  obtain ⟨s1, s2, s3, s4⟩ := hJ.1.1
  have hbs' : (2 : Int) ^ (iv 5 4).toNat = bs := hbs
  have hband : g_and (n f : Int) ((bs : Int) - 1) = ((n f % bs : Nat) : Int) := by
    rw [← hbs', g_and_mask _ (by omega), hbs', Int.natCast_emod]
  have main : ∀ X : Cx, CX Y X RX11 "putBlocks" cX11_putBlocks 10 (some .int) (e + 6) 0 0 → ∀ beg : Int, InR beg → beg = (if 0 < n f - restOf fr bs (n f) then ((pR S).1 : Int) else 0) → OkN Y (e + 5) mX5_open [.ref (gl_b Y + 5), .int (i32 (f : Int)), .int (i32 (n f : Int)), .int (i32 beg)] RV iv av 116 (fun _ iv16 av17 => L_X11_putBlocks_77 Y X (fun r iv' av' => r = restOf fr bs (n f) ∧ ptF iv av iv' av' ∧ cRp iv' av' (sMid pk fr bs f (n f) (B f) S) (f + 1) ∧ InvP (E + ((n f - restOf fr bs (n f) : Nat) : Int)) iv' av') f pk (n f) bs (restOf fr bs (n f)) st 0 iv16 av17) := by
    intro X C beg hbeg hbe
    refine OkN.mono (s_X5_open hf (by omega) hbeg) ?_
    rintro r1 iv1 av1 hR1 ⟨rfl, rfl⟩
    have o : ptF iv1 av iv1 (upA av 6 (loF (av 6) f (n f) beg (iv1 5 5))) := ⟨Off.rf _ _, (Off.rf _ _).upA (by decide), rfl⟩
    have hh := l_X11_putBlocks (Y := Y) (X := X) (e := e) (f := f) (n := n) (B := B) (pk := pk) (fr := fr) (E := E) (S := S) (beg := beg) (st := st) (iv0 := iv1) (av0 := av) (P := fun r iv' av' => r = restOf fr bs (n f) ∧ ptF iv1 av iv' av' ∧ cRp iv' av' (sMid pk fr bs f (n f) (B f) S) (f + 1) ∧ InvP (E + ((n f - restOf fr bs (n f) : Nat) : Int)) iv' av') C hf hpk hJ h1 h2 hT hE hFl hst (fun iv' av' g1 g2 g3 => ⟨rfl, g1, by unfold sMid; rw [← hbe]; exact g2, g3⟩) (cntB fr bs (n f)) 0 iv1 _ (by omega) o hc.opn ((hIP.off (Off.rf _ _) ((Off.rf _ _).upA (by decide))).mono (by omega))
    rw [show ((0 * bs : Nat) : Int) = 0 by rw [Nat.zero_mul]; rfl] at hh
    exact hh
  have hcnt := s_X4_count (Y := Y) (e := e + 4) f1 (x := (f : Int)) (by omega) (by omega)
  rw [Int.toNat_natCast, hnf] at hcnt
  have hsta := s_X4_start (Y := Y) (e := e + 5) (iv := iv) (av := av) (x := (f : Int)) (by omega) (by omega)
  rw [Int.toNat_natCast, hst] at hsta
  refine o_X11_putBlocks (by omega) hfr fun X C => OkN.mono hcnt ?_
  rintro r1 iv1 av1 hR1 ⟨rfl, rfl, rfl⟩ _
  refine OkN.mono (s_X5_blockBytes (by omega) (by omega)) ?_
  rintro r2 iv2 av2 hR2 ⟨hr2, rfl, rfl⟩ _
  rw [hbs'] at hr2
  subst hr2
  refine ⟨fun h0 => OkN.mono hsta ?_, fun h0 => OkN.mono hsta ?_⟩
  · have er : restOf fr bs (n f) = 0 := by unfold restOf; rw [if_pos h0]
    rintro r3 iv3 av3 hR3 ⟨rfl, rfl, rfl⟩ _
    refine ⟨fun hle => ?_, fun hgt => OkN.mono (s_X2_count bk_12) ?_⟩
    · have := main X C 0 (by omega) (by rw [if_neg (by omega)])
      rw [er] at this ⊢
      exact this
    · rintro r4 iv4 av4 hR4 ⟨hr4, rfl, rfl⟩ _
      have := main X C r4 (by rw [hr4, hc.1.1]; omega) (by rw [if_pos (by omega), hr4]; exact hc.1.1)
      rw [er] at this ⊢
      exact this
  · have er : restOf fr bs (n f) = n f % bs := by unfold restOf; rw [if_neg h0]
    rw [hband]
    rintro r3 iv3 av3 hR3 ⟨rfl, rfl, rfl⟩ _
    refine ⟨fun hle => ?_, fun hgt => OkN.mono (s_X2_count bk_12) ?_⟩
    · have := main X C 0 (by omega) (by rw [if_neg (by omega)])
      rw [er] at this ⊢
      exact this
    · rintro r4 iv4 av4 hR4 ⟨hr4, rfl, rfl⟩ _
      have := main X C r4 (by rw [hr4, hc.1.1]; omega) (by rw [if_pos (by omega), hr4]; exact hc.1.1)
      rw [er] at this ⊢
      exact this
end SCPut
