/-! Writing a made part's header. -/
def wZ (z : Nat → Int) : Nat → Bw → Bw
  | 0, b => b
  | k + 1, b => wr (z (ordN k)) 3 (wZ z k b)
def wTd (z : Nat → Int) (q : Nat × (Nat → Int) × (Nat → Int)) : Nat → Bw → Bw
  | 0, b => b
  | t + 1, b => wr (q.2.2 t) (sbits (q.2.1 t).toNat) (wC z 19 (q.2.1 t).toNat (wTd z q t b))
/-- its bits -/
def hdb (z : Nat → Int) (q : Nat × (Nat → Int) × (Nat → Int)) : Nat → Nat
  | 0 => 0
  | t + 1 => hdb z q t + ((z (q.2.1 t).toNat).toNat + sbits (q.2.1 t).toNat)
def wHdr (h d : Nat) (z : Nat → Int) (q : Nat × (Nat → Int) × (Nat → Int)) (b : Bw) : Bw := wTd z q q.1 (wZ z (tsz z) (wr (((tsz z : Nat) : Int) - 4) 4 (wr ((d : Int) - 1) 5 (wr ((h : Int) - 257) 5 b))))
theorem wZ_1 (z : Nat → Int) (b : Bw) : ∀ k, (wZ z k b).1 = b.1 + 3 * k := by
  intro k
  induction k with
  | zero => rfl
  | succ k ih =>
    show (wZ z k b).1 + 3 = _
    omega
theorem wTd_1 (z : Nat → Int) (q : Nat × (Nat → Int) × (Nat → Int)) (b : Bw) : ∀ t, (wTd z q t b).1 = b.1 + hdb z q t := by
  intro t
  induction t with
  | zero => rfl
  | succ t ih =>
    show (wTd z q t b).1 + (z (q.2.1 t).toNat).toNat + sbits (q.2.1 t).toNat = b.1 + (hdb z q t + ((z (q.2.1 t).toNat).toNat + sbits (q.2.1 t).toNat))
    omega
theorem hdb_mono (z : Nat → Int) (q : Nat × (Nat → Int) × (Nat → Int)) : ∀ m t, hdb z q t ≤ hdb z q (t + m) := by
  intro m
  induction m with
  | zero => intro t; exact Nat.le_refl _
  | succ m ih =>
    intro t
    have := ih t
    show _ ≤ hdb z q (t + m) + _
    omega
section SHeader
variable {Y : Gl} {X : Cx} {e : Nat} {iv av : IVt} {beg : Nat} {b : Bw}
theorem tsz_in (z : Nat → Int) : 4 ≤ tsz z ∧ tsz z ≤ 19 := ⟨nd_ge _ 4 19 (by omega), nd_le _ 4 19⟩
theorem s_X8_tellHeader {z : Nat → Int} {q : Nat × (Nat → Int) × (Nat → Int)} (hc : CdC av 41 z 19 19) (hT : TdC iv av q) (hok : TdOK q) (hq : q.1 ≤ 320) (hS : SK iv av beg b) (hroom : beg + (b.1 + 14 + 3 * tsz z + hdb z q q.1) / 8 ≤ 131072) : OkN Y (e + 2) mX8_tellHeader [.ref (gl_b Y + 22)] RV iv av 116
    (fun r iv' av' => WrC iv av iv' av' beg (wHdr (nd (av 35) 257 286) (nd (av 39) 1 30) z q b)) := by
  have hzs : ∀ s, s < 19 → av 43 s = z s := fun s hs => (hc.2.2.2.2 s hs).1
  have ez : tsz (av 43) = tsz z := nd_congr 4 19 fun i hi => hzs _ (ordN_lt i hi)
  have hz4 := tsz_in z
  have K41 : CodeK RV 116 41 := hc.1
  refine o_X8_tellHeader fun X C => OkN.mono s_X8_toldSizes ?_
  rintro r iv1 av1 hR1 ⟨rfl, rfl, rfl⟩ _
  rw [ez]
  refine OkN.mono s_X8_toldSymbols ?_
  rintro r iv2 av2 hR2 ⟨rfl, rfl, rfl⟩ _
  have hh1 := nd_le (av2 35) 257 286
  have hd1 := nd_le (av2 39) 1 30
  generalize hhv : nd (av2 35) 257 286 = h at *
  refine ⟨by omega, OkN.mono (s_X0_bitsK 5 rfl hS (by omega) (by omega)) ?_⟩
  rintro r iv3 av3 hR3 u1
  refine OkN.mono s_X8_toldDistances ?_
  rintro r iv4 av4 hR4 ⟨rfl, rfl, rfl⟩ _
  rw [u1.2.1 39 (by decide)]
  generalize hdv : nd (av2 39) 1 30 = d at *
  refine ⟨by omega, OkN.mono (s_X0_bitsK 5 rfl u1.2.2.2 (by omega) (by show beg + (b.1 + 5 + 5) / 8 ≤ 131072; omega)) ?_⟩
  rintro r iv5 av5 hR5 u2
  have w2 := u1.tr u2
  refine ⟨by omega, OkN.mono (s_X0_bitsK 4 rfl w2.2.2.2 (by omega) (by show beg + (b.1 + 5 + 5 + 4) / 8 ≤ 131072; omega)) ?_⟩
  rintro r iv6 av6 hR6 u3
  have w3 := w2.tr u3
  clear u1 u2 u3
  generalize hB : wr (((tsz z : Nat) : Int) - 4) 4 (wr ((d : Int) - 1) 5 (wr ((h : Int) - 257) 5 b)) = B at w3
  have hB1 : B.1 = b.1 + 14 := by rw [← hB]; show b.1 + 5 + 5 + 4 = _; omega
  have lp2 : ∀ (m t : Nat) (iv7 av7 : IVt), t + m = q.1 → WrC iv2 av2 iv7 av7 beg (wTd z q t (wZ z (tsz z) B)) → L_X8_tellHeader_80 Y X (fun r iv' av' => WrC iv2 av2 iv' av' beg (wHdr h d z q b)) t iv7 av7 := by
    intro m
    induction m with
    | zero =>
      intro t iv7 av7 q1 q2
      have et : t = q.1 := by omega
      have h14 : iv7 22 14 = q.1 := by rw [q2.1 22 (by decide)]; exact hT.1
      refine w_X8_tellHeader_80 C (by omega) fun _ => ⟨fun _ => ?_, fun g => absurd g (by omega)⟩
      unfold wHdr
      rw [hB, ← et]
      exact q2
    | succ m ih =>
      intro t iv7 av7 q1 q2
      have h14 : iv7 22 14 = q.1 := by rw [q2.1 22 (by decide)]; exact hT.1
      obtain ⟨t1, t2⟩ := hT.2 t (by omega)
      have r55 : ∀ av8 : IVt, Off [13] av2 av8 → av8 55 t = q.2.1 t := fun av8 h => (congrFun (h 55 (by decide)) t).trans t1
      have r56 : ∀ av8 : IVt, Off [13] av2 av8 → av8 56 t = q.2.2 t := fun av8 h => (congrFun (h 56 (by decide)) t).trans t2
      obtain ⟨c1, c2, c3, c4⟩ := hok t (by omega)
      have hm := hdb_mono z q m (t + 1)
      have hm1 : hdb z q (t + 1) = hdb z q t + ((z (q.2.1 t).toNat).toNat + sbits (q.2.1 t).toNat) := rfl
      rw [show t + 1 + m = q.1 by omega] at hm
      have e3 : wTd z q (t + 1) (wZ z (tsz z) B) = wr (q.2.2 t) (sbits (q.2.1 t).toNat) (wC z 19 (q.2.1 t).toNat (wTd z q t (wZ z (tsz z) B))) := rfl
      have hw := wTd_1 z q (wZ z (tsz z) B) t
      have hw2 := wZ_1 z B (tsz z)
      have hsb := sbits_le (q.2.1 t).toNat
      refine w_X8_tellHeader_80 C (by omega) fun _ => ⟨fun g => absurd g (by omega), fun _ => ⟨fun g => absurd g (by omega), fun _ => ⟨fun g => absurd g (by omega), fun _ => ⟨by omega, ?_⟩⟩⟩⟩
      rw [Int.toNat_natCast, r55 av7 q2.2.1]
      obtain ⟨x, hx⟩ := Int.eq_ofNat_of_zero_le c1
      rw [hx] at e3 hm1 hsb r55 c2 ⊢
      rw [Int.toNat_natCast] at e3 hm1 hsb
      generalize hBt : wTd z q t (wZ z (tsz z) B) = Bt at *
      have hcx := hc.of q2.2.1
      obtain ⟨z1, z2, z3⟩ := hcx.2.2.2.2 x (by omega)
      refine fun _ => OkN.mono (s_X3_turnedOf K41 (x := (x : Int)) (by omega)) ?_
      rintro r iv8 av8 hR8 ⟨hr, rfl, rfl⟩ _
      rw [if_pos ⟨by omega, by show (x : Int) < 19; omega⟩, Int.toNat_natCast] at hr
      rw [r55 av8 q2.2.1]
      refine fun _ => OkN.mono (s_X3_lengthOf K41 (x := (x : Int)) (by omega)) ?_
      rintro r' iv9 av9 hR9 ⟨hr', rfl, rfl⟩ _
      rw [if_pos ⟨by omega, by show (x : Int) < 19; omega⟩, Int.toNat_natCast, z1] at hr'
      refine OkN.mono (s_X0_bitsK (z x).toNat (by omega) q2.2.2.2 (v := r) (by omega) (by omega)) ?_
      rintro r2 iv10 av10 hR10 ⟨g1, g2, g3, g4⟩
      have u4 : WrC iv9 av9 iv10 av10 beg (wC z 19 x Bt) := ⟨g1, g2, g3, g4.congr (wC_BE fun hp => hr.trans (z3 hp)) (wr_bit q2.2.2.2.1)⟩
      have w4 := q2.tr u4
      rw [r56 av10 w4.2.1, r55 av10 w4.2.1]
      refine fun _ _ => OkN.mono (s_X11_sizeBits (by omega)) ?_
      rintro r3 iv11 av11 hR11 ⟨rfl, rfl, rfl⟩ _
      rw [Int.toNat_natCast]
      refine OkN.mono (s_X0_bitsK (sbits x) rfl w4.2.2.2 (by omega) (by show beg + (Bt.1 + (z x).toNat + sbits x) / 8 ≤ 131072; omega)) ?_
      rintro r4 iv12 av12 hR12 u5
      rw [show (t : Int) + 1 = ((t + 1 : Nat) : Int) by omega]
      exact ih (t + 1) iv12 av12 (by omega) (by rw [e3]; exact w4.tr u5)
  have lp : ∀ (m t : Nat) (iv7 av7 : IVt), t + m = tsz z → WrC iv2 av2 iv7 av7 beg (wZ z t B) → L_X8_tellHeader_48 Y X (fun r iv' av' => WrC iv2 av2 iv' av' beg (wHdr h d z q b)) ((tsz z : Nat) : Int) t iv7 av7 := by
    intro m
    induction m with
    | zero =>
      intro t iv7 av7 q1 q2
      have et : t = tsz z := by omega
      refine w_X8_tellHeader_48 C (by omega) (by omega) ⟨fun _ => ?_, fun g => absurd g (by omega)⟩
      rw [et] at q2
      exact lp2 q.1 0 iv7 av7 (by omega) q2
    | succ m ih =>
      intro t iv7 av7 q1 q2
      have ho := ordN_lt t (by omega)
      have hw2 := wZ_1 z B t
      refine w_X8_tellHeader_48 C (by omega) (by omega) ⟨fun g => absurd g (by omega), fun _ => OkN.mono (s_X11_ordered (k := t) (by omega)) ?_⟩
      rintro r iv8 av8 hR8 ⟨rfl, rfl, rfl⟩ _
      refine OkN.mono (s_X3_lengthOf K41 (x := ((ordN t : Nat) : Int)) (by omega)) ?_
      rintro r' iv9 av9 hR9 ⟨hr', rfl, rfl⟩ _
      rw [if_pos ⟨by omega, by show ((ordN t : Nat) : Int) < 19; omega⟩, Int.toNat_natCast] at hr'
      have hr2 : r' = z (ordN t) := by
        rw [hr', q2.2.1 (41 + 2) (by decide)]
        exact hzs _ ho
      rw [hr2]
      refine OkN.mono (s_X0_bitsK 3 rfl q2.2.2.2 (by omega) (by omega)) ?_
      rintro r2 iv10 av10 hR10 u4
      rw [show (t : Int) + 1 = ((t + 1 : Nat) : Int) by omega]
      exact ih (t + 1) iv10 av10 (by omega) (q2.tr u4)
  exact lp (tsz z) 0 iv6 av6 (by omega) w3
end SHeader
