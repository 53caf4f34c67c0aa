/-! Writing a part's tokens. -/
/-- a symbol's code -/
def wC (f : Nat → Int) (N s : Nat) (b : Bw) : Bw := wr (trn (cd f N s) (f s).toNat) (f s).toNat b
theorem wC_BE {f : Nat → Int} {N s : Nat} {b : Bw} {v : Int} (hv : 0 < f s → v = trn (cd f N s) (f s).toNat) : BE (wr v (f s).toNat b) (wC f N s b) := by
  unfold wC
  by_cases h : 0 < f s
  · rw [hv h]
    exact BE.rf _
  · rw [show (f s).toNat = 0 by omega]
    have a := wr_0 v b
    have c := wr_0 (trn (cd f N s) 0) b
    exact a.tr ⟨c.1.symm, fun i hi => (c.2 i (by rw [c.1]; exact hi)).symm⟩
/-- a token's bits -/
def wTok (fs fd : Nat → Int) (Ns Nd : Nat) (g : Nat × (Nat → Int) × (Nat → Int)) (t : Nat) (b : Bw) : Bw :=
  if g.2.1 t = 0 then wC fs Ns (g.2.2 t).toNat b
  else wr (g.2.2 t - (dbase (dsy (g.2.2 t).toNat) : Nat)) (dbits (dsy (g.2.2 t).toNat)) (wC fd Nd (dsy (g.2.2 t).toNat) (wr (g.2.1 t - (lbase (lsy (g.2.1 t).toNat) : Nat)) (lbits (lsy (g.2.1 t).toNat)) (wC fs Ns (lsy (g.2.1 t).toNat) b)))
def wToks (fs fd : Nat → Int) (Ns Nd : Nat) (g : Nat × (Nat → Int) × (Nat → Int)) : Nat → Bw → Bw
  | 0, b => b
  | t + 1, b => wTok fs fd Ns Nd g t (wToks fs fd Ns Nd g t b)
/-- how many -/
def tkb (fs fd : Nat → Int) (g : Nat × (Nat → Int) × (Nat → Int)) (t : Nat) : Nat := if g.2.1 t = 0 then (fs (g.2.2 t).toNat).toNat else (fs (lsy (g.2.1 t).toNat)).toNat + lbits (lsy (g.2.1 t).toNat) + (fd (dsy (g.2.2 t).toNat)).toNat + dbits (dsy (g.2.2 t).toNat)
def tkbs (fs fd : Nat → Int) (g : Nat × (Nat → Int) × (Nat → Int)) : Nat → Nat
  | 0 => 0
  | t + 1 => tkbs fs fd g t + tkb fs fd g t
theorem wTok_1 (fs fd : Nat → Int) (Ns Nd : Nat) (g : Nat × (Nat → Int) × (Nat → Int)) (t : Nat) (b : Bw) : (wTok fs fd Ns Nd g t b).1 = b.1 + tkb fs fd g t := by
  unfold wTok tkb
  by_cases h : g.2.1 t = 0
  · rw [if_pos h, if_pos h]
    rfl
  · rw [if_neg h, if_neg h]
    show b.1 + _ + _ + _ + _ = _
    omega
theorem wToks_1 (fs fd : Nat → Int) (Ns Nd : Nat) (g : Nat × (Nat → Int) × (Nat → Int)) (b : Bw) : ∀ t, (wToks fs fd Ns Nd g t b).1 = b.1 + tkbs fs fd g t := by
  intro t
  induction t with
  | zero => rfl
  | succ t ih =>
    show (wTok fs fd Ns Nd g t (wToks fs fd Ns Nd g t b)).1 = b.1 + (tkbs fs fd g t + tkb fs fd g t)
    rw [wTok_1, ih]
    omega
theorem tkbs_mono (fs fd : Nat → Int) (g : Nat × (Nat → Int) × (Nat → Int)) : ∀ m t, tkbs fs fd g t ≤ tkbs fs fd g (t + m) := by
  intro m
  induction m with
  | zero => intro t; exact Nat.le_refl _
  | succ m ih =>
    intro t
    have := ih t
    show _ ≤ tkbs fs fd g (t + m) + _
    omega
/-- a code of the class -/
def CdC (av : IVt) (k : Nat) (f : Nat → Int) (N M : Nat) : Prop := CodeK RV 116 k ∧ M ≤ kl (k + 2) ∧ M ≤ kl (k + 3) ∧ (k + 2 ≠ 13 ∧ k + 3 ≠ 13) ∧ ∀ s, s < M → av (k + 2) s = f s ∧ (0 ≤ f s ∧ f s ≤ 15) ∧ (0 < f s → av (k + 3) s = trn (cd f N s) (f s).toNat)
theorem CdC.of {av av' : IVt} {k N M : Nat} {f : Nat → Int} (h : CdC av k f N M) (h13 : Off [13] av av') : CdC av' k f N M := by
  obtain ⟨h1, h2, h3, h4, h5⟩ := h
  refine ⟨h1, h2, h3, h4, fun s hs => ?_⟩
  rw [h13 (k + 2) (by simp; omega), h13 (k + 3) (by simp; omega)]
  exact h5 s hs
section SWtok
variable {Y : Gl} {X : Cx} {e : Nat} {iv av : IVt} {beg : Nat} {b : Bw}
theorem c_code {k N M s : Nat} {f : Nat → Int} (h : CdC av k f N M) (hs : s < M) (hM : M ≤ 1000) (hS : SK iv av beg b) (hroom : beg + (b.1 + (f s).toNat) / 8 ≤ 131072) {Q : IVt → IVt → Prop} (hQ : ∀ iv' av', WrC iv av iv' av' beg (wC f N s b) → Q iv' av') :
    OkN Y (e + 1) mX3_turnedOf [.ref (gl_b Y + k), .int (i32 (s : Int))] RV iv av 116 (fun r3 iv4 av5 => (InR r3) → OkN Y (e + 1) mX3_lengthOf [.ref (gl_b Y + k), .int (i32 (s : Int))] RV iv4 av5 116 (fun r7 iv8 av9 => (InR r7) → OkN Y (e + 1) mX0_bits [.ref (gl_b Y + 57), .int (i32 r3), .int (i32 r7)] RV iv8 av9 116 (fun _ iv12 av13 => Q iv12 av13))) := by
  obtain ⟨h1, h2, h3, h4, h5⟩ := h
  obtain ⟨q1, q2, q3⟩ := h5 s hs
  refine OkN.mono (s_X3_turnedOf h1 (x := (s : Int)) (by omega)) ?_
  rintro r iv1 av1 hR1 ⟨hr, rfl, rfl⟩ _
  rw [if_pos ⟨by omega, by omega⟩, Int.toNat_natCast] at hr
  refine OkN.mono (s_X3_lengthOf h1 (x := (s : Int)) (by omega)) ?_
  rintro r' iv2 av2 hR2 ⟨hr', rfl, rfl⟩ _
  rw [if_pos ⟨by omega, by omega⟩, Int.toNat_natCast, q1] at hr'
  refine OkN.mono (s_X0_bitsK (f s).toNat (by omega) hS (v := r) (by omega) hroom) ?_
  rintro _ iv3 av3 hR3 ⟨g1, g2, g3, g4⟩
  exact hQ iv3 av3 ⟨g1, g2, g3, g4.congr (wC_BE fun hp => hr.trans (q3 hp)) (wr_bit hS.1)⟩
/-- the class's tokens, whatever was counted -/
def TkW (iv av : IVt) (g : Nat × (Nat → Int) × (Nat → Int)) : Prop := iv 22 10 = g.1 ∧ ∀ t, t < g.1 → av 53 t = (if g.2.1 t = 0 then g.2.2 t else g.2.1 t) ∧ av 54 t = if g.2.1 t = 0 then 0 else g.2.2 t
theorem s_X8_tellItems {k1 k2 Ns Nd M1 M2 : Nat} {fs fd : Nat → Int} {g : Nat × (Nat → Int) × (Nat → Int)} (h1 : CdC av k1 fs Ns M1) (h2 : CdC av k2 fd Nd M2) (hM1 : 286 ≤ M1 ∧ M1 ≤ 1000) (hM2 : 30 ≤ M2 ∧ M2 ≤ 1000) (hT : TkW iv av g) (hok : TokOK g) (hg : g.1 ≤ 4096) (hS : SK iv av beg b) (hroom : beg + (b.1 + tkbs fs fd g g.1 + (fs 256).toNat) / 8 ≤ 131072) : OkN Y (e + 2) mX8_tellItems [.ref (gl_b Y + 22), .ref (gl_b Y + k1), .ref (gl_b Y + k2)] RV iv av 116
    (fun r iv' av' => WrC iv av iv' av' beg (wC fs Ns 256 (wToks fs fd Ns Nd g g.1 b))) := by
  refine o_X8_tellItems h1.1 h2.1 fun X C => ?_
  have lp : ∀ (m t : Nat) (iv1 av1 : IVt), m + t = g.1 → WrC iv av iv1 av1 beg (wToks fs fd Ns Nd g t b) → L_X8_tellItems_2 Y X (fun r iv' av' => WrC iv av iv' av' beg (wC fs Ns 256 (wToks fs fd Ns Nd g g.1 b))) k1 k2 t iv1 av1 := by
    intro m
    induction m with
    | zero =>
      intro t iv1 av1 q1 q2
      have et : t = g.1 := by omega
      subst et
      have h10 : iv1 22 10 = g.1 := by rw [q2.1 22 (by decide)]; exact hT.1
      have hw := wToks_1 fs fd Ns Nd g b g.1
      refine w_X8_tellItems_2 C h1.1 h2.1 (by omega) fun _ => ⟨fun _ => ?_, fun g => absurd g (by omega)⟩
      refine c_code (s := 256) (h1.of q2.2.1) (by omega) hM1.2 q2.2.2.2 (by rw [hw]; exact hroom) fun iv2 av2 u => ?_
      exact q2.tr u
    | succ m ih =>
      intro t iv1 av1 q1 q2
      have h10 : iv1 22 10 = g.1 := by rw [q2.1 22 (by decide)]; exact hT.1
      have hw := wToks_1 fs fd Ns Nd g b t
      have hm := tkbs_mono fs fd g m (t + 1)
      have hm1 : tkbs fs fd g (t + 1) = tkbs fs fd g t + tkb fs fd g t := rfl
      rw [show t + 1 + m = g.1 by omega] at hm
      obtain ⟨t1, t2⟩ := hT.2 t (by omega)
      have r53 : ∀ av2 : IVt, Off [13] av av2 → av2 53 t = if g.2.1 t = 0 then g.2.2 t else g.2.1 t := fun av2 h => (congrFun (h 53 (by decide)) t).trans t1
      have r54 : ∀ av2 : IVt, Off [13] av av2 → av2 54 t = if g.2.1 t = 0 then 0 else g.2.2 t := fun av2 h => (congrFun (h 54 (by decide)) t).trans t2
      have ow := hok t (by omega)
      refine w_X8_tellItems_2 C h1.1 h2.1 (by omega) fun _ => ⟨fun g => absurd g (by omega), fun _ => ⟨fun g => absurd g (by omega), fun _ => ⟨fun g => absurd g (by omega), fun _ => ⟨by omega, ?_⟩⟩⟩⟩
      rw [Int.toNat_natCast, r54 av1 q2.2.1, r53 av1 q2.2.1]
      by_cases hz : g.2.1 t = 0
      · simp only [if_pos hz]
        obtain ⟨c1, c2, c3⟩ := ow.resolve_right (fun h => by omega)
        refine fun _ => ⟨fun _ => fun _ => ?_, fun g => absurd (Int.le_refl 0) g⟩
        have e1 : tkb fs fd g t = (fs (g.2.2 t).toNat).toNat := by unfold tkb; rw [if_pos hz]
        have e2 : ∀ b, wTok fs fd Ns Nd g t b = wC fs Ns (g.2.2 t).toNat b := fun b => by unfold wTok; rw [if_pos hz]
        have e3 : wToks fs fd Ns Nd g (t + 1) b = wC fs Ns (g.2.2 t).toNat (wToks fs fd Ns Nd g t b) := e2 _
        obtain ⟨z, hzv⟩ := Int.eq_ofNat_of_zero_le c2
        rw [hzv, Int.toNat_natCast] at e1 e3
        rw [hzv]
        refine c_code (h1.of q2.2.1) (by omega) hM1.2 q2.2.2.2 (by omega) fun iv2 av2 u => ?_
        rw [show (t : Int) + 1 = ((t + 1 : Nat) : Int) by omega]
        exact ih (t + 1) iv2 av2 (by omega) (by rw [e3]; exact q2.tr u)
      · simp only [if_neg hz]
        obtain ⟨c1, c2, c3, c4⟩ := ow.resolve_left (fun h => hz h.1)
        have e1 : tkb fs fd g t = (fs (lsy (g.2.1 t).toNat)).toNat + lbits (lsy (g.2.1 t).toNat) + (fd (dsy (g.2.2 t).toNat)).toNat + dbits (dsy (g.2.2 t).toNat) := by unfold tkb; rw [if_neg hz]
        have e3 : wToks fs fd Ns Nd g (t + 1) b = wr (g.2.2 t - (dbase (dsy (g.2.2 t).toNat) : Nat)) (dbits (dsy (g.2.2 t).toNat)) (wC fd Nd (dsy (g.2.2 t).toNat) (wr (g.2.1 t - (lbase (lsy (g.2.1 t).toNat) : Nat)) (lbits (lsy (g.2.1 t).toNat)) (wC fs Ns (lsy (g.2.1 t).toNat) (wToks fs fd Ns Nd g t b)))) := by
          show wTok fs fd Ns Nd g t _ = _
          unfold wTok
          rw [if_neg hz]
        obtain ⟨L, hL⟩ := Int.eq_ofNat_of_zero_le (show 0 ≤ g.2.1 t by omega)
        obtain ⟨V, hV⟩ := Int.eq_ofNat_of_zero_le (show 0 ≤ g.2.2 t by omega)
        rw [hL, hV, Int.toNat_natCast, Int.toNat_natCast] at e1 e3
        have hz' : ¬ ((L : Nat) : Int) = 0 := by omega
        simp only [if_neg hz, hL, hV, if_neg hz'] at r53 r54 ⊢
        rw [hL] at c1 c2
        rw [hV] at c3 c4
        have i1 := lsy_in L
        have i2 := dsy_in V
        have l5 := lbits_le (lsy L)
        have d13 : dbits (dsy V) ≤ 14 := by unfold dbits; split <;> omega
        generalize hBt : wToks fs fd Ns Nd g t b = Bt at *
        have Ls : Int := lbase (lsy L)
        have hlb : lbase (lsy L) ≤ 258 := (show ∀ s, s < 286 → lbase s ≤ 258 by decide +kernel) _ (by omega)
        have hdb : dbase (dsy V) ≤ 24577 := (show ∀ s, s < 30 → dbase s ≤ 24577 by decide +kernel) _ (by omega)
        refine fun _ => ⟨fun g => absurd g (by omega), fun _ => fun _ => OkN.mono (s_X11_lengthSymbol (n := L) (by omega) (by omega)) ?_⟩
        rintro r iv2 av2 hR2 ⟨rfl, rfl, rfl⟩ _
        refine c_code (h1.of q2.2.1) (by omega) hM1.2 q2.2.2.2 (by omega) fun iv3 av3 u1 => ?_
        have w1 := q2.tr u1
        rw [r54 av3 w1.2.1]
        refine fun _ => OkN.mono (s_X11_distanceSymbol (n := V) (by omega) (by omega)) ?_
        rintro r iv4 av4 hR4 ⟨rfl, rfl, rfl⟩ _
        rw [r53 av4 w1.2.1]
        refine fun _ => OkN.mono (s_X11_lengthBase (s := lsy L) (by omega) (by omega)) ?_
        rintro r iv5 av5 hR5 ⟨rfl, rfl, rfl⟩ _
        refine OkN.mono (s_X11_lengthBits (s := lsy L) (by omega)) ?_
        rintro r iv6 av6 hR6 ⟨rfl, rfl, rfl⟩ _
        refine ⟨by omega, OkN.mono (s_X0_bitsK (lbits (lsy L)) rfl w1.2.2.2 (by omega) (by show beg + (Bt.1 + (fs (lsy L)).toNat + lbits (lsy L)) / 8 ≤ 131072; omega)) ?_⟩
        rintro r iv7 av7 hR7 u2
        have w2 := w1.tr u2
        refine c_code (h2.of w2.2.1) (s := dsy V) (by omega) hM2.2 w2.2.2.2 (by show beg + (Bt.1 + (fs (lsy L)).toNat + lbits (lsy L) + (fd (dsy V)).toNat) / 8 ≤ 131072; omega) fun iv8 av8 u3 => ?_
        have w3 := w2.tr u3
        rw [r54 av8 w3.2.1]
        refine fun _ => OkN.mono (s_X11_distanceBase (d := dsy V) (by omega)) ?_
        rintro r iv9 av9 hR9 ⟨rfl, rfl, rfl⟩ _
        refine OkN.mono (s_X11_distanceBits (d := dsy V) (by omega)) ?_
        rintro r iv10 av10 hR10 ⟨rfl, rfl, rfl⟩ _
        refine ⟨by omega, OkN.mono (s_X0_bitsK (dbits (dsy V)) rfl w3.2.2.2 (by omega) (by show beg + (Bt.1 + (fs (lsy L)).toNat + lbits (lsy L) + (fd (dsy V)).toNat + dbits (dsy V)) / 8 ≤ 131072; omega)) ?_⟩
        rintro r iv11 av11 hR11 u4
        rw [show (t : Int) + 1 = ((t + 1 : Nat) : Int) by omega]
        exact ih (t + 1) iv11 av11 (by omega) (by rw [e3]; exact w3.tr u4)
  exact lp g.1 0 iv av (by omega) ⟨Off.rf _ _, Off.rf _ _, fun _ _ => rfl, hS⟩
end SWtok
