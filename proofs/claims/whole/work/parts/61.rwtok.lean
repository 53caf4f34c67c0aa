/-! The reference writes a part's tokens. -/
section SRWtok
variable {Y : Gl} {X : Cx} {e : Nat} {iv av : IVt} {b : Bw} {a1 : Nat}
/-- both codes of the reference -/
def CdR (av : IVt) (a1 : Nat) (fs fd : Nat → Int) : Prop := (∀ s, s < 288 → av a1 s = fs s ∧ (0 ≤ fs s ∧ fs s ≤ 15) ∧ (0 < fs s → av 108 s = cd fs 288 s)) ∧ ∀ d, d < 32 → av a1 (288 + d) = fd d ∧ (0 ≤ fd d ∧ fd d ≤ 15) ∧ (0 < fd d → av 108 (288 + d) = cd fd 32 d)
theorem CdR.of {av' : IVt} {fs fd : Nat → Int} (h : CdR av a1 fs fd) (h93 : a1 ≠ 93) (ho : Off [93] av av') : CdR av' a1 fs fd := by
  unfold CdR at *
  rw [ho a1 (by simp [h93]), ho 108 (by decide)]
  exact h
theorem r_codeS (Ka : ArrK 100 a1) (hka : kl a1 = 339) (h93 : a1 ≠ 93) {fs fd : Nat → Int} (h : CdR av a1 fs fd) (hP : PK iv av b) {s : Nat} (hs : s < 288) (hroom : b.1 + (fs s).toNat ≤ 528000) : OkN Y (e + 1) mX13_writeCode [.ref (gl_b Y + 73), .ref (gl_b Y + a1), .int (i32 (s : Int))] RV iv av 116 (fun r iv' av' => WrR iv av iv' av' (wC fs 288 s b)) := by
  obtain ⟨q1, q2, q3⟩ := h.1 s hs
  exact s_X13_writeCode Ka hka h93 hP (s := s) (by omega) (l := (fs s).toNat) (by omega) (by omega) (c := cd fs 288 s) (fun g => q3 (by omega)) hroom
theorem r_codeD (Ka : ArrK 100 a1) (hka : kl a1 = 339) (h93 : a1 ≠ 93) {fs fd : Nat → Int} (h : CdR av a1 fs fd) (hP : PK iv av b) {d : Nat} (hd : d < 32) (hroom : b.1 + (fd d).toNat ≤ 528000) : OkN Y (e + 1) mX13_writeCode [.ref (gl_b Y + 73), .ref (gl_b Y + a1), .int (i32 (288 + (d : Int)))] RV iv av 116 (fun r iv' av' => WrR iv av iv' av' (wC fd 32 d b)) := by
  obtain ⟨q1, q2, q3⟩ := h.2 d hd
  rw [show 288 + (d : Int) = ((288 + d : Nat) : Int) by omega]
  exact s_X13_writeCode Ka hka h93 hP (s := 288 + d) (by omega) (l := (fd d).toNat) (by omega) (by omega) (c := cd fd 32 d) (fun g => q3 (by omega)) hroom
theorem l_X13_writeTokens (C : CX Y X RX13 "writeTokens" cX13_writeTokens 5 none (e + 3) 0 0) (Ka : ArrK 100 a1) (hka : kl a1 = 339) (h93 : a1 ≠ 93) {fs fd : Nat → Int} (h : CdR av a1 fs fd) {g : Nat × (Nat → Int) × (Nat → Int)} (hT : TkR iv av g) (hok : TokOK g) (hg : g.1 ≤ 4096) (hroom : b.1 + tkbs fs fd g g.1 + (fs 256).toNat ≤ 528000) {P : PN} (hP : ∀ iv' av', WrR iv av iv' av' (wC fs 288 256 (wToks fs fd 288 32 g g.1 b)) → P 0 iv' av') :
    ∀ (m t : Nat) (iv1 av1 : IVt), m + t = g.1 → WrR iv av iv1 av1 (wToks fs fd 288 32 g t b) → L_X13_writeTokens_21 Y X P a1 t iv1 av1 := by
  intro m
  induction m with
  | zero =>
    intro t iv1 av1 q1 q2
    have et : t = g.1 := by omega
    subst et
    have h34 : iv1 73 34 = g.1 := by rw [q2.1.2 34 (by decide)]; exact hT.1
    have hw := wToks_1 fs fd 288 32 g b g.1
    refine w_X13_writeTokens_21 C Ka (by omega) fun _ => ⟨fun _ => OkN.mono (r_codeS Ka hka h93 (h.of h93 q2.2.1) q2.2.2 (s := 256) (by omega) (by omega)) ?_, fun g => absurd g (by omega)⟩
    rintro r iv2 av2 hR2 u
    exact hP iv2 av2 (q2.tr u)
  | succ m ih =>
    intro t iv1 av1 q1 q2
    have h34 : iv1 73 34 = g.1 := by rw [q2.1.2 34 (by decide)]; exact hT.1
    have hw := wToks_1 fs fd 288 32 g b t
    have hm := tkbs_mono fs fd g m (t + 1)
    have hm1 : tkbs fs fd g (t + 1) = tkbs fs fd g t + tkb fs fd g t := rfl
    rw [show t + 1 + m = g.1 by omega] at hm
    obtain ⟨t1, t2⟩ := hT.2 t (by omega)
    have r96 : ∀ av2 : IVt, Off [93] av av2 → av2 96 t = g.2.1 t := fun av2 h => (congrFun (h 96 (by decide)) t).trans t1
    have r97 : ∀ av2 : IVt, Off [93] av av2 → av2 97 t = g.2.2 t := fun av2 h => (congrFun (h 97 (by decide)) t).trans t2
    have ow := hok t (by omega)
    refine w_X13_writeTokens_21 C Ka (by omega) fun _ => ⟨fun g => absurd g (by omega), fun _ => ⟨by omega, ?_⟩⟩
    rw [Int.toNat_natCast, r96 av1 q2.2.1, r97 av1 q2.2.1]
    by_cases hz : g.2.1 t = 0
    · obtain ⟨c1, c2, c3⟩ := ow.resolve_right (fun h => by omega)
      refine fun _ => ⟨fun g => absurd hz g, fun _ => fun _ => ?_⟩
      have e1 : tkb fs fd g t = (fs (g.2.2 t).toNat).toNat := by unfold tkb; rw [if_pos hz]
      have e3 : wToks fs fd 288 32 g (t + 1) b = wC fs 288 (g.2.2 t).toNat (wToks fs fd 288 32 g t b) := by
        show wTok fs fd 288 32 g t _ = _
        unfold wTok
        rw [if_pos hz]
      obtain ⟨z, hzv⟩ := Int.eq_ofNat_of_zero_le c2
      rw [hzv, Int.toNat_natCast] at e1 e3
      rw [hzv]
      refine OkN.mono (r_codeS Ka hka h93 (h.of h93 q2.2.1) q2.2.2 (s := z) (by omega) (by omega)) ?_
      rintro r iv2 av2 hR2 u
      have w1 := q2.tr u
      rw [r96 av2 w1.2.1, show (t : Int) + 1 = ((t + 1 : Nat) : Int) by omega]
      refine fun _ => ⟨fun _ => ih (t + 1) iv2 av2 (by omega) (by rw [e3]; exact w1), fun g' => absurd (show g.2.1 t ≤ 0 by omega) g'⟩
    · obtain ⟨c1, c2, c3, c4⟩ := ow.resolve_left (fun h => hz h.1)
      have e1 : tkb fs fd g t = (fs (lsy (g.2.1 t).toNat)).toNat + lbits (lsy (g.2.1 t).toNat) + (fd (dsy (g.2.2 t).toNat)).toNat + dbits (dsy (g.2.2 t).toNat) := by unfold tkb; rw [if_neg hz]
      have e3 : wToks fs fd 288 32 g (t + 1) b = wr (g.2.2 t - (dbase (dsy (g.2.2 t).toNat) : Nat)) (dbits (dsy (g.2.2 t).toNat)) (wC fd 32 (dsy (g.2.2 t).toNat) (wr (g.2.1 t - (lbase (lsy (g.2.1 t).toNat) : Nat)) (lbits (lsy (g.2.1 t).toNat)) (wC fs 288 (lsy (g.2.1 t).toNat) (wToks fs fd 288 32 g t b)))) := by
        show wTok fs fd 288 32 g t _ = _
        unfold wTok
        rw [if_neg hz]
      obtain ⟨L, hL⟩ := Int.eq_ofNat_of_zero_le (show 0 ≤ g.2.1 t by omega)
      obtain ⟨V, hV⟩ := Int.eq_ofNat_of_zero_le (show 0 ≤ g.2.2 t by omega)
      rw [hL, hV, Int.toNat_natCast, Int.toNat_natCast] at e1 e3
      have hz' : ¬ ((L : Nat) : Int) = 0 := by omega
      rw [hL] at r96 c1 c2 ⊢
      rw [hV] at r97 c3 c4 ⊢
      have i1 := lsy_in L
      have i2 := dsy_in V
      have l5 := lbits_le (lsy L)
      have d13 : dbits (dsy V) ≤ 14 := by unfold dbits; split <;> omega
      generalize hBt : wToks fs fd 288 32 g t b = Bt at *
      have hlb : lbase (lsy L) ≤ 258 := (show ∀ s, s < 286 → lbase s ≤ 258 by decide +kernel) _ (by omega)
      have hdb : dbase (dsy V) ≤ 24577 := (show ∀ s, s < 30 → dbase s ≤ 24577 by decide +kernel) _ (by omega)
      refine fun _ => ⟨fun _ => OkN.mono (s_X13_lengthSymbol (n := L) (by omega)) ?_, fun g => absurd g hz'⟩
      rintro r iv2 av2 hR2 ⟨rfl, rfl, rfl⟩ _
      refine OkN.mono (r_codeS Ka hka h93 (h.of h93 q2.2.1) q2.2.2 (s := lsy L) (by omega) (by omega)) ?_
      rintro r iv3 av3 hR3 u1
      have w1 := q2.tr u1
      rw [r96 av3 w1.2.1, r97 av3 w1.2.1]
      refine fun _ => ⟨fun g => absurd g (by omega), fun _ => fun _ => OkN.mono (s_X13_distanceSymbol (n := V) (by omega)) ?_⟩
      rintro r iv4 av4 hR4 ⟨rfl, rfl, rfl⟩ _
      rw [r96 av4 w1.2.1]
      refine fun _ => OkN.mono (s_X13_lengthBase (s := lsy L) (by omega) (by omega)) ?_
      rintro r iv5 av5 hR5 ⟨rfl, rfl, rfl⟩ _
      refine OkN.mono (s_X13_lengthBits (s := lsy L) (by omega)) ?_
      rintro r iv6 av6 hR6 ⟨rfl, rfl, rfl⟩ _
      refine ⟨by omega, OkN.mono (s_X13_writeNumber (lbits (lsy L)) rfl w1.2.2 (by omega) (by omega) (by show Bt.1 + (fs (lsy L)).toNat + lbits (lsy L) ≤ 528000; omega)) ?_⟩
      rintro r iv7 av7 hR7 u2
      have w2 := w1.tr u2
      refine ⟨by omega, OkN.mono (r_codeD Ka hka h93 (h.of h93 w2.2.1) w2.2.2 (d := dsy V) (by omega) (by show Bt.1 + (fs (lsy L)).toNat + lbits (lsy L) + (fd (dsy V)).toNat ≤ 528000; omega)) ?_⟩
      rintro r iv8 av8 hR8 u3
      have w3 := w2.tr u3
      rw [r97 av8 w3.2.1]
      refine fun _ => OkN.mono (s_X13_distanceBase (d := dsy V) (by omega)) ?_
      rintro r iv9 av9 hR9 ⟨rfl, rfl, rfl⟩ _
      refine OkN.mono (s_X13_distanceBits (d := dsy V) (by omega)) ?_
      rintro r iv10 av10 hR10 ⟨rfl, rfl, rfl⟩ _
      refine ⟨by omega, OkN.mono (s_X13_writeNumber (dbits (dsy V)) rfl w3.2.2 (by omega) (by omega) (by show Bt.1 + (fs (lsy L)).toNat + lbits (lsy L) + (fd (dsy V)).toNat + dbits (dsy V) ≤ 528000; omega)) ?_⟩
      rintro r iv11 av11 hR11 u4
      rw [show (t : Int) + 1 = ((t + 1 : Nat) : Int) by omega]
      exact ih (t + 1) iv11 av11 (by omega) (by rw [e3]; exact w3.tr u4)
theorem s_X13_writeTokens (Ka : ArrK 100 a1) (hka : kl a1 = 339) (h93 : a1 ≠ 93) (h108 : a1 ≠ 108) {fs fd : Nat → Int} (hs : Len av a1 0 288 fs) (hd : Len av a1 288 32 fd) (hs15 : ∀ s, s < 288 → 0 ≤ fs s ∧ fs s ≤ 15) (hd15 : ∀ s, s < 32 → 0 ≤ fd s ∧ fd s ≤ 15) {g : Nat × (Nat → Int) × (Nat → Int)} (hT : TkR iv av g) (hok : TokOK g) (hg : g.1 ≤ 4096) (hP : PK iv av b) (hroom : b.1 + tkbs fs fd g g.1 + (fs 256).toNat ≤ 528000) : OkN Y (e + 3) mX13_writeTokens [.ref (gl_b Y + 73), .ref (gl_b Y + a1)] RV iv av 116
    (fun r iv' av' => OffM [] [31] iv iv' ∧ Off [93, 108] av av' ∧ PK iv' av' (wC fs 288 256 (wToks fs fd 288 32 g g.1 b))) := by
  have h1 := s_X13_makeCodes (Y := Y) (e := e + 1) (iv := iv) (av := av) (a := 0) (n := 288) Ka h108 hs (by decide)
  refine o_X13_writeTokens Ka fun X C => OkN.mono h1 ?_
  rintro r iv1 av1 hR1 ⟨rfl, g2, g3, g4⟩
  have h2 := s_X13_makeCodes (Y := Y) (e := e + 1) (iv := iv1) (av := av1) (a := 288) (n := 32) Ka h108 (hd.of (g2 a1 (by simp [h108]))) (by decide)
  refine OkN.mono h2 ?_
  rintro r iv2 av2 hR2 ⟨rfl, k2, k3, k4⟩
  have hof : Off [108] av av2 := g2.tr k2
  have ha1 : av2 a1 = av a1 := hof a1 (by simp [h108])
  refine l_X13_writeTokens (iv := iv2) (av := av2) (b := b) C Ka hka h93 (fs := fs) (fd := fd) ⟨fun s h => ⟨?_, hs15 s h, fun hp => ?_⟩, fun d h => ⟨?_, hd15 d h, fun hp => ?_⟩⟩ (g := g) ⟨hT.1, fun t ht => ?_⟩ hok hg hroom (fun iv' av' q => ⟨q.1, (hof.mono (by decide)).tr (q.2.1.mono (by decide)), q.2.2⟩) g.1 0 iv2 av2 (by omega) ⟨OffM.rf _ _ _, Off.rf _ _, hP.of rfl (hof 93 (by decide))⟩
  · rw [ha1]
    have := (hs.2.2 s h).1
    rw [Nat.zero_add] at this
    exact this
  · rw [k4 s (by omega)]
    have := g3 s h
    rw [Nat.zero_add, if_pos hp] at this
    exact this
  · rw [ha1]
    exact (hd.2.2 d h).1
  · rw [k3 d h, if_pos hp]
  · rw [hof 96 (by decide), hof 97 (by decide)]
    exact hT.2 t ht
end SRWtok
