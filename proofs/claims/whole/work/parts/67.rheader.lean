/-! The reference writes a made part's header. -/
section SRHeader
variable {Y : Gl} {X : Cx} {e : Nat} {iv av : IVt} {b : Bw} {a : Nat}
theorem l_X13_packPart_501 (C : CX Y X RX13 "packPart" cX13_packPart 14 none (e + 18) 0 0) (Ka : ArrK 101 a) (K99 : ArrK 100 99) {z : Nat → Int} {q : Nat × (Nat → Int) × (Nat → Int)} (hz : ∀ s, s < 19 → av 99 (320 + s) = z s ∧ (0 ≤ z s ∧ z s ≤ 15) ∧ (0 < z s → av 108 (320 + s) = cd z 19 s)) (hT : TdR iv av q) (hok : TdOK q) (hq : q.1 ≤ 320) (hroom : b.1 + hdb z q q.1 ≤ 528000) {P : PN} (hP : ∀ iv' av', WrR iv av iv' av' (wTd z q q.1 b) → OkN Y (e + 17) mX13_writeTokens [.ref (gl_b Y + 73), .ref (gl_b Y + 99)] RV iv' av' 116 (fun r3 iv4 av5 => P 0 iv4 av5)) :
    ∀ (m t : Nat) (iv7 av7 : IVt), t + m = q.1 → WrR iv av iv7 av7 (wTd z q t b) → L_X13_packPart_501 Y X P a t iv7 av7 := by
  intro m
  induction m with
  | zero =>
    intro t iv7 av7 q1 q2
    have et : t = q.1 := by omega
    subst et
    have h45 : iv7 73 45 = q.1 := by rw [q2.1.2 45 (by decide)]; exact hT.1
    exact w_X13_packPart_501 C Ka (by omega) fun _ => ⟨fun _ => hP iv7 av7 q2, fun g => absurd g (by omega)⟩
  | succ m ih =>
    intro t iv7 av7 q1 q2
    have h45 : iv7 73 45 = q.1 := by rw [q2.1.2 45 (by decide)]; exact hT.1
    obtain ⟨t1, t2⟩ := hT.2.1 t (by omega)
    have r106 : ∀ av8 : IVt, Off [93] av av8 → av8 106 t = q.2.1 t := fun av8 h => (congrFun (h 106 (by decide)) t).trans t1
    have r107 : ∀ av8 : IVt, Off [93] av av8 → av8 107 t = q.2.2 t := fun av8 h => (congrFun (h 107 (by decide)) t).trans t2
    obtain ⟨c1, c2, c3, c4⟩ := hok t (by omega)
    have hm := hdb_mono z q m (t + 1)
    have hm1 : hdb z q (t + 1) = hdb z q t + ((z (q.2.1 t).toNat).toNat + sbits (q.2.1 t).toNat) := rfl
    rw [show t + 1 + m = q.1 by omega] at hm
    have e3 : wTd z q (t + 1) b = wr (q.2.2 t) (sbits (q.2.1 t).toNat) (wC z 19 (q.2.1 t).toNat (wTd z q t b)) := rfl
    have hw := wTd_1 z q b t
    have hsb := sbits_le (q.2.1 t).toNat
    have hyv : q.2.2 t < 128 := by
      have : (2 : Int) ^ sbits (q.2.1 t).toNat ≤ 128 := (show ∀ l, l < 8 → (2 : Int) ^ l ≤ 128 by decide) _ (by omega)
      omega
    refine w_X13_packPart_501 C Ka (by omega) fun _ => ⟨fun g => absurd g (by omega), fun _ => ⟨by omega, ?_⟩⟩
    rw [Int.toNat_natCast, r106 av7 q2.2.1]
    obtain ⟨x, hx⟩ := Int.eq_ofNat_of_zero_le c1
    rw [hx] at e3 hm1 hsb r106 c2 ⊢
    rw [Int.toNat_natCast] at e3 hm1 hsb
    generalize hBt : wTd z q t b = Bt at *
    obtain ⟨z1, z2, z3⟩ := hz x (by omega)
    rw [show 320 + (x : Int) = ((320 + x : Nat) : Int) by omega]
    refine fun _ => ⟨by omega, OkN.mono (s_X13_writeCode K99 rfl (by decide) q2.2.2 (s := 320 + x) (by omega) (l := (z x).toNat) (by rw [q2.2.1 99 (by decide), z1]; omega) (by omega) (c := cd z 19 x) (fun g => by rw [q2.2.1 108 (by decide)]; exact z3 (by omega)) (by omega)) ?_⟩
    rintro r iv8 av8 hR8 u4
    have w4 : WrR iv av iv8 av8 (wC z 19 x Bt) := q2.tr u4
    rw [r107 av8 w4.2.1, r106 av8 w4.2.1]
    refine fun _ _ => OkN.mono (s_X13_stepBits (s := x) (by omega)) ?_
    rintro r3 iv11 av11 hR11 ⟨rfl, rfl, rfl⟩ _
    refine OkN.mono (s_X13_writeNumber (sbits x) rfl w4.2.2 (by omega) (by omega) (by show Bt.1 + (z x).toNat + sbits x ≤ 528000; omega)) ?_
    rintro r4 iv12 av12 hR12 u5
    rw [show (t : Int) + 1 = ((t + 1 : Nat) : Int) by omega]
    exact ih (t + 1) iv12 av12 (by omega) (by rw [e3]; exact w4.tr u5)
theorem l_X13_packPart_453 (C : CX Y X RX13 "packPart" cX13_packPart 14 none (e + 18) 0 0) (Ka : ArrK 101 a) (K99 : ArrK 100 99) {z : Nat → Int} {q : Nat × (Nat → Int) × (Nat → Int)} (hz : ∀ s, s < 19 → av 99 (320 + s) = z s ∧ (0 ≤ z s ∧ z s ≤ 15)) (hT : TdR iv av q) (hok : TdOK q) (hq : q.1 ≤ 320) (hroom : b.1 + 3 * tsz z + hdb z q q.1 ≤ 528000) {P : PN} (hP : ∀ iv' av', OffM [] [31] iv iv' → Off [93, 108] av av' → PK iv' av' (wTd z q q.1 (wZ z (tsz z) b)) → OkN Y (e + 17) mX13_writeTokens [.ref (gl_b Y + 73), .ref (gl_b Y + 99)] RV iv' av' 116 (fun r3 iv4 av5 => P 0 iv4 av5)) :
    ∀ (m t : Nat) (iv7 av7 : IVt), t + m = tsz z → WrR iv av iv7 av7 (wZ z t b) → L_X13_packPart_453 Y X P a ((tsz z : Nat) : Int) t iv7 av7 := by
  have hz4 := tsz_in z
  intro m
  induction m with
  | zero =>
    intro t iv7 av7 q1 q2
    have et : t = tsz z := by omega
    subst et
    have hw2 := wZ_1 z b (tsz z)
    have hlen : Len av7 99 320 19 z := ⟨by decide, by omega, fun s hs => ⟨by rw [q2.2.1 99 (by decide)]; exact (hz s hs).1, (hz s hs).2⟩⟩
    have h1 := s_X13_makeCodes (Y := Y) (e := e + 16) (iv := iv7) (av := av7) (a := 320) (n := 19) K99 (by decide) hlen (by decide)
    refine w_X13_packPart_453 C Ka (by omega) (by omega) ⟨fun _ => OkN.mono h1 ?_, fun g => absurd g (by omega)⟩
    rintro r iv8 av8 hR8 ⟨rfl, g2, g3, g4⟩
    refine l_X13_packPart_501 (iv := iv8) (av := av8) (b := wZ z (tsz z) b) C Ka K99 (z := z) (q := q) (fun s hs => ⟨?_, (hz s hs).2, fun hp => ?_⟩) ⟨?_, fun i hi => ?_, fun s hs => ?_⟩ hok hq (by omega) (fun iv' av' u => hP iv' av' (q2.1.tr u.1) ((q2.2.1.mono (by decide)).tr ((g2.mono (by decide)).tr (u.2.1.mono (by decide)))) u.2.2) q.1 0 iv8 av8 (by omega) ⟨OffM.rf _ _ _, Off.rf _ _, q2.2.2.of rfl (g2 93 (by decide))⟩
    · rw [g2 99 (by decide), q2.2.1 99 (by decide)]
      exact (hz s hs).1
    · rw [g3 s hs, if_pos hp]
    · rw [q2.1.2 45 (by decide)]
      exact hT.1
    · rw [g2 106 (by decide), g2 107 (by decide), q2.2.1 106 (by decide), q2.2.1 107 (by decide)]
      exact hT.2.1 i hi
    · rw [g2 98 (by decide), q2.2.1 98 (by decide)]
      exact hT.2.2 s hs
  | succ m ih =>
    intro t iv7 av7 q1 q2
    have ho := ordN_lt t (by omega)
    have hw2 := wZ_1 z b t
    refine w_X13_packPart_453 C Ka (by omega) (by omega) ⟨fun g => absurd g (by omega), fun _ => OkN.mono (s_X13_smallOrder (k := t) (by omega)) ?_⟩
    rintro r iv8 av8 hR8 ⟨rfl, rfl, rfl⟩ _
    rw [show 320 + ((ordN t : Nat) : Int) = ((320 + ordN t : Nat) : Int) by omega, Int.toNat_natCast, q2.2.1 99 (by decide), (hz _ ho).1]
    refine ⟨by omega, fun _ => OkN.mono (s_X13_writeNumber 3 rfl q2.2.2 (by have := (hz _ ho).2; omega) (by omega) (by omega)) ?_⟩
    rintro r2 iv10 av10 hR10 u4
    rw [show (t : Int) + 1 = ((t + 1 : Nat) : Int) by omega]
    exact ih (t + 1) iv10 av10 (by omega) (q2.tr u4)
end SRHeader
