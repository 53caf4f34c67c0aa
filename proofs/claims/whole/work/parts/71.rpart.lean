/-! The reference packs a part. -/
theorem TkR.cg {iv av iv' av' : IVt} {g : Nat × (Nat → Int) × (Nat → Int)} (h : TkR iv av g) (e1 : iv' 73 34 = iv 73 34) (e2 : av' 96 = av 96) (e3 : av' 97 = av 97) : TkR iv' av' g := ⟨e1.trans h.1, fun t ht => by rw [e2, e3]; exact h.2 t ht⟩
theorem TdR.cg {iv av iv' av' : IVt} {q : Nat × (Nat → Int) × (Nat → Int)} (h : TdR iv av q) (e1 : iv' 73 45 = iv 73 45) (e2 : av' 106 = av 106) (e3 : av' 107 = av 107) (e4 : av' 98 = av 98) : TdR iv' av' q := ⟨e1.trans h.1, fun i hi => by rw [e2, e3]; exact h.2.1 i hi, fun s hs => by rw [e4]; exact h.2.2 s hs⟩
section SRPart
variable {Y : Gl} {X : Cx} {e : Nat} {iv av : IVt} {b : Bw} {a : Nat}
theorem l_X13_packPart_62 (C : CX Y X RX13 "packPart" cX13_packPart 14 none (e + 18) 0 0) (Ka : ArrK 101 a) {ls ld : Nat → Int} (h1 : ∀ s, s < 288 → av 99 s = ls s) (h2 : ∀ s, s < 32 → av 99 (288 + s) = ld s) {H Dn : Nat} (hH : nd ls 257 286 = H) (hH2 : H ≤ 286) (hD2 : Dn ≤ 30) {x2 x3 x4 x5 : Int} {P : PN} (hP : ∀ av', Off [105] av av' → (∀ i, i < H + Dn → av' 105 i = lrow ls ld i) → OkN Y (e + 17) mX13_tellRow [.ref (gl_b Y + 73), .int (i32 ((H + Dn : Nat) : Int))] RV iv av' 116 (fun r3 iv4 av5 => OkN Y (e + 17) mX13_findLengths [.ref (gl_b Y + 73), .int (i32 320), .int (i32 19), .int (i32 7)] RV iv4 av5 116 (fun r7 iv8 av9 => L_X13_packPart_140 Y X P a x2 x3 x4 x5 H Dn 19 iv8 av9))) :
    ∀ (m t : Nat) (av1 : IVt), t + m = H + Dn → Off [105] av av1 → (∀ i, i < t → av1 105 i = lrow ls ld i) → L_X13_packPart_62 Y X P a x2 x3 x4 x5 H Dn t iv av1 := by
  intro m
  induction m with
  | zero =>
    intro t av1 q1 q2 q3
    have et : t = H + Dn := by omega
    subst et
    refine w_X13_packPart_62 C Ka (by omega) (by omega) ⟨by omega, fun _ => ?_, fun g => absurd g (by omega)⟩
    rw [show (H : Int) + (Dn : Int) = ((H + Dn : Nat) : Int) by omega]
    exact hP av1 q2 q3
  | succ m ih =>
    intro t av1 q1 q2 q3
    refine w_X13_packPart_62 C Ka (by omega) (by omega) ⟨by omega, fun g => absurd g (by omega), fun _ => ⟨fun g => ⟨by omega, ?_⟩, fun g => ⟨by omega, ?_⟩⟩⟩
    · rw [show (288 + (t : Int) - (H : Int)).toNat = 288 + (t - H) by omega, Int.toNat_natCast, q2 99 (by decide), h2 _ (by omega)]
      refine fun _ => ⟨by omega, ?_⟩
      rw [show (t : Int) + 1 = ((t + 1 : Nat) : Int) by omega]
      refine ih (t + 1) _ (by omega) (q2.up (by decide)) fun i hi => ?_
      rw [up2_at]
      by_cases hit : i = t
      · subst hit
        rw [if_pos rfl]
        unfold lrow
        rw [hH, if_neg (by omega)]
      · rw [if_neg hit]
        exact q3 i (by omega)
    · rw [Int.toNat_natCast, q2 99 (by decide), h1 _ (by omega)]
      refine fun _ => ⟨by omega, ?_⟩
      rw [show (t : Int) + 1 = ((t + 1 : Nat) : Int) by omega]
      refine ih (t + 1) _ (by omega) (q2.up (by decide)) fun i hi => ?_
      rw [up2_at]
      by_cases hit : i = t
      · subst hit
        rw [if_pos rfl]
        unfold lrow
        rw [hH, if_pos (by omega)]
      · rw [if_neg hit]
        exact q3 i (by omega)
theorem l_X13_packPart_140 (C : CX Y X RX13 "packPart" cX13_packPart 14 none (e + 18) 0 0) (Ka : ArrK 101 a) {z : Nat → Int} (hz : ∀ s, s < 19 → av 99 (320 + s) = z s) {x2 x3 x4 x5 x6 x7 : Int} {P : PN} (hP : OkN Y (e + 17) mX13_bitsBy [.ref (gl_b Y + 73), .ref (gl_b Y + 99)] RV iv av 116 (fun r2 iv3 av4 => (InR r2) → L_X13_packPart_192 Y X P a x2 x3 x4 x5 x6 x7 ((tsz z : Nat) : Int) ((17 + (3 * ((tsz z : Nat) : Int))) + r2) 0 iv3 av4)) :
    ∀ m : Nat, m ≤ 19 → 4 ≤ m → tsz z = nd (fun i => z (ordN i)) 4 m → L_X13_packPart_140 Y X P a x2 x3 x4 x5 x6 x7 m iv av := by
  intro m
  induction m with
  | zero => intro _ h; omega
  | succ m ih =>
    intro h1 h2 h3
    refine w_X13_packPart_140 C Ka (by omega) ⟨fun g => ?_, fun g => ⟨by omega, ?_⟩⟩
    · have e1 : tsz z = m + 1 := by rw [h3, nd, if_pos (Or.inl (by omega))]
      rw [e1] at hP
      exact hP
    · rw [show ((m + 1 : Nat) : Int) - 1 = (m : Int) by omega, show ((m + 1 : Nat) : Int) + -1 = (m : Int) by omega]
      have ho := ordN_lt m (by omega)
      refine OkN.mono (s_X13_smallOrder (k := m) (by omega)) ?_
      rintro r iv1 av1 hR1 ⟨rfl, rfl, rfl⟩ _
      rw [show 320 + ((ordN m : Nat) : Int) = ((320 + ordN m : Nat) : Int) by omega, Int.toNat_natCast, hz _ ho]
      refine ⟨by omega, fun _ => ⟨fun hne => ?_, fun h0 => ?_⟩⟩
      · have e1 : tsz z = m + 1 := by rw [h3, nd, if_pos (Or.inr hne)]
        rw [e1] at hP
        exact hP
      · refine ih (by omega) (by omega) ?_
        rw [h3, nd, if_neg fun g' => g'.elim (by omega) fun g'' => g'' h0]
theorem l_X13_packPart_309 (C : CX Y X RX13 "packPart" cX13_packPart 14 none (e + 18) 0 0) (Ka : ArrK 101 a) (ha93 : a ≠ 93) {F n bg en : Nat} (hF : F + n ≤ kl a) (hen : en ≤ n) (hb : bg ≤ en) (hbe : en - bg ≤ 4096) {D : Nat → Int} (hD : (fun i => av a (F + i)) = D) {g : Nat × (Nat → Int) × (Nat → Int)} (hg : g = tok D bg en) {last : Int} (hPK : PK iv av (wr last 1 b)) (hT : TkR iv av g) (hQ : TdR iv av (qT g)) (hs : ∀ s, s < 288 → av 99 s = lnS g s) (hd : ∀ s, s < 32 → av 99 (288 + s) = lnD g s) (hz : ∀ s, s < 19 → av 99 (320 + s) = lnZ (qT g) s) (hf : ∀ k : Nat, k < 320 → av 100 k = if k < 288 then fxL k else 5) (hroom : b.1 + bSto b.1 (en - bg) ≤ 528000) {H Dn : Nat} (hH : nd (lnS g) 257 286 = H) (hDn : nd (lnD g) 1 30 = Dn) (hH2 : H ≤ 286) (hD2 : Dn ≤ 30) {P : PN} (hP : ∀ iv' av', OffM [] [31] iv iv' → Off [93, 108] av av' → PK iv' av' (wPart last D bg en b) → P 0 iv' av') :
    L_X13_packPart_309 Y X P a F bg en H Dn ((tsz (lnZ (qT g)) : Nat) : Int) ((bMad (lnZ (qT g)) (qT g) g : Nat) : Int) ((bFix g : Nat) : Int) ((bSto b.1 (en - bg) : Nat) : Int) iv av := by
  have hkl := kl_le a
  have K99 : ArrK 100 99 := ⟨rfl, by decide⟩
  have K100 : ArrK 100 100 := ⟨rfl, by decide⟩
  have hgok : TokOK g := by rw [hg]; exact tok_ok D bg en
  have hgc : g.1 ≤ 4096 := by rw [hg]; have := tok_cnt D hb; omega
  have hqo := qT_ok g
  have hqc := qT_cnt g
  have hst : bSto b.1 (en - bg) = 3 + (8 - (b.1 + 3) % 8) % 8 + 32 + 8 * (en - bg) := rfl
  have hfx : bFix g = 3 + (tkbs fxL (fun _ => 5) g g.1 + (fxL 256).toNat) := rfl
  have hmd : bMad (lnZ (qT g)) (qT g) g = 17 + 3 * tsz (lnZ (qT g)) + hdb (lnZ (qT g)) (qT g) (qT g).1 + (tkbs (lnS g) (lnD g) g g.1 + (lnS g 256).toNat) := rfl
  have b1 := tkbs_le (fun s => (lnS_le g s).2) (fun s => (lnD_le g s).2) g g.1
  have b2 := tkbs_le (fun s => (fxL_le s).2) (fun s => show (fun _ : Nat => (5 : Int)) s ≤ 15 by show (5 : Int) ≤ 15; omega) g g.1
  have b3 := lnS_le g 256
  have b4 := fxL_le 256
  have hts := tsz_in (lnZ (qT g))
  have st : prt g b.1 (en - bg) = 0 → OkN Y (e + 17) mX13_writeNumber [.ref (gl_b Y + 73), .int (i32 0), .int (i32 2)] RV iv av 116 (fun r3 iv4 av5 =>
          OkN Y (e + 17) mX13_endByte [.ref (gl_b Y + 73)] RV iv4 av5 116 (fun r7 iv8 av9 =>
            (InR ((en : Int) - (bg : Int))) ∧
            OkN Y (e + 17) mX13_writeNumber [.ref (gl_b Y + 73), .int (i32 ((en : Int) - (bg : Int))), .int (i32 16)] RV iv8 av9 116 (fun r12 iv13 av14 =>
              (InR ((65535 - (en : Int)) + (bg : Int))) ∧
              OkN Y (e + 17) mX13_writeNumber [.ref (gl_b Y + 73), .int (i32 ((65535 - (en : Int)) + (bg : Int))), .int (i32 16)] RV iv13 av14 116 (fun r17 iv18 av19 =>
                L_X13_packPart_359 Y X P a F en bg iv18 av19)))) := by
    intro h0
    have e0 : wPart last D bg en b = wSto D bg en (wrB (wr 0 2 (wr last 1 b))) := by
      unfold wPart wBody
      rw [← hg, h0, if_pos rfl]
    refine OkN.mono (s_X13_writeNumber 2 rfl hPK (by omega) (by omega) (by show b.1 + 1 + 2 ≤ 528000; omega)) ?_
    rintro r1 iv1 av1 hR1 u1
    refine OkN.mono (s_X13_endByte u1.2.2 (by show b.1 + 1 + 2 + 8 ≤ 528000; omega)) ?_
    rintro r2 iv2 av2 hR2 u2
    have w2 := u1.tr u2
    have l2 : (wrB (wr 0 2 (wr last 1 b))).1 = b.1 + 3 + (8 - (b.1 + 3) % 8) % 8 := rfl
    rw [show (en : Int) - (bg : Int) = ((en - bg : Nat) : Int) by omega, show 65535 - (en : Int) + (bg : Int) = 65535 - ((en - bg : Nat) : Int) by omega]
    refine ⟨by omega, OkN.mono (s_X13_writeNumber 16 rfl w2.2.2 (by omega) (by omega) (by omega)) ?_⟩
    rintro r3 iv3 av3 hR3 u3
    have w3 := w2.tr u3
    refine ⟨by omega, OkN.mono (s_X13_writeNumber 16 rfl w3.2.2 (by omega) (by omega) (by show (wrB (wr 0 2 (wr last 1 b))).1 + 16 + 16 ≤ 528000; omega)) ?_⟩
    rintro r4 iv4 av4 hR4 u4
    have w4 := w3.tr u4
    have eD : (fun i => av4 a (F + i)) = D := by rw [w4.2.1 a (by simp [ha93])]; exact hD
    refine l_X13_packPart_359 (iv := iv4) (av := av4) (bg := bg) (en := en) (n := n) (F := F) (B := wr (65535 - ((en - bg : Nat) : Int)) 16 (wr ((en - bg : Nat) : Int) 16 (wrB (wr 0 2 (wr last 1 b))))) C Ka ha93 hF hen hb (by show (wrB (wr 0 2 (wr last 1 b))).1 + 16 + 16 + 8 * (en - bg) ≤ 528000; omega) (fun iv' av' q => hP iv' av' (w4.1.tr q.1) ((w4.2.1.tr q.2.1).mono (by decide)) ?_) (en - bg) 0 iv4 av4 (by omega) ⟨OffM.rf _ _ _, Off.rf _ _, w4.2.2⟩
    rw [e0]
    unfold wSto
    rw [← eD]
    exact q.2.2
  have h391 : ¬ prt g b.1 (en - bg) = 0 → L_X13_packPart_391 Y X P a H Dn ((tsz (lnZ (qT g)) : Nat) : Int) ((bMad (lnZ (qT g)) (qT g) g : Nat) : Int) ((bFix g : Nat) : Int) iv av := by
    intro hn0
    have hc := prt_cases g b.1 (en - bg)
    have hb3 : (hdb (lnZ (qT g)) (qT g) (qT g).1 : Nat) ≤ 10000 := by
      have : ∀ m, hdb (lnZ (qT g)) (qT g) m ≤ 14 * m := by
        intro m
        induction m with
        | zero => exact Nat.le_refl _
        | succ m ih =>
          have q1 := lnZ_le (qT g) ((qT g).2.1 m).toNat
          have q2 := sbits_le ((qT g).2.1 m).toNat
          show hdb (lnZ (qT g)) (qT g) m + ((lnZ (qT g) ((qT g).2.1 m).toNat).toNat + sbits ((qT g).2.1 m).toNat) ≤ _
          omega
      have := this (qT g).1
      omega
    have hS : ∀ av1, Off [93] av av1 → Len av1 99 0 288 (lnS g) ∧ Len av1 99 288 32 (lnD g) := fun av1 h => ⟨⟨by decide, by omega, fun s hs' => ⟨by rw [h 99 (by decide), Nat.zero_add]; exact hs s hs', lnS_le g s⟩⟩, ⟨by decide, by omega, fun s hs' => ⟨by rw [h 99 (by decide)]; exact hd s hs', lnD_le g s⟩⟩⟩
    refine w_X13_packPart_391 C Ka (by omega) (by omega) ⟨fun hlt => ?_, fun hge => ?_⟩
    · have h2 : prt g b.1 (en - bg) = 2 := by
        unfold prt bSort at hn0 ⊢
        by_cases h1 : bSto b.1 (en - bg) ≤ bFix g ∧ bSto b.1 (en - bg) ≤ bMad (lnZ (qT g)) (qT g) g
        · rw [if_pos h1] at hn0
          exact absurd rfl hn0
        · rw [if_neg h1, if_neg (by omega)]
      have e2 : wPart last D bg en b = wC (lnS g) 288 256 (wToks (lnS g) (lnD g) 288 32 g g.1 (wHdr H Dn (lnZ (qT g)) (qT g) (wr 2 2 (wr last 1 b)))) := by
        unfold wPart wBody
        rw [← hg, h2, if_neg (by omega), if_neg (by omega), hH, hDn]
      have hle : bMad (lnZ (qT g)) (qT g) g ≤ bSto b.1 (en - bg) := by omega
      refine OkN.mono (s_X13_writeNumber 2 rfl hPK (by omega) (by omega) (by show b.1 + 1 + 2 ≤ 528000; omega)) ?_
      rintro r1 iv1 av1 hR1 u1
      refine ⟨by omega, OkN.mono (s_X13_writeNumber 5 rfl u1.2.2 (by omega) (by omega) (by show b.1 + 1 + 2 + 5 ≤ 528000; omega)) ?_⟩
      rintro r2 iv2 av2 hR2 u2
      have w2 := u1.tr u2
      refine ⟨by omega, OkN.mono (s_X13_writeNumber 5 rfl w2.2.2 (by omega) (by omega) (by show b.1 + 1 + 2 + 5 + 5 ≤ 528000; omega)) ?_⟩
      rintro r3 iv3 av3 hR3 u3
      have w3 := w2.tr u3
      refine ⟨by omega, OkN.mono (s_X13_writeNumber 4 rfl w3.2.2 (by omega) (by omega) (by show b.1 + 1 + 2 + 5 + 5 + 4 ≤ 528000; omega)) ?_⟩
      rintro r4 iv4 av4 hR4 u4
      have w4 := w3.tr u4
      refine l_X13_packPart_453 (iv := iv4) (av := av4) (b := wr (((tsz (lnZ (qT g)) : Nat) : Int) - 4) 4 (wr ((Dn : Int) - 1) 5 (wr ((H : Int) - 257) 5 (wr 2 2 (wr last 1 b))))) C Ka K99 (z := lnZ (qT g)) (q := qT g) (fun s hs' => ⟨by rw [w4.2.1 99 (by decide)]; exact hz s hs', by have := lnZ_le (qT g) s; omega⟩) (hQ.cg (w4.1.2 45 (by decide)) (w4.2.1 106 (by decide)) (w4.2.1 107 (by decide)) (w4.2.1 98 (by decide))) hqo (by omega) (by show b.1 + 1 + 2 + 5 + 5 + 4 + 3 * tsz (lnZ (qT g)) + hdb (lnZ (qT g)) (qT g) (qT g).1 ≤ 528000; omega) (fun iv' av' q1 q2 q3 => ?_) (tsz (lnZ (qT g))) 0 iv4 av4 (by omega) ⟨OffM.rf _ _ _, Off.rf _ _, w4.2.2⟩
      have o1 : OffM [] [31] iv iv' := w4.1.tr q1
      have o2 : Off [93, 108] av av' := (w4.2.1.mono (by decide)).tr q2
      have lh := wHdr_1 H Dn (lnZ (qT g)) (qT g) (wr 2 2 (wr last 1 b))
      have lh2 : (wr 2 2 (wr last 1 b)).1 = b.1 + 1 + 2 := rfl
      have q3' : PK iv' av' (wHdr H Dn (lnZ (qT g)) (qT g) (wr 2 2 (wr last 1 b))) := q3
      refine OkN.mono (s_X13_writeTokens (b := wHdr H Dn (lnZ (qT g)) (qT g) (wr 2 2 (wr last 1 b))) (fs := lnS g) (fd := lnD g) K99 rfl (by decide) (by decide) ⟨by decide, by omega, fun s hs' => ⟨by rw [o2 99 (by decide), Nat.zero_add]; exact hs s hs', lnS_le g s⟩⟩ ⟨by decide, by omega, fun s hs' => ⟨by rw [o2 99 (by decide)]; exact hd s hs', lnD_le g s⟩⟩ (fun s _ => lnS_le g s) (fun s _ => lnD_le g s) (hT.cg (o1.2 34 (by decide)) (o2 96 (by decide)) (o2 97 (by decide))) hgok hgc q3' (by omega)) ?_
      rintro r5 iv5 av5 hR5 ⟨p1, p2, p3⟩
      exact hP iv5 av5 (o1.tr p1) (o2.tr p2) (by rw [e2]; exact p3)
    · have h2 : prt g b.1 (en - bg) = 1 := by
        unfold prt bSort at hn0 ⊢
        by_cases h1 : bSto b.1 (en - bg) ≤ bFix g ∧ bSto b.1 (en - bg) ≤ bMad (lnZ (qT g)) (qT g) g
        · rw [if_pos h1] at hn0
          exact absurd rfl hn0
        · rw [if_neg h1, if_pos (by omega)]
      have e1 : wPart last D bg en b = wC fxL 288 256 (wToks fxL (fun _ => 5) 288 32 g g.1 (wr 1 2 (wr last 1 b))) := by
        unfold wPart wBody
        rw [← hg, h2, if_neg (by omega), if_pos rfl]
      have hle : bFix g ≤ bSto b.1 (en - bg) := by omega
      refine OkN.mono (s_X13_writeNumber 2 rfl hPK (by omega) (by omega) (by show b.1 + 1 + 2 ≤ 528000; omega)) ?_
      rintro r1 iv1 av1 hR1 u1
      refine OkN.mono (s_X13_writeTokens (b := wr 1 2 (wr last 1 b)) (fs := fxL) (fd := fun _ => 5) K100 rfl (by decide) (by decide) ⟨by decide, by omega, fun s hs' => ⟨by rw [u1.2.1 100 (by decide), Nat.zero_add, hf s (by omega), if_pos hs'], fxL_le s⟩⟩ ⟨by decide, by omega, fun s hs' => ⟨by rw [u1.2.1 100 (by decide), hf _ (by omega), if_neg (by omega)], by show (0 : Int) ≤ 5; omega, by show (5 : Int) ≤ 15; omega⟩⟩ (fun s _ => fxL_le s) (fun s _ => ⟨by show (0 : Int) ≤ 5; omega, by show (5 : Int) ≤ 15; omega⟩) (hT.cg (u1.1.2 34 (by decide)) (u1.2.1 96 (by decide)) (u1.2.1 97 (by decide))) hgok hgc u1.2.2 (by show b.1 + 1 + 2 + tkbs fxL (fun _ => 5) g g.1 + (fxL 256).toNat ≤ 528000; omega)) ?_
      rintro r5 iv5 av5 hR5 ⟨p1, p2, p3⟩
      exact hP iv5 av5 (u1.1.tr p1) ((u1.2.1.mono (by decide)).tr p2) (by rw [e1]; exact p3)
  have hp0 : prt g b.1 (en - bg) = 0 ↔ (bSto b.1 (en - bg) ≤ bFix g ∧ bSto b.1 (en - bg) ≤ bMad (lnZ (qT g)) (qT g) g) := by
    unfold prt bSort
    by_cases h1 : bSto b.1 (en - bg) ≤ bFix g ∧ bSto b.1 (en - bg) ≤ bMad (lnZ (qT g)) (qT g) g
    · rw [if_pos h1]
      exact ⟨fun _ => h1, fun _ => rfl⟩
    · rw [if_neg h1]
      refine ⟨fun h => ?_, fun h => absurd h h1⟩
      split at h <;> omega
  have hbd : bMad (lnZ (qT g)) (qT g) g ≤ 10000000 := by
    have : ∀ m, hdb (lnZ (qT g)) (qT g) m ≤ 14 * m := by
      intro m
      induction m with
      | zero => exact Nat.le_refl _
      | succ m ih =>
        have q1 := lnZ_le (qT g) ((qT g).2.1 m).toNat
        have q2 := sbits_le ((qT g).2.1 m).toNat
        show hdb (lnZ (qT g)) (qT g) m + ((lnZ (qT g) ((qT g).2.1 m).toNat).toNat + sbits ((qT g).2.1 m).toNat) ≤ _
        omega
    have := this (qT g).1
    omega
  refine w_X13_packPart_309 C Ka (by omega) (by omega) (by omega) ⟨fun h => h391 fun h0 => ?_, fun h => ⟨fun h2 => h391 fun h0 => ?_, fun h2 => st (hp0.mpr ⟨by omega, by omega⟩)⟩⟩
  · have := hp0.mp h0
    omega
  · have := hp0.mp h0
    omega
theorem l_X13_packPart_192 (C : CX Y X RX13 "packPart" cX13_packPart 14 none (e + 18) 0 0) (Ka : ArrK 101 a) (ha93 : a ≠ 93) (ha100 : a ≠ 100) {F n bg en : Nat} (hF : F + n ≤ kl a) (hen : en ≤ n) (hb : bg ≤ en) (hbe : en - bg ≤ 4096) {D : Nat → Int} (hD : (fun i => av a (F + i)) = D) {g : Nat × (Nat → Int) × (Nat → Int)} (hg : g = tok D bg en) {last : Int} (hl : last = 0 ∨ last = 1) (hPK : PK iv av b) (hT : TkR iv av g) (hQ : TdR iv av (qT g)) (hs : ∀ s, s < 288 → av 99 s = lnS g s) (hd : ∀ s, s < 32 → av 99 (288 + s) = lnD g s) (hz : ∀ s, s < 19 → av 99 (320 + s) = lnZ (qT g) s) (hroom : b.1 + bSto b.1 (en - bg) ≤ 528000) {H Dn : Nat} (hH : nd (lnS g) 257 286 = H) (hDn : nd (lnD g) 1 30 = Dn) (hH2 : H ≤ 286) (hD2 : Dn ≤ 30) {P : PN} (hP : ∀ iv' av', OffM [] [31] iv iv' → Off [93, 100, 108] av av' → PK iv' av' (wPart last D bg en b) → P 0 iv' av') :
    ∀ (m t : Nat), t + m = (qT g).1 → L_X13_packPart_192 Y X P a F bg en last H Dn ((tsz (lnZ (qT g)) : Nat) : Int) (17 + 3 * ((tsz (lnZ (qT g)) : Nat) : Int) + ((tkbs (lnS g) (lnD g) g g.1 + (lnS g 256).toNat : Nat) : Int) + ((hdb (lnZ (qT g)) (qT g) t : Nat) : Int)) t iv av := by
  have K100 : ArrK 100 100 := ⟨rfl, by decide⟩
  have hgok : TokOK g := by rw [hg]; exact tok_ok D bg en
  have hgc : g.1 ≤ 4096 := by rw [hg]; have := tok_cnt D hb; omega
  have hqo := qT_ok g
  have hqc := qT_cnt g
  have hst : bSto b.1 (en - bg) = 3 + (8 - (b.1 + 3) % 8) % 8 + 32 + 8 * (en - bg) := rfl
  have hfx : bFix g = 3 + (tkbs fxL (fun _ => 5) g g.1 + (fxL 256).toNat) := rfl
  have hmd : bMad (lnZ (qT g)) (qT g) g = 17 + 3 * tsz (lnZ (qT g)) + hdb (lnZ (qT g)) (qT g) (qT g).1 + (tkbs (lnS g) (lnD g) g g.1 + (lnS g 256).toNat) := rfl
  intro m
  induction m with
  | zero =>
    intro t ht
    have et : t = (qT g).1 := by omega
    subst et
    have h45 := hQ.1
    refine w_X13_packPart_192 C Ka (by omega) (by omega) fun _ => ⟨fun _ => OkN.mono s_X13_makeFixed ?_, fun g' => absurd g' (by omega)⟩
    rintro r1 iv1 av1 hR1 ⟨rfl, m2, m3⟩
    refine OkN.mono (s_X13_bitsBy (fs := fxL) (fd := fun _ => 5) K100 rfl fxL_le (fun s => ⟨by show (0 : Int) ≤ 5; omega, by show (5 : Int) ≤ 15; omega⟩) (fun s hs' => by rw [m3 s (by omega), if_pos hs']) (fun d hd' => by rw [m3 _ (by omega), if_neg (by omega)]) (hT.cg rfl (m2 96 (by decide)) (m2 97 (by decide))) hgok hgc) ?_
    rintro r2 iv2 av2 hR2 ⟨hr2, rfl, rfl⟩ _ _
    have h31 : iv2 73 31 = b.1 := hPK.2.1
    rw [h31]
    have hPK2 : PK iv2 av2 b := hPK.of rfl (m2 93 (by decide))
    have eD : (fun i => av2 a (F + i)) = D := by rw [m2 a (by simp [ha100])]; exact hD
    have fin : ∀ x12 : Int, x12 = ((bSto b.1 (en - bg) : Nat) : Int) → ∀ iv3 av3, WrR iv2 av2 iv3 av3 (wr last 1 b) → L_X13_packPart_309 Y X P a F bg en H Dn ((tsz (lnZ (qT g)) : Nat) : Int) (17 + 3 * ((tsz (lnZ (qT g)) : Nat) : Int) + ((tkbs (lnS g) (lnD g) g g.1 + (lnS g 256).toNat : Nat) : Int) + ((hdb (lnZ (qT g)) (qT g) (qT g).1 : Nat) : Int)) (3 + r2) x12 iv3 av3 := by
      intro x12 hx iv3 av3 u
      rw [hx, show 3 + r2 = ((bFix g : Nat) : Int) by rw [hr2, hfx]; omega, show 17 + 3 * ((tsz (lnZ (qT g)) : Nat) : Int) + ((tkbs (lnS g) (lnD g) g g.1 + (lnS g 256).toNat : Nat) : Int) + ((hdb (lnZ (qT g)) (qT g) (qT g).1 : Nat) : Int) = ((bMad (lnZ (qT g)) (qT g) g : Nat) : Int) by rw [hmd]; omega]
      have o : Off [93, 100, 108] av av3 := (m2.mono (by decide)).tr (u.2.1.mono (by decide))
      exact l_X13_packPart_309 (iv := iv3) (av := av3) C Ka ha93 hF hen hb hbe (by rw [u.2.1 a (by simp [ha93])]; exact eD) hg u.2.2 (hT.cg (u.1.2 34 (by decide)) (o 96 (by decide)) (o 97 (by decide))) (hQ.cg (u.1.2 45 (by decide)) (o 106 (by decide)) (o 107 (by decide)) (o 98 (by decide))) (fun s hs' => by rw [o 99 (by decide)]; exact hs s hs') (fun s hs' => by rw [o 99 (by decide)]; exact hd s hs') (fun s hs' => by rw [o 99 (by decide)]; exact hz s hs') (fun k hk => by rw [u.2.1 100 (by decide)]; exact m3 k hk) hroom hH hDn hH2 hD2 fun iv' av' q1 q2 q3 => hP iv' av' (u.1.tr q1) (o.tr (q2.mono (by decide))) q3
    refine ⟨by omega, by omega, fun hne => ⟨fun h0 => OkN.mono (s_X13_writeBit hPK2 (Or.inl rfl) (by omega)) ?_, fun h1 => OkN.mono (s_X13_writeBit hPK2 (Or.inr rfl) (by omega)) ?_⟩, fun heq => ⟨fun h0 => OkN.mono (s_X13_writeBit hPK2 (Or.inl rfl) (by omega)) ?_, fun h1 => OkN.mono (s_X13_writeBit hPK2 (Or.inr rfl) (by omega)) ?_⟩⟩
    · rintro r3 iv3 av3 hR3 u
      exact fin _ (by rw [hst]; omega) iv3 av3 (by rw [h0]; exact u)
    · rintro r3 iv3 av3 hR3 u
      exact fin _ (by rw [hst]; omega) iv3 av3 (by rw [hl.resolve_left h1]; exact u)
    · rintro r3 iv3 av3 hR3 u
      exact fin _ (by rw [hst]; omega) iv3 av3 (by rw [h0]; exact u)
    · rintro r3 iv3 av3 hR3 u
      exact fin _ (by rw [hst]; omega) iv3 av3 (by rw [hl.resolve_left h1]; exact u)
  | succ m ih =>
    intro t ht
    have h45 := hQ.1
    obtain ⟨c1, c2, c3, c4⟩ := hqo t (by omega)
    have t1 := (hQ.2.1 t (by omega)).1
    obtain ⟨x, hx⟩ := Int.eq_ofNat_of_zero_le c1
    refine w_X13_packPart_192 C Ka (by omega) (by omega) fun _ => ⟨fun g' => absurd g' (by omega), fun _ => ⟨by omega, ?_⟩⟩
    rw [Int.toNat_natCast, t1, hx, show 320 + (x : Int) = ((320 + x : Nat) : Int) by omega, Int.toNat_natCast, hz x (by omega)]
    refine fun _ => ⟨by omega, fun _ => OkN.mono (s_X13_stepBits (s := x) (by omega)) ?_⟩
    rintro r1 iv1 av1 hR1 ⟨rfl, rfl, rfl⟩ _
    have q1 := lnZ_le (qT g) x
    have hh := ih (t + 1) (by omega)
    have eh : hdb (lnZ (qT g)) (qT g) (t + 1) = hdb (lnZ (qT g)) (qT g) t + ((lnZ (qT g) x).toNat + sbits x) := by
      show hdb (lnZ (qT g)) (qT g) t + ((lnZ (qT g) ((qT g).2.1 t).toNat).toNat + sbits ((qT g).2.1 t).toNat) = _
      rw [hx, Int.toNat_natCast]
    rw [eh] at hh
    rw [show (t : Int) + 1 = ((t + 1 : Nat) : Int) by omega]
    refine Eq.mp ?_ hh
    congr 1
    omega
theorem s_X13_packPart (Ka : ArrK 101 a) (haL : a ∉ [93, 94, 95, 96, 97, 98, 99, 100, 101, 102, 103, 104, 105, 106, 107, 108]) {F n bg en : Nat} (hF : F + n ≤ kl a) (hn : n ≤ 65536) (hb : bg ≤ en) (hbe : en - bg ≤ 4096) (hen : en ≤ n) (hc : ∀ q, q + 1 < n → PrevOK (kR fun i => av a (F + i)) q (kR (fun i => av a (F + i)) q) (av 94 q)) {last : Int} (hl : last = 0 ∨ last = 1) (hPK : PK iv av b) (hroom : b.1 + bSto b.1 (en - bg) ≤ 528000) : OkN Y (e + 18) mX13_packPart [.ref (gl_b Y + 73), .ref (gl_b Y + a), .int (i32 (F : Int)), .int (i32 (bg : Int)), .int (i32 (en : Int)), .int (i32 last)] RV iv av 116
    (fun r iv' av' => OffM [] [31, 34, 45] iv iv' ∧ Off [93, 96, 97, 98, 99, 100, 101, 102, 103, 104, 105, 106, 107, 108] av av' ∧ PK iv' av' (wPart last (fun i => av a (F + i)) bg en b)) := by
  have hkl := kl_le a
  simp only [List.mem_cons, List.not_mem_nil, or_false, not_or] at haL
  obtain ⟨a93, a94, a95, a96, a97, a98, a99, a100, a101, a102, a103, a104, a105, a106, a107, a108⟩ := haL
  generalize hDD : (fun i => av a (F + i)) = D at *
  have K99 : ArrK 100 99 := ⟨rfl, by decide⟩
  refine o_X13_packPart Ka (by omega) (by omega) (by omega) fun X C => OkN.mono (s_X13_cutPart Ka a96 a97 hF hn hb hbe hen (by rw [hDD]; exact hc)) ?_
  rintro r1 iv1 av1 hR1 ⟨c1, c2, c3⟩
  rw [hDD] at c3
  have hgok := tok_ok D bg en
  have hgc := tok_cnt D hb
  generalize hg : tok D bg en = g at c3 hgok hgc
  refine OkN.mono (s_X13_countTok2 c3 hgok (by omega)) ?_
  rintro r2 iv2 av2 hR2 ⟨rfl, n1, n2, n3, n4⟩
  refine OkN.mono (s_X13_findLengths (f := 0) (n := 288) (lim := 15) (c := cS g) (by omega) (by omega) (by omega) (by omega) (fun m hm => Pn_15 m (by omega)) (cS_le g (by omega)) (fun s hs => by rw [Nat.zero_add]; exact n2 s hs)) ?_
  rintro r3 iv3 av3 hR3 ⟨rfl, f1, f2, f3⟩
  refine OkN.mono (s_X13_findLengths (f := 288) (n := 32) (lim := 15) (c := cD g) (by omega) (by omega) (by omega) (by omega) (fun m hm => Pn_15 m (by omega)) (cD_le g (by omega)) (fun s hs => by rw [f1 98 (by decide)]; exact n3 s hs)) ?_
  rintro r4 iv4 av4 hR4 ⟨rfl, k1, k2, k3⟩
  have hs : ∀ s, s < 288 → av4 99 s = lnS g s := fun s hs => by
    rw [k3 s (Or.inl hs)]
    have := f2 s hs
    rw [Nat.zero_add] at this
    exact this
  have hd : ∀ s, s < 32 → av4 99 (288 + s) = lnD g s := k2
  have hH2 := nd_le (lnS g) 257 286
  have hD2 := nd_le (lnD g) 1 30
  have eH : nd (fun s => av4 99 (0 + s)) 257 286 = nd (lnS g) 257 286 := nd_congr 257 286 fun s hs' => by rw [Nat.zero_add]; exact hs s (by omega)
  have eD : nd (fun s => av4 99 (288 + s)) 1 30 = nd (lnD g) 1 30 := nd_congr 1 30 fun s hs' => hd s (by omega)
  have eq0 : qT g = told (lrow (lnS g) (lnD g)) (nd (lnS g) 257 286 + nd (lnD g) 1 30) := rfl
  generalize hH : nd (lnS g) 257 286 = H at *
  generalize hDn : nd (lnD g) 1 30 = Dn at *
  refine OkN.mono (s_X13_needed (f := 0) (n := 286) (least := 257) (by omega) (by omega)) ?_
  rintro r5 iv5 av5 hR5 ⟨hr5, rfl, rfl⟩ _
  rw [eH] at hr5
  subst hr5
  refine OkN.mono (s_X13_needed (f := 288) (n := 30) (least := 1) (by omega) (by omega)) ?_
  rintro r6 iv6 av6 hR6 ⟨hr6, rfl, rfl⟩ _
  rw [eD] at hr6
  subst hr6
  have o4 : Off [96, 97, 98, 99, 101, 102, 103, 104] av av6 := ((c2.mono (by decide)).tr (n1.mono (by decide))).tr ((f1.mono (by decide)).tr (k1.mono (by decide)))
  refine l_X13_packPart_62 (iv := iv6) (av := av6) C Ka hs hd hH hH2 hD2 (fun av7 g1 g2 => ?_) (H + Dn) 0 av6 (by omega) (Off.rf _ _) (fun i hi => absurd hi (Nat.not_lt_zero _))
  refine OkN.mono (s_X13_tellRow (rw := lrow (lnS g) (lnD g)) (n := H + Dn) (by omega) (fun i _ => lrow_in (lnS_le g) (lnD_le g) i) g2 (fun s hs' => by rw [g1 98 (by decide), k1 98 (by decide), f1 98 (by decide)]; exact n4 s hs')) ?_
  rintro r7 iv8 av8 hR8 ⟨t1, t2⟩
  rw [← eq0] at t2
  have hqc := qT_cnt g
  refine OkN.mono (s_X13_findLengths (f := 320) (n := 19) (lim := 7) (c := cZ (qT g)) (by omega) (by omega) (by omega) (by omega) (fun m hm => Pn_7 m (by omega)) (cZ_le (qT g) (by omega)) (fun s hs' => t2.2.2 s hs')) ?_
  rintro r9 iv9 av9 hR9 ⟨rfl, z1, z2, z3⟩
  have o9 : Off [96, 97, 98, 99, 101, 102, 103, 104, 105, 106, 107] av av9 := ((o4.mono (by decide)).tr (g1.mono (by decide))).tr ((t1.2.1.mono (by decide)).tr (z1.mono (by decide)))
  have oi : OffM [] [34, 45] iv iv9 := (c1.mono (by decide) (by decide)).tr (t1.1.mono (by decide) (by decide))
  have e99 : ∀ i, i < 320 → av9 99 i = av6 99 i := fun i hi => by rw [z3 i (Or.inl hi), t1.2.1 99 (by decide), g1 99 (by decide)]
  have hs9 : ∀ s, s < 288 → av9 99 s = lnS g s := fun s hs' => by rw [e99 s (by omega)]; exact hs s hs'
  have hd9 : ∀ s, s < 32 → av9 99 (288 + s) = lnD g s := fun s hs' => by rw [e99 _ (by omega)]; exact hd s hs'
  have hz9 : ∀ s, s < 19 → av9 99 (320 + s) = lnZ (qT g) s := z2
  have hT9 : TkR iv9 av9 g := c3.cg (t1.1.2 34 (by decide)) (by rw [z1 96 (by decide), t1.2.1 96 (by decide), g1 96 (by decide), k1 96 (by decide), f1 96 (by decide), n1 96 (by decide)]) (by rw [z1 97 (by decide), t1.2.1 97 (by decide), g1 97 (by decide), k1 97 (by decide), f1 97 (by decide), n1 97 (by decide)])
  have hQ9 : TdR iv9 av9 (qT g) := t2.cg rfl (z1 106 (by decide)) (z1 107 (by decide)) (z1 98 (by decide))
  refine l_X13_packPart_140 (iv := iv9) (av := av9) C Ka hz9 (OkN.mono (s_X13_bitsBy (fs := lnS g) (fd := lnD g) K99 rfl (lnS_le g) (lnD_le g) hs9 hd9 hT9 hgok (by omega)) ?_) 19 (by omega) (by omega) rfl
  rintro r10 iv10 av10 hR10 ⟨hr10, rfl, rfl⟩ _
  subst hr10
  have hh := l_X13_packPart_192 (iv := iv10) (av := av10) (b := b) C Ka a93 a100 (F := F) (n := n) (bg := bg) (en := en) hF hen hb hbe (D := D) (by rw [o9 a (by simp [a96, a97, a98, a99, a101, a102, a103, a104, a105, a106, a107])]; exact hDD) hg.symm hl (hPK.of (oi.2 31 (by decide)) (o9 93 (by decide))) hT9 hQ9 hs9 hd9 hz9 hroom hH hDn hH2 hD2 (P := fun r iv' av' => OffM [] [31, 34, 45] iv iv' ∧ Off [93, 96, 97, 98, 99, 100, 101, 102, 103, 104, 105, 106, 107, 108] av av' ∧ PK iv' av' (wPart last D bg en b)) (fun iv' av' q1 q2 q3 => ⟨(oi.mono (by decide) (by decide)).tr (q1.mono (by decide) (by decide)), (o9.mono (by decide)).tr (q2.mono (by decide)), q3⟩) (qT g).1 0 (by omega)
  refine Eq.mp ?_ hh
  congr 1
end SRPart
