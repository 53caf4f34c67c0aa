/-! The reference puts files. -/
theorem cntB_eq {fr : Int} {bs n c : Nat} (hb : 0 < bs) (h1 : n - restOf fr bs n ≤ c * bs) (h2 : c = 0 ∨ (c - 1) * bs < n - restOf fr bs n) : cntB fr bs n = c := by
  have a := cntB_lt (fr := fr) (n := n) (m := c) hb
  have b := cntB_lt (fr := fr) (n := n) (m := c - 1) hb
  have h3 : ¬ c < cntB fr bs n := fun h => by
    have := a.mp h
    omega
  rcases h2 with h2 | h2
  · omega
  · have := b.mpr h2
    omega
theorem rFc.cg {av av' : IVt} {S S' : PS} {t : Nat} (h : rFc av S t) (e : ∀ k, k ∈ [78, 79, 80, 81, 82, 83, 84] → av' k t = av k t) (f : ∀ w, pF S' t w = pF S t w) : rFc av' S' t := by
  unfold rFc at *
  rw [e 78 (by decide), e 79 (by decide), e 80 (by decide), e 81 (by decide), e 82 (by decide), e 83 (by decide), e 84 (by decide), f 1, f 2, f 3, f 4, f 5, f 6, f 7]
  exact h
theorem rRp.opn {iv av : IVt} {S : PS} {f n : Nat} {beg : Int} (h : rRp iv av S f) (h78 : av 78 f = n) : rRp iv (up2 (up2 (up2 (up2 (up2 (up2 av 80 f (iv 73 16)) 81 f 0) 84 f 0) 79 f beg) 82 f (-2)) 83 f 0) (sOpen f n beg S) (f + 1) := by
  obtain ⟨⟨a1, a2⟩, ⟨b1, b2⟩, ⟨c1, c2⟩, ⟨d1, d2⟩, ee⟩ := h
  refine ⟨⟨a1, a2⟩, ⟨b1, b2⟩, ⟨c1, c2⟩, ⟨d1, d2⟩, fun t ht => ?_⟩
  by_cases he : t = f
  · subst he
    have q : ∀ w, pF (sOpen t n beg S) t w = if w = 1 then (n : Int) else if w = 2 then beg else if w = 4 then -2 else if w = 7 then ((pN S).1 : Int) else 0 := fun w => if_pos rfl
    unfold rFc
    rw [q 1, q 2, q 3, q 4, q 5, q 6, q 7]
    refine ⟨h78, ?_, ?_, ?_, ?_, ?_, ?_⟩
    · show (if t = t then beg else _) = _
      rw [if_pos rfl]
      rfl
    · show (if t = t then (0 : Int) else _) = _
      rw [if_pos rfl]
      rfl
    · show (if t = t then (-2 : Int) else _) = _
      rw [if_pos rfl]
      rfl
    · show (if t = t then (0 : Int) else _) = _
      rw [if_pos rfl]
      rfl
    · show (if t = t then (0 : Int) else _) = _
      rw [if_pos rfl]
      rfl
    · show (if t = t then iv 73 16 else _) = _
      rw [if_pos rfl]
      exact b1
  · refine (ee t (by omega)).cg (fun k hk => ?_) fun w => if_neg he
    rw [up2_app, if_neg (by omega), up2_app, if_neg (by omega), up2_app, if_neg (by omega), up2_app, if_neg (by omega), up2_app, if_neg (by omega), up2_app, if_neg (by omega)]
theorem rRp.joi {iv av iv' av' : IVt} {S : PS} {f rest : Nat} {D : Nat → Int} (h : rRp iv av S (f + 1)) (o1 : OffM [] [22] iv iv') (o2 : Off [88] (up2 (up2 av 82 f (iv 73 18)) 83 f (iv 73 22)) av') (e22 : iv' 73 22 = (((pH S).1 + rest : Nat) : Int)) (r1 : ∀ j, j < (pH S).1 → av' 88 j = av 88 j) (r2 : ∀ j, j < rest → av' 88 ((pH S).1 + j) = D j) : rRp iv' av' (sJoin f rest D S) (f + 1) := by
  obtain ⟨⟨a1, a2⟩, ⟨b1, b2⟩, ⟨c1, c2⟩, ⟨d1, d2⟩, ee⟩ := h
  refine ⟨⟨?_, fun j hj => ?_⟩, ⟨?_, fun j hj => ?_⟩, ⟨?_, fun j hj => ?_⟩, ⟨e22, apR_rows d2 r1 r2⟩, fun t ht => ?_⟩
  · rw [o1.2 23 (by decide)]
    exact a1
  · rw [o2 89 (by decide)]
    exact a2 j hj
  · rw [o1.2 16 (by decide)]
    exact b1
  · rw [o2 85 (by decide)]
    exact b2 j hj
  · rw [o1.2 18 (by decide)]
    exact c1
  · rw [o2 86 (by decide), o2 87 (by decide)]
    exact c2 j hj
  · have g := ee t ht
    unfold rFc at *
    rw [o2 78 (by decide), o2 79 (by decide), o2 80 (by decide), o2 81 (by decide), o2 82 (by decide), o2 83 (by decide), o2 84 (by decide)]
    obtain ⟨g1, g2, g3, g4, g5, g6, g7⟩ := g
    refine ⟨?_, ?_, ?_, ?_, ?_, ?_, ?_⟩
    · show _ = stF _ _ _ _ _ _
      rw [stF_ne (Or.inr (by omega)), stF_ne (Or.inr (by omega))]
      exact g1
    · show _ = stF _ _ _ _ _ _
      rw [stF_ne (Or.inr (by omega)), stF_ne (Or.inr (by omega))]
      exact g2
    · show _ = stF _ _ _ _ _ _
      rw [stF_ne (Or.inr (by omega)), stF_ne (Or.inr (by omega))]
      exact g3
    · show (if t = f then iv 73 18 else av 82 t) = stF (stF (pF S) f 4 (pG S).1) f 5 (pH S).1 t 4
      rw [stF_ne (Or.inr (by omega))]
      show _ = if t = f ∧ 4 = 4 then ((pG S).1 : Int) else pF S t 4
      by_cases he : t = f
      · rw [if_pos he, if_pos ⟨he, rfl⟩]
        exact c1
      · rw [if_neg he, if_neg fun h => he h.1]
        exact g4
    · show (if t = f then iv 73 22 else av 83 t) = if t = f ∧ 5 = 5 then ((pH S).1 : Int) else stF (pF S) f 4 (pG S).1 t 5
      by_cases he : t = f
      · rw [if_pos he, if_pos ⟨he, rfl⟩]
        exact d1
      · rw [if_neg he, if_neg fun h => he h.1, stF_ne (Or.inr (by omega))]
        exact g5
    · show _ = stF _ _ _ _ _ _
      rw [stF_ne (Or.inr (by omega)), stF_ne (Or.inr (by omega))]
      exact g6
    · show _ = stF _ _ _ _ _ _
      rw [stF_ne (Or.inr (by omega)), stF_ne (Or.inr (by omega))]
      exact g7
theorem rRp.shr {iv av : IVt} {S : PS} {f t n : Nat} (h : rRp iv av S f) (ht : t < f) : rRp iv (up2 (up2 (up2 (up2 (up2 (up2 (up2 av 78 f n) 79 f (av 79 t)) 80 f (av 80 t)) 81 f (av 81 t)) 82 f (av 82 t)) 83 f (av 83 t)) 84 f (av 84 t)) (sShare f t n S) (f + 1) := by
  obtain ⟨⟨a1, a2⟩, ⟨b1, b2⟩, ⟨c1, c2⟩, ⟨d1, d2⟩, ee⟩ := h
  refine ⟨⟨a1, a2⟩, ⟨b1, b2⟩, ⟨c1, c2⟩, ⟨d1, d2⟩, fun t' ht' => ?_⟩
  by_cases he : t' = f
  · subst he
    have q : ∀ w, pF (sShare t' t n S) t' w = if w = 1 then (n : Int) else pF S t w := fun w => if_pos rfl
    obtain ⟨g1, g2, g3, g4, g5, g6, g7⟩ := ee t ht
    unfold rFc
    rw [q 1, q 2, q 3, q 4, q 5, q 6, q 7]
    refine ⟨?_, ?_, ?_, ?_, ?_, ?_, ?_⟩
    · show (if t' = t' then (n : Int) else _) = _
      rw [if_pos rfl]
      rfl
    · show (if t' = t' then av 79 t else _) = _
      rw [if_pos rfl]
      exact g2
    · show (if t' = t' then av 81 t else _) = _
      rw [if_pos rfl]
      exact g3
    · show (if t' = t' then av 82 t else _) = _
      rw [if_pos rfl]
      exact g4
    · show (if t' = t' then av 83 t else _) = _
      rw [if_pos rfl]
      exact g5
    · show (if t' = t' then av 84 t else _) = _
      rw [if_pos rfl]
      exact g6
    · show (if t' = t' then av 80 t else _) = _
      rw [if_pos rfl]
      exact g7
  · refine (ee t' (by omega)).cg (fun k hk => ?_) fun w => if_neg he
    rw [up2_app, if_neg (by omega), up2_app, if_neg (by omega), up2_app, if_neg (by omega), up2_app, if_neg (by omega), up2_app, if_neg (by omega), up2_app, if_neg (by omega), up2_app, if_neg (by omega)]
section SRPut2
variable {Y : Gl} {X : Cx} {e : Nat} {iv av : IVt} {bs f : Nat} {n : Nat → Nat} {B : Nat → Nat → Int} {pk fr : Int} {S : PS}
theorem l_X13_putFile_217 (C : CX Y X RX13 "putFile" cX13_putFile 7 none (e + 22) 0 0) {F rest H : Nat} (hF : F + rest ≤ 65536) {D : Nat → Int} {iv0 av0 : IVt} (hD : ∀ i, i < rest → av0 77 (F + i) = D i) (h77 : ∀ i, -128 ≤ av0 77 i ∧ av0 77 i ≤ 127) (hH : H + rest ≤ 65536) {P : PN} (hP : ∀ iv' av', OffM [] [22] iv0 iv' → Off [88] av0 av' → iv' 73 22 = ((H + rest : Nat) : Int) → (∀ j, j < H → av' 88 j = av0 88 j) → (∀ j, j < rest → av' 88 (H + j) = D j) → P 0 iv' av') :
    ∀ (d i : Nat) (iv av : IVt), i + d = rest → OffM [] [22] iv0 iv → Off [88] av0 av → iv 73 22 = ((H + i : Nat) : Int) → (∀ j, j < H → av 88 j = av0 88 j) → (∀ j, j < i → av 88 (H + j) = D j) → L_X13_putFile_217 Y X P rest F i iv av := by
  intro d
  induction d with
  | zero =>
    intro i iv av q1 q2 q3 q4 q5 q6
    have ei : i = rest := by omega
    subst ei
    exact w_X13_putFile_217 C (by omega) (by omega) ⟨fun _ => hP iv av q2 q3 q4 q5 q6, fun g => absurd g (by omega)⟩
  | succ d ih =>
    intro i iv av q1 q2 q3 q4 q5 q6
    refine w_X13_putFile_217 C (by omega) (by omega) ⟨fun g => absurd g (by omega), fun _ _ => ⟨by omega, fun _ => ⟨by omega, by omega, ?_⟩⟩⟩
    rw [show ((F : Int) + (i : Int)).toNat = F + i by omega, q3 77 (by decide), bm8_id (h77 (F + i)), hD i (by omega), q4, Int.toNat_natCast, show (i : Int) + 1 = ((i + 1 : Nat) : Int) by omega]
    refine ih (i + 1) _ _ (by omega) (q2.up (by decide)) (q3.up (by decide)) (by rw [up2_eq]; omega) (fun j hj => ?_) fun j hj => ?_
    · rw [up2_nj (by omega)]
      exact q5 j hj
    · rw [up2_at]
      by_cases hji : j = i
      · subst hji
        rw [if_pos rfl]
      · rw [if_neg (by omega)]
        exact q6 j (by omega)
theorem l_X13_putFile_107 (C : CX Y X RX13 "putFile" cX13_putFile 7 none (e + 22) 0 0) (hf : f < 64) (hJ : pJ bs n f S) (h1 : 4096 ≤ bs) (h2 : bs ≤ 65536) (hT : sT n 64 ≤ 65536) {iv0 av0 : IVt} (hFl : rFl av0 n B) (h6 : iv0 73 6 = bs) (h7 : iv0 73 7 = pk) {own : Int} (hown : own = if fr = 0 ∧ 0 < n f % bs then 1 else 0) {P : PN} (hP : ∀ iv' av', rtF iv0 av0 iv' av' → rRp iv' av' (sFile pk fr bs f (n f) (B f) S) (f + 1) → P 0 iv' av') :
    ∀ (d k : Nat) (iv av : IVt), k + d = n f / bs → rtF iv0 av0 iv av → (∀ i, -128 ≤ av 88 i ∧ av 88 i ≤ 127) → rRp iv av (sBlks pk f (B f) bs (n f) k (sOpen f (n f) (if 0 < n f - restOf fr bs (n f) then ((pR S).1 : Int) else 0) S)) (f + 1) → L_X13_putFile_107 Y X P f ((n f / bs : Nat) : Int) ((n f % bs : Nat) : Int) own k iv av := by
  have hb : 0 < bs := by omega
  have hr := restOf_lt (fr := fr) (n := n f) hb
  have hTf : sT n f + n f ≤ 65536 := Nat.le_trans (sT_le (show f + 1 ≤ 64 by omega)) hT
  have hdm := Nat.div_add_mod (n f) bs
  have hml := Nat.mod_lt (n f) hb
  have hwl : n f / bs ≤ n f := Nat.div_le_self _ _
  rw [Nat.mul_comm] at hdm
  have efi : (f : Int).toNat = f := Int.toNat_natCast f
  have hown01 : own = 0 ∨ own = 1 := by
    rw [hown]
    split
    · exact Or.inr rfl
    · exact Or.inl rfl
  obtain ⟨⟨s1, s2, s3, s4⟩, s5, s6⟩ := hJ.1
  generalize hbeg : (if 0 < n f - restOf fr bs (n f) then ((pR S).1 : Int) else 0) = beg at *
  have emid : sMid pk fr bs f (n f) (B f) S = sBlks pk f (B f) bs (n f) (cntB fr bs (n f)) (sOpen f (n f) beg S) := by
    unfold sMid
    rw [hbeg]
  intro d
  induction d with
  | zero =>
    intro k iv av q1 q2 q8 q3
    have ek : k = n f / bs := by omega
    rw [ek] at q3 ⊢
    clear q1 ek
    have hFl1 := hFl.pt q2
    obtain ⟨f1, f2, f3⟩ := id hFl1
    have g1 := f1 f hf
    obtain ⟨at0, hat⟩ := Int.eq_ofNat_of_zero_le g1.2.1
    have e6 : iv 73 6 = bs := (q2.1.2 6 (by decide)).trans h6
    have e7 : iv 73 7 = pk := (q2.1.2 7 (by decide)).trans h7
    have hmul : ((n f / bs : Nat) : Int) * (bs : Int) = ((n f / bs * bs : Nat) : Int) := (Int.natCast_mul _ _).symm
    have hmd := md_all (S0 := S) (f := f) (n := n f) (beg := beg) (pk := pk) (B := B f) h2 (n f / bs) fun k hk => by
      have := Nat.mul_le_mul_right bs (show k + 1 ≤ n f / bs by omega)
      rw [Nat.succ_mul] at this
      omega
    have hcl := Nat.mul_le_mul_left (n f / bs) h1
    refine w_X13_putFile_107 C (by omega) (by omega) (by omega) (by omega) (by omega) ⟨fun _ => ⟨by omega, ?_⟩, fun g => absurd g (by omega)⟩
    rw [efi, e6, hmul, hat]
    generalize hx : n f / bs * bs = x at *
    refine fun _ _ => ⟨fun hw0 => ⟨fun hr0 => ?_, fun hr0 => ?_⟩, fun hw1 => ?_⟩
    · have hz : n f % bs = 0 := by omega
      have er : restOf fr bs (n f) = 0 := by
        unfold restOf
        split
        · rfl
        · exact hz
      have ec : cntB fr bs (n f) = n f / bs := by
        refine cntB_eq hb (by omega) ?_
        by_cases hw : n f / bs = 0
        · exact Or.inl hw
        · right
          have e9 : n f / bs * bs = (n f / bs - 1) * bs + bs := by
            rw [← Nat.succ_mul]
            congr 1
            omega
          omega
      refine hP iv av q2 ?_
      unfold sFile
      rw [if_neg (by omega), emid, ec]
      exact q3
    · have hfr : ¬ fr = 0 := fun h0 => by
        rw [if_pos ⟨h0, by omega⟩] at hown
        omega
      have er : restOf fr bs (n f) = n f % bs := by unfold restOf; rw [if_neg hfr]
      have hrp : 0 < restOf fr bs (n f) := by omega
      obtain ⟨_, _, ec, ex⟩ := restOf_pos hb hrp
      unfold sFile at hP
      rw [if_pos hrp, emid, ec, er] at hP
      have mok := mid_ok (pk := pk) (fr := fr) (B := B f) hJ h1 h2 hTf
      rw [emid, ec, er] at mok
      obtain ⟨m1, m2, m3, m4⟩ := mok
      generalize hS1 : sBlks pk f (B f) bs (n f) (n f / bs) (sOpen f (n f) beg S) = S1 at *
      obtain ⟨⟨t1, t2, t3, t4⟩, t5, t6⟩ := id m1
      have e22 := q3.2.2.2.1.1
      rw [e22]
      have hDD : ∀ av9 : IVt, av9 77 = av 77 → ∀ i, i < n f % bs → av9 77 (at0 + x + i) = B f (n f - n f % bs + i) := fun av9 e9 i hi => by
        rw [e9, show at0 + x + i = at0 + (n f - n f % bs + i) by omega]
        have := f2 f hf (n f - n f % bs + i) (by omega)
        rw [hat, Int.toNat_natCast] at this
        exact this
      refine fun _ => ⟨by omega, fun hfit => fun _ => ?_, fun hfull => ?_⟩
      · have er2 : sRoom pk bs (n f % bs) S1 = S1 := by unfold sRoom; rw [if_neg (by omega)]
        rw [er2] at hP
        refine l_X13_putFile_217 (iv0 := iv) (av0 := up2 (up2 av 82 f (iv 73 18)) 83 f ((pH S1).1 : Int)) (F := at0 + x) (rest := n f % bs) (H := (pH S1).1) C (by omega) (hDD _ rfl) f3 (by omega) (fun iv' av' j1 j2 j3 j4 j5 => ?_) (n f % bs) 0 iv _ (by omega) (OffM.rf _ _ _) (Off.rf _ _) (by rw [e22]; rfl) (fun _ _ => rfl) (fun j hj => absurd hj (Nat.not_lt_zero _))
        exact hP iv' av' (q2.tr ⟨j1.mono (by decide) (by decide), (((Off.rf _ _).up (by decide)).up (by decide)).tr (j2.mono (by decide))⟩) (q3.joi j1 (by rw [e22]; exact j2) j3 j4 j5)
      · have er2 : sRoom pk bs (n f % bs) S1 = sClose pk S1 := by unfold sRoom; rw [if_pos (by omega)]
        rw [er2] at hP
        have c0 := close_N (pk := pk) (S := S1)
        refine OkN.mono (s_X13_closeFragment (S := S1) (pk := pk) q8 e7 q3 (by omega) (by omega) (fun h0 => by rw [if_neg (by omega)] at t3; omega)) ?_
        rintro r1 iv1 av1 hR1 ⟨j1, j2⟩
        have e22' := j2.2.2.2.1.1
        rw [e22']
        refine fun _ _ => ?_
        have e77 : av1 77 = av 77 := j1.2 77 (by decide)
        refine l_X13_putFile_217 (iv0 := iv1) (av0 := up2 (up2 av1 82 f (iv1 73 18)) 83 f ((pH (sClose pk S1)).1 : Int)) (F := at0 + x) (rest := n f % bs) (H := (pH (sClose pk S1)).1) C (by omega) (hDD _ e77) (by intro i; show -128 ≤ av1 77 i ∧ av1 77 i ≤ 127; rw [e77]; exact f3 i) (by omega) (fun iv' av' l1 l2 l3 l4 l5 => ?_) (n f % bs) 0 iv1 _ (by omega) (OffM.rf _ _ _) (Off.rf _ _) (by rw [e22']; rfl) (fun _ _ => rfl) (fun j hj => absurd hj (Nat.not_lt_zero _))
        exact hP iv' av' ((q2.tr j1).tr ⟨l1.mono (by decide) (by decide), (((Off.rf _ _).up (by decide)).up (by decide)).tr (l2.mono (by decide))⟩) (j2.joi l1 (by rw [e22']; exact l2) l3 l4 l5)
    · have hc0 : fr = 0 ∧ 0 < n f % bs := by
        by_cases hc : fr = 0 ∧ 0 < n f % bs
        · exact hc
        · rw [if_neg hc] at hown
          omega
      have er : restOf fr bs (n f) = 0 := by unfold restOf; rw [if_pos hc0.1]
      have ec : cntB fr bs (n f) = n f / bs + 1 := by
        refine cntB_eq hb ?_ (Or.inr ?_)
        · rw [Nat.succ_mul, hx]
          omega
        · rw [Nat.add_sub_cancel, hx]
          omega
      unfold sFile at hP
      rw [if_neg (by omega), emid, ec] at hP
      have enx : sBlks pk f (B f) bs (n f) (n f / bs + 1) (sOpen f (n f) beg S) = sBlk pk f (fun i => B f (n f / bs * bs + i)) (min bs (n f - n f / bs * bs)) (sBlks pk f (B f) bs (n f) (n f / bs) (sOpen f (n f) beg S)) := rfl
      rw [enx, hx, show min bs (n f - x) = n f % bs by omega] at hP
      generalize hS1 : sBlks pk f (B f) bs (n f) (n f / bs) (sOpen f (n f) beg S) = S1 at *
      obtain ⟨⟨a1, a2, a3⟩, ⟨b1, b2⟩, b3, ⟨d1, d2, d3, d4, d5, d6, d7, d8⟩, e1, e2⟩ := hmd
      refine ⟨by omega, ?_⟩
      rw [show (at0 : Int) + (x : Int) = ((at0 + x : Nat) : Int) by omega]
      refine OkN.mono (s_X13_putBlock (S := S1) (pk := pk) (F := at0 + x) (b := n f % bs) (D := fun i => B f (x + i)) hf (by omega) (by omega) (fun i hi => ?_) f3 e7 q3 (by omega) (by omega) (by omega) (by omega)) ?_
      · have := f2 f hf (x + i) (by omega)
        rw [hat, Int.toNat_natCast, ← Nat.add_assoc] at this
        exact this
      · rintro r1 iv1 av1 hR1 ⟨j1, j2⟩
        exact hP iv1 av1 (q2.tr j1) j2
  | succ d ih =>
    intro k iv av q1 q2 q8 q3
    have hFl1 := hFl.pt q2
    obtain ⟨f1, f2, f3⟩ := id hFl1
    have g1 := f1 f hf
    obtain ⟨at0, hat⟩ := Int.eq_ofNat_of_zero_le g1.2.1
    have e6 : iv 73 6 = bs := (q2.1.2 6 (by decide)).trans h6
    have e7 : iv 73 7 = pk := (q2.1.2 7 (by decide)).trans h7
    have hmul : (k : Int) * (bs : Int) = ((k * bs : Nat) : Int) := (Int.natCast_mul _ _).symm
    have hkb : k * bs + bs ≤ n f := by
      have := Nat.mul_le_mul_right bs (show k + 1 ≤ n f / bs by omega)
      rw [Nat.succ_mul] at this
      omega
    have hmd := md_all (S0 := S) (f := f) (n := n f) (beg := beg) (pk := pk) (B := B f) h2 k fun k' hk => by
      have := Nat.mul_le_mul_right bs (show k' + 1 ≤ k by omega)
      rw [Nat.succ_mul] at this
      omega
    have hk4 := Nat.mul_le_mul_left k h1
    have enx : sBlks pk f (B f) bs (n f) (k + 1) (sOpen f (n f) beg S) = sBlk pk f (fun i => B f (k * bs + i)) (min bs (n f - k * bs)) (sBlks pk f (B f) bs (n f) k (sOpen f (n f) beg S)) := rfl
    have hih := fun iv9 av9 => ih (k + 1) iv9 av9 (by omega)
    rw [enx] at hih
    clear ih enx
    generalize hS1 : sBlks pk f (B f) bs (n f) k (sOpen f (n f) beg S) = S1 at *
    obtain ⟨⟨a1, a2, a3⟩, ⟨b1, b2⟩, b3, ⟨d1, d2, d3, d4, d5, d6, d7, d8⟩, e1, e2⟩ := hmd
    refine w_X13_putFile_107 C (by omega) (by omega) (by omega) (by omega) (by omega) ⟨fun g => absurd g (by omega), fun _ => ⟨by omega, ?_⟩⟩
    rw [efi, e6, hmul, hat]
    generalize hx : k * bs = x at *
    rw [show min bs (n f - x) = bs by omega] at hih
    refine fun _ _ => ⟨by omega, ?_⟩
    rw [show (at0 : Int) + (x : Int) = ((at0 + x : Nat) : Int) by omega, show (k : Int) + 1 = ((k + 1 : Nat) : Int) by omega]
    refine OkN.mono (s_X13_putBlock (S := S1) (pk := pk) (F := at0 + x) (b := bs) (D := fun i => B f (x + i)) hf (by omega) (by omega) (fun i hi => ?_) f3 e7 q3 (by omega) (by omega) (by omega) (by omega)) ?_
    · have := f2 f hf (x + i) (by omega)
      rw [hat, Int.toNat_natCast, ← Nat.add_assoc] at this
      exact this
    · rintro r1 iv1 av1 hR1 ⟨j1, j2⟩
      exact hih iv1 av1 (q2.tr j1) (rng88 hR1) j2
theorem s_X13_putFile (hf : f < 64) (hJ : pJ bs n f S) (h1 : 4096 ≤ bs) (h2 : bs ≤ 65536) (hT : sT n 64 ≤ 65536) (hFl : rFl av n B) (h6 : iv 73 6 = bs) (h7 : iv 73 7 = pk) (h8 : iv 73 8 = fr) (h78 : av 78 f = n f) (h88 : ∀ i, -128 ≤ av 88 i ∧ av 88 i ≤ 127) (hc : rRp iv av S f) : OkN Y (e + 22) mX13_putFile [.ref (gl_b Y + 73), .int (i32 (f : Int))] RV iv av 116
    (fun r iv' av' => rtF iv av iv' av' ∧ rRp iv' av' (sFile pk fr bs f (n f) (B f) S) (f + 1)) := by
  have hb : 0 < bs := by omega
  have hTf : sT n f + n f ≤ 65536 := Nat.le_trans (sT_le (show f + 1 ≤ 64 by omega)) hT
  have hdm := Nat.div_add_mod (n f) bs
  have hml := Nat.mod_lt (n f) hb
  have hwl : n f / bs ≤ n f := Nat.div_le_self _ _
  have efi : (f : Int).toNat = f := Int.toNat_natCast f
  have hmd : ((n f : Int) % (bs : Int)) = ((n f % bs : Nat) : Int) := (Int.natCast_emod (n f) bs).symm
  have hdv : ((n f : Int) / (bs : Int)) = ((n f / bs : Nat) : Int) := (Int.natCast_ediv (n f) bs).symm
  have hwn : (0 : Int) ≤ (n f : Int) / (bs : Int) := by rw [hdv]; exact Int.natCast_nonneg _
  have e76 := (hFl.1 f hf).1
  have main : ∀ X : Cx, CX Y X RX13 "putFile" cX13_putFile 7 none (e + 22) 0 0 → ∀ own beg : Int, own = (if fr = 0 ∧ 0 < n f % bs then 1 else 0) → beg = (if 0 < n f - restOf fr bs (n f) then ((pR S).1 : Int) else 0) → L_X13_putFile_107 Y X (fun r iv' av' => rtF iv av iv' av' ∧ rRp iv' av' (sFile pk fr bs f (n f) (B f) S) (f + 1)) f ((n f / bs : Nat) : Int) ((n f % bs : Nat) : Int) own 0 iv (up2 (up2 (up2 (up2 (up2 (up2 av 80 f (iv 73 16)) 81 f 0) 84 f 0) 79 f beg) 82 f (-2)) 83 f 0) := by
    intro X C own beg ho hbe
    subst hbe
    exact l_X13_putFile_107 (iv0 := iv) (av0 := av) (B := B) (S := S) (n := n) (pk := pk) (fr := fr) C hf hJ h1 h2 hT hFl h6 h7 ho (fun iv' av' g1 g2 => ⟨g1, g2⟩) (n f / bs) 0 iv _ (by omega) ⟨OffM.rf _ _ _, ((((((Off.rf _ _).up (by decide)).up (by decide)).up (by decide)).up (by decide)).up (by decide)).up (by decide)⟩ h88 (hc.opn h78)
  refine o_X13_putFile fun X C => ⟨by omega, ?_⟩
  rw [efi, e76, h6, h8, hmd, hdv, hc.1.1]
  have hwp : n f / bs = 0 ∨ bs ≤ bs * (n f / bs) := by
    by_cases h0 : n f / bs = 0
    · exact Or.inl h0
    · right
      have := Nat.mul_le_mul_left bs (show 1 ≤ n f / bs by omega)
      omega
  have hw0 : n f / bs = 0 → bs * (n f / bs) = 0 := fun h => by rw [h, Nat.mul_zero]
  refine fun _ _ => ⟨by omega, by omega, fun _ => ⟨fun hfr => fun _ => ⟨by omega, fun hw => fun _ => ?_, fun hw => ?_⟩, fun hfr => ⟨by omega, fun hr0 => fun _ => ⟨by omega, fun hw => fun _ => ?_, fun hw => ?_⟩, fun hr0 => fun _ => ⟨by omega, fun hw => fun _ => ?_, fun hw => fun _ => ?_⟩⟩⟩⟩
  · have er : restOf fr bs (n f) = n f % bs := by unfold restOf; rw [if_neg hfr]
    exact main X C 0 _ (by rw [if_neg fun h => hfr h.1]) (by rw [er, if_pos (by omega)])
  · have er : restOf fr bs (n f) = n f % bs := by unfold restOf; rw [if_neg hfr]
    have := hw0 (by omega)
    exact main X C 0 _ (by rw [if_neg fun h => hfr h.1]) (by rw [er, if_neg (by omega)])
  · have er : restOf fr bs (n f) = 0 := by unfold restOf; rw [if_pos hfr]
    exact main X C 0 _ (by rw [if_neg (by omega)]) (by rw [er, if_pos (by omega)])
  · have er : restOf fr bs (n f) = 0 := by unfold restOf; rw [if_pos hfr]
    have := hw0 (by omega)
    exact main X C 0 _ (by rw [if_neg (by omega)]) (by rw [er, if_neg (by omega)])
  · have er : restOf fr bs (n f) = 0 := by unfold restOf; rw [if_pos hfr]
    exact main X C 1 _ (by rw [if_pos (by omega)]) (by rw [er, if_pos (by omega)])
  · have er : restOf fr bs (n f) = 0 := by unfold restOf; rw [if_pos hfr]
    exact main X C 1 _ (by rw [if_pos (by omega)]) (by rw [er, if_pos (by omega)])
theorem l_X13_put (C : CX Y X RX13 "put" cX13_put 6 (some .int) (e + 23) 0 0) (h1 : 4096 ≤ bs) (h2 : bs ≤ 65536) (hT : sT n 64 ≤ 65536) {iv0 av0 : IVt} (hFl : rFl av0 n B) (h6 : iv0 73 6 = bs) (h7 : iv0 73 7 = pk) (h8 : iv0 73 8 = fr) {P : PN} (hP : ∀ iv' av', rtF iv0 av0 iv' av' → rRp iv' av' (sEnd pk fr bs n B) 64 → P ((pR (sEnd pk fr bs n B)).1 : Int) iv' av') :
    ∀ (d f : Nat) (iv av : IVt), f + d = 64 → rtF iv0 av0 iv av → (∀ i, -128 ≤ av 88 i ∧ av 88 i ≤ 127) → rRp iv av (sPut pk fr bs n B f) f → L_X13_put_54 Y X P f iv av := by
  intro d
  induction d with
  | zero =>
    intro f iv av q1 q2 q8 q3
    have ef : f = 64 := by omega
    subst ef
    have hJ := pJ_put (n := n) (pk := pk) (fr := fr) (B := B) h1 h2 64 hT
    unfold sEnd at hP
    generalize hS : sPut pk fr bs n B 64 = S1 at *
    obtain ⟨⟨s1, s2, s3, s4⟩, s5, s6⟩ := hJ.1
    refine w_X13_put_54 C (by omega) ⟨fun _ => OkN.mono (s_X13_closeFragment (S := S1) (pk := pk) q8 ((q2.1.2 7 (by decide)).trans h7) q3 (by omega) (by omega) (fun h0 => by rw [if_neg (by omega)] at s3; omega)) ?_, fun g => absurd g (by omega)⟩
    rintro r1 iv1 av1 hR1 ⟨j1, j2⟩
    rw [j2.1.1]
    exact fun _ => hP iv1 av1 (q2.tr j1) j2
  | succ d ih =>
    intro f iv av q1 q2 q8 q3
    have hf : f < 64 := by omega
    have hTf : sT n f + n f ≤ 65536 := Nat.le_trans (sT_le (show f + 1 ≤ 64 by omega)) hT
    have hJ := pJ_put (n := n) (pk := pk) (fr := fr) (B := B) h1 h2 f (by omega)
    have hw := twP n B f
    have enx : sPut pk fr bs n B (f + 1) = if twn n B f < 0 then sFile pk fr bs f (n f) (B f) (sPut pk fr bs n B f) else sShare f (twn n B f).toNat (n f) (sPut pk fr bs n B f) := rfl
    have hih := fun iv9 av9 => ih (f + 1) iv9 av9 (by omega)
    rw [enx] at hih
    clear ih enx
    generalize hS : sPut pk fr bs n B f = S0 at *
    have hFl1 := hFl.pt q2
    have efi : (f : Int).toNat = f := Int.toNat_natCast f
    have e76 := (hFl1.1 f hf).1
    refine w_X13_put_54 C (by omega) ⟨fun g => absurd g (by omega), fun _ => OkN.mono (s_X13_twin hFl1 hf) ?_⟩
    generalize htw : twn n B f = tw at *
    rintro r1 iv1 av1 hR1 ⟨rfl, rfl, rfl⟩ _
    refine ⟨by omega, ?_⟩
    rw [efi, e76, show (f : Int) + 1 = ((f + 1 : Nat) : Int) by omega]
    refine fun _ => ⟨fun hpos => ?_, fun hneg => ?_⟩
    · rw [if_neg (by omega)] at hih
      rcases hw with ⟨e1, _⟩ | ⟨o, e1, g1, g2, g3, g4⟩
      · omega
      · rw [e1, Int.toNat_natCast] at hih ⊢
        refine ⟨by omega, fun _ _ _ _ _ _ => ?_⟩
        exact hih iv1 _ (q2.tr ⟨OffM.rf _ _ _, (((((((Off.rf _ _).up (by decide)).up (by decide)).up (by decide)).up (by decide)).up (by decide)).up (by decide)).up (by decide)⟩) q8 (q3.shr g1)
    · rw [if_pos (by omega)] at hih
      have o78 : Off [78, 79, 80, 81, 82, 83, 84, 85, 86, 87, 88, 89, 93, 94, 95, 96, 97, 98, 99, 100, 101, 102, 103, 104, 105, 106, 107, 108] av1 (up2 av1 78 f (n f : Int)) := (Off.rf _ _).up (by decide)
      have q3' : rRp iv1 (up2 av1 78 f (n f : Int)) S0 f := by
        obtain ⟨a, b, c, d', ee⟩ := q3
        refine ⟨a, b, c, d', fun t ht => (ee t ht).cg (fun k hk => ?_) fun _ => rfl⟩
        rw [up2_app, if_neg (by omega)]
      refine OkN.mono (s_X13_putFile (S := S0) (pk := pk) (fr := fr) hf hJ h1 h2 hT (hFl1.pt (iv := iv1) (iv' := iv1) ⟨OffM.rf _ _ _, o78⟩) ((q2.1.2 6 (by decide)).trans h6) ((q2.1.2 7 (by decide)).trans h7) ((q2.1.2 8 (by decide)).trans h8) (up2_eq _ _ _ _) q8 q3') ?_
      rintro r2 iv2 av2 hR2 ⟨j1, j2⟩
      exact hih iv2 av2 ((q2.tr ⟨OffM.rf _ _ _, o78⟩).tr j1) (rng88 hR2) j2
end SRPut2
