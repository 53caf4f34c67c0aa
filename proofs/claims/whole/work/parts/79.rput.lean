/-! The reference puts blocks and fragments. -/
abbrev rtF (iv av iv' av' : IVt) : Prop := OffM [] [16, 18, 22, 23, 31, 34, 45] iv iv' ∧ Off [78, 79, 80, 81, 82, 83, 84, 85, 86, 87, 88, 89, 93, 94, 95, 96, 97, 98, 99, 100, 101, 102, 103, 104, 105, 106, 107, 108] av av'
theorem rtF.tr {a b c d x y : IVt} (h : rtF a b c d) (g : rtF c d x y) : rtF a b x y := ⟨h.1.tr g.1, h.2.tr g.2⟩
theorem rtF.rf (a b : IVt) : rtF a b a b := ⟨OffM.rf _ _ _, Off.rf _ _⟩
/-- a file's facts in the reference's rows -/
def rFc (av : IVt) (S : PS) (t : Nat) : Prop := av 78 t = pF S t 1 ∧ av 79 t = pF S t 2 ∧ av 81 t = pF S t 3 ∧ av 82 t = pF S t 4 ∧ av 83 t = pF S t 5 ∧ av 84 t = pF S t 6 ∧ av 80 t = pF S t 7
def rRp (iv av : IVt) (S : PS) (f : Nat) : Prop := (iv 73 23 = (pR S).1 ∧ ∀ j, j < (pR S).1 → av 89 j = (pR S).2 j) ∧ (iv 73 16 = (pN S).1 ∧ ∀ j, j < (pN S).1 → av 85 j = (pN S).2 j) ∧ (iv 73 18 = (pG S).1 ∧ ∀ j, j < (pG S).1 → av 86 j = (pG S).2.1 j ∧ av 87 j = (pG S).2.2 j) ∧ (iv 73 22 = (pH S).1 ∧ ∀ j, j < (pH S).1 → av 88 j = (pH S).2 j) ∧ ∀ t, t < f → rFc av S t
/-- the files' bytes, as the reference has them -/
def rFl (av : IVt) (n : Nat → Nat) (B : Nat → Nat → Int) : Prop := (∀ t, t < 64 → av 76 t = n t ∧ 0 ≤ av 75 t ∧ av 75 t + n t ≤ 65536) ∧ (∀ t, t < 64 → ∀ j, j < n t → av 77 ((av 75 t).toNat + j) = B t j) ∧ ∀ j, -128 ≤ av 77 j ∧ av 77 j ≤ 127
theorem rFl.pt {iv av iv' av' : IVt} {n : Nat → Nat} {B : Nat → Nat → Int} (h : rFl av n B) (o : rtF iv av iv' av') : rFl av' n B := by
  unfold rFl at *
  rw [o.2 76 (by decide), o.2 75 (by decide), o.2 77 (by decide)]
  exact h
theorem rng88 {iv av : IVt} (h : Rng iv av) (i : Nat) : -128 ≤ av 88 i ∧ av 88 i ≤ 127 := by
  have h := h.2 88 i
  unfold tyR at h
  rw [show kc 88 = 101 from rfl, if_pos rfl] at h
  exact h
theorem rng77 {iv av : IVt} (h : Rng iv av) (i : Nat) : -128 ≤ av 77 i ∧ av 77 i ≤ 127 := by
  have h := h.2 77 i
  unfold tyR at h
  rw [show kc 77 = 101 from rfl, if_pos rfl] at h
  exact h
theorem ap1_rows {g : Nat → Int} {r : Nat × (Nat → Int)} {v : Int} {k : Nat} (hk : k = r.1) (h : ∀ j, j < r.1 → g j = r.2 j) : ∀ j, j < (ap1 r v).1 → (if j = k then v else g j) = (ap1 r v).2 j := by
  intro j hj
  have hj' : j < r.1 + 1 := hj
  show _ = if j = r.1 then v else r.2 j
  rw [hk]
  split
  · rfl
  · exact h j (by omega)
theorem rRp.zer {iv av : IVt} {S : PS} {f b : Nat} {pk : Int} {D : Nat → Int} (h : rRp iv av S (f + 1)) (hz : ZD D b) : rRp (up2 iv 73 16 (iv 73 16 + 1)) (up2 (up2 (up2 av 84 f (av 84 f + b)) 85 (iv 73 16).toNat 0) 81 f (av 81 f + 1)) (sBlk pk f D b S) (f + 1) := by
  obtain ⟨⟨a1, a2⟩, ⟨b1, b2⟩, ⟨c1, c2⟩, ⟨d1, d2⟩, ee⟩ := h
  unfold sBlk
  rw [cif_pos hz]
  have ef := ee f (by omega)
  refine ⟨⟨a1, a2⟩, ⟨?_, ?_⟩, ⟨c1, c2⟩, ⟨d1, d2⟩, fun t ht => ?_⟩
  · rw [up2_eq, b1]
    show _ = (((pN S).1 + 1 : Nat) : Int)
    omega
  · exact ap1_rows (by omega) b2
  · obtain ⟨g1, g2, g3, g4, g5, g6, g7⟩ := ee t ht
    refine ⟨?_, ?_, ?_, ?_, ?_, ?_, ?_⟩
    · show _ = stF _ _ _ _ _ _
      rw [stF_ne (Or.inr (by omega)), stF_ne (Or.inr (by omega))]
      exact g1
    · show _ = stF _ _ _ _ _ _
      rw [stF_ne (Or.inr (by omega)), stF_ne (Or.inr (by omega))]
      exact g2
    · show _ = stF _ _ _ _ _ _
      rw [stF_ne (Or.inr (by omega))]
      show (if t = f then av 81 f + 1 else av 81 t) = if t = f ∧ 3 = 3 then pF S f 3 + 1 else pF S t 3
      by_cases he : t = f
      · rw [if_pos he, if_pos ⟨he, rfl⟩, ef.2.2.1]
      · rw [if_neg he, if_neg fun h => he h.1]
        exact g3
    · show _ = stF _ _ _ _ _ _
      rw [stF_ne (Or.inr (by omega)), stF_ne (Or.inr (by omega))]
      exact g4
    · show _ = stF _ _ _ _ _ _
      rw [stF_ne (Or.inr (by omega)), stF_ne (Or.inr (by omega))]
      exact g5
    · show (if t = f then av 84 f + b else av 84 t) = if t = f ∧ 6 = 6 then pF S f 6 + b else stF (pF S) f 3 (pF S f 3 + 1) t 6
      by_cases he : t = f
      · rw [if_pos he, if_pos ⟨he, rfl⟩, ef.2.2.2.2.2.1]
      · rw [if_neg he, if_neg fun h => he h.1, stF_ne (Or.inr (by omega))]
        exact g6
    · show _ = stF _ _ _ _ _ _
      rw [stF_ne (Or.inr (by omega)), stF_ne (Or.inr (by omega))]
      exact g7
theorem rRp.blk {iv av iv1 av1 : IVt} {S : PS} {f b : Nat} {pk : Int} {D : Nat → Int} (h : rRp iv av S (f + 1)) (hz : ¬ ZD D b) (o1 : OffM [] [23, 31, 34, 45] iv iv1) (o2 : Off [89, 93, 94, 95, 96, 97, 98, 99, 100, 101, 102, 103, 104, 105, 106, 107, 108] av av1) (e1 : iv1 73 23 = (((pR S).1 + sLen pk D b : Nat) : Int)) (e2 : ∀ j, j < (pR S).1 → av1 89 j = av 89 j) (e3 : ∀ j, j < sLen pk D b → av1 89 ((pR S).1 + j) = sByt pk D b j) : rRp (up2 iv1 73 16 (iv1 73 16 + 1)) (up2 (up2 av1 85 (iv 73 16).toNat (sNum pk D b)) 81 f (av1 81 f + 1)) (sBlk pk f D b S) (f + 1) := by
  obtain ⟨⟨a1, a2⟩, ⟨b1, b2⟩, ⟨c1, c2⟩, ⟨d1, d2⟩, ee⟩ := h
  unfold sBlk
  rw [cif_neg hz]
  have ef := ee f (by omega)
  have q : ∀ k, k ∉ [89, 93, 94, 95, 96, 97, 98, 99, 100, 101, 102, 103, 104, 105, 106, 107, 108] → av1 k = av k := o2
  refine ⟨⟨e1, apR_rows a2 e2 e3⟩, ⟨?_, ?_⟩, ⟨?_, fun j hj => ?_⟩, ⟨?_, fun j hj => ?_⟩, fun t ht => ?_⟩
  · rw [up2_eq, o1.2 16 (by decide), b1]
    show _ = (((pN S).1 + 1 : Nat) : Int)
    omega
  · refine ap1_rows (by omega) fun j hj => ?_
    rw [q 85 (by decide)]
    exact b2 j hj
  · show iv1 73 18 = _
    rw [o1.2 18 (by decide)]
    exact c1
  · show av1 86 j = _ ∧ av1 87 j = _
    rw [q 86 (by decide), q 87 (by decide)]
    exact c2 j hj
  · show iv1 73 22 = _
    rw [o1.2 22 (by decide)]
    exact d1
  · show av1 88 j = _
    rw [q 88 (by decide)]
    exact d2 j hj
  · obtain ⟨g1, g2, g3, g4, g5, g6, g7⟩ := ee t ht
    refine ⟨?_, ?_, ?_, ?_, ?_, ?_, ?_⟩
    · show _ = stF _ _ _ _ _ _
      rw [stF_ne (Or.inr (by omega))]
      show av1 78 t = _
      rw [q 78 (by decide)]
      exact g1
    · show _ = stF _ _ _ _ _ _
      rw [stF_ne (Or.inr (by omega))]
      show av1 79 t = _
      rw [q 79 (by decide)]
      exact g2
    · show (if t = f then av1 81 f + 1 else av1 81 t) = if t = f ∧ 3 = 3 then pF S f 3 + 1 else pF S t 3
      rw [q 81 (by decide)]
      by_cases he : t = f
      · rw [if_pos he, if_pos ⟨he, rfl⟩, ef.2.2.1]
      · rw [if_neg he, if_neg fun h => he h.1]
        exact g3
    · show _ = stF _ _ _ _ _ _
      rw [stF_ne (Or.inr (by omega))]
      show av1 82 t = _
      rw [q 82 (by decide)]
      exact g4
    · show _ = stF _ _ _ _ _ _
      rw [stF_ne (Or.inr (by omega))]
      show av1 83 t = _
      rw [q 83 (by decide)]
      exact g5
    · show _ = stF _ _ _ _ _ _
      rw [stF_ne (Or.inr (by omega))]
      show av1 84 t = _
      rw [q 84 (by decide)]
      exact g6
    · show _ = stF _ _ _ _ _ _
      rw [stF_ne (Or.inr (by omega))]
      show av1 80 t = _
      rw [q 80 (by decide)]
      exact g7
section SRPut
variable {Y : Gl} {X : Cx} {e : Nat} {iv av : IVt} {bs f : Nat} {n : Nat → Nat} {B : Nat → Nat → Int} {pk fr : Int} {S : PS}
theorem l_X13_twin40 (C : CX Y X RX13 "twin" cX13_twin 5 (some .int) e 0 0) (hFl : rFl av n B) (hf : f < 64) {k : Nat} (hk : k < f) {P : PN} (hY : TwE n B k f → P k iv av) (hNo : ¬ TwE n B k f → L_X13_twin_2 Y X P f ((k : Int) + 1) iv av) : ∀ (d i : Nat) (z : Int), i + d = n f → ((z = 1 ∧ n k = n f ∧ ∀ j, j < i → B k j = B f j) ∨ (z = 0 ∧ ¬ TwE n B k f)) → L_X13_twin_40 Y X P f k z i iv av := by
  obtain ⟨h1, h2, h3⟩ := hFl
  have nf := h1 f hf
  have nk := h1 k (by omega)
  have efi : (f : Int).toNat = f := Int.toNat_natCast f
  have eki : (k : Int).toNat = k := Int.toNat_natCast k
  intro d
  induction d with
  | zero =>
    intro i z q1 q2
    refine w_X13_twin_40 C (by omega) (by omega) (by omega) ⟨by omega, ?_⟩
    rw [efi, nf.1]
    refine fun _ => ⟨fun _ => ⟨fun hz => ?_, fun hz => ?_⟩, fun g => absurd g (by omega)⟩
    · rcases q2 with ⟨g, _⟩ | ⟨_, g⟩
      · omega
      · exact hNo g
    · rcases q2 with ⟨_, g1, g2⟩ | ⟨g, _⟩
      · exact hY ⟨g1, fun j hj => g2 j (by omega)⟩
      · exact absurd g hz
  | succ d ih =>
    intro i z q1 q2
    refine w_X13_twin_40 C (by omega) (by omega) (by omega) ⟨by omega, ?_⟩
    rw [efi, eki, nf.1]
    refine fun _ => ⟨fun g => absurd g (by omega), fun _ => ⟨fun hz => ⟨fun _ => ?_, fun g => absurd hz g⟩, fun hz => ?_⟩⟩
    · rcases q2 with ⟨g, _⟩ | ⟨_, g⟩
      · omega
      · exact hNo g
    · rcases q2 with ⟨_, g1, g2⟩ | ⟨g, _⟩
      · refine ⟨by omega, fun _ => ⟨by omega, fun _ _ => ⟨by omega, ?_⟩⟩⟩
        rw [show (av 75 k + (i : Int)).toNat = (av 75 k).toNat + i by omega, show (av 75 f + (i : Int)).toNat = (av 75 f).toNat + i by omega, h2 k (by omega) i (by omega), h2 f hf i (by omega), show (i : Int) + 1 = ((i + 1 : Nat) : Int) by omega]
        refine fun _ => ⟨fun hne => ih (i + 1) 0 (by omega) (Or.inr ⟨rfl, fun ht => hne (ht.2 i (by omega))⟩), fun heq => ih (i + 1) 1 (by omega) (Or.inl ⟨rfl, g1, fun j hj => ?_⟩)⟩
        by_cases hji : j = i
        · rw [hji]
          exact heq
        · exact g2 j (by omega)
      · exact absurd g hz
theorem s_X13_twin (hFl : rFl av n B) (hf : f < 64) : OkN Y e mX13_twin [.ref (gl_b Y + 73), .int (i32 (f : Int))] RV iv av 116 (Same iv av (twn n B f)) := by
  obtain ⟨h1, h2, h3⟩ := id hFl
  have nf := h1 f hf
  have efi : (f : Int).toNat = f := Int.toNat_natCast f
  refine o_X13_twin fun X C => ?_
  have fin : ∀ t : Int, TwP n B f t → Same iv av (twn n B f) t iv av := fun t ht => ⟨(twn_of ht).symm, rfl, rfl⟩
  have lp : ∀ (d k : Nat), k + d = f → (∀ o, o < k → ¬ TwE n B o f) → L_X13_twin_2 Y X (Same iv av (twn n B f)) f k iv av := by
    intro d
    induction d with
    | zero =>
      intro k q1 q2
      exact w_X13_twin_2 C (by omega) (by omega) ⟨fun _ => fin _ (Or.inl ⟨rfl, Or.inr fun o ho => q2 o (by omega)⟩), fun g => absurd g (by omega)⟩
    | succ d ih =>
      intro k q1 q2
      have nk := h1 k (by omega)
      have eki : (k : Int).toNat = k := Int.toNat_natCast k
      refine w_X13_twin_2 C (by omega) (by omega) ⟨fun g => absurd g (by omega), fun _ => ⟨by omega, ?_⟩⟩
      rw [efi, nf.1]
      refine fun _ => ⟨fun g => fin _ (Or.inl ⟨rfl, Or.inl (by omega)⟩), fun g => ⟨by omega, ?_⟩⟩
      rw [eki, nk.1]
      have hY : TwE n B k f → Same iv av (twn n B f) k iv av := fun ht => fin _ (Or.inr ⟨k, rfl, by omega, by omega, ht, q2⟩)
      have hNo : ¬ TwE n B k f → L_X13_twin_2 Y X (Same iv av (twn n B f)) f ((k : Int) + 1) iv av := fun hn => by
        rw [show (k : Int) + 1 = ((k + 1 : Nat) : Int) by omega]
        refine ih (k + 1) (by omega) fun o ho => ?_
        by_cases hok : o = k
        · rw [hok]
          exact hn
        · exact q2 o (by omega)
      refine fun _ => ⟨fun hne => l_X13_twin40 C hFl hf (by omega) hY hNo (n f) 0 0 (by omega) (Or.inr ⟨rfl, fun ht => hne (by rw [ht.1])⟩), fun heq => l_X13_twin40 C hFl hf (by omega) hY hNo (n f) 0 1 (by omega) (Or.inl ⟨rfl, by omega, fun j hj => absurd hj (Nat.not_lt_zero _)⟩)⟩
  exact lp f 0 (by omega) fun o ho => absurd ho (Nat.not_lt_zero _)
theorem l_X13_putBlock (C : CX Y X RX13 "putBlock" cX13_putBlock 6 none (e + 21) 0 0) (hf : f < 64) {F b : Nat} (hF : F + b ≤ 65536) (hb1 : 1 ≤ b) {D : Nat → Int} (hD : ∀ i, i < b → av 77 (F + i) = D i) (h77 : ∀ i, -128 ≤ av 77 i ∧ av 77 i ≤ 127) (hpk : iv 73 7 = pk) (hc : rRp iv av S (f + 1)) (hN : (pN S).1 < 128) (h3 : 0 ≤ pF S f 3 ∧ pF S f 3 ≤ 1000) (h6 : 0 ≤ pF S f 6 ∧ pF S f 6 ≤ 65536) (hR : (pR S).1 + b ≤ 131072) {P : PN} (hP : ∀ iv' av', rtF iv av iv' av' → rRp iv' av' (sBlk pk f D b S) (f + 1) → P 0 iv' av') :
    ∀ (d i : Nat) (z : Int), i + d = b → ((z = 1 ∧ ∀ j, j < i → D j = 0) ∨ (z = 0 ∧ ¬ ZD D b)) → L_X13_putBlock_6 Y X P f F b z i iv av := by
  have k77 : kl 77 = 65536 := rfl
  obtain ⟨⟨a1, a2⟩, ⟨b1, b2⟩, ⟨c1, c2⟩, ⟨d1, d2⟩, ee⟩ := id hc
  obtain ⟨g1, g2, g3, g4, g5, g6, g7⟩ := ee f (by omega)
  have efi : (f : Int).toNat = f := Int.toNat_natCast f
  obtain ⟨t1, t2, t3⟩ := sAll_congr (pk := pk) (n := b) (D := fun i => av 77 (F + i)) (D' := D) hD
  have fin0 : ¬ ZD D b → OkN Y (e + 20) mX13_store [.ref (gl_b Y + 73), .ref (gl_b Y + 77), .int (i32 (F : Int)), .int (i32 (b : Int))] RV iv (up2 av 84 f (av 84 f)) 116 (fun r7 iv8 av9 =>
                (InR r7) → (0 ≤ (iv 73 16) ∧ (iv 73 16) < 128) ∧ ((InR (iv8 73 16)) → (InR ((iv8 73 16) + 1)) ∧ ((InR (av9 81 f)) → (InR ((av9 81 f) + 1)) ∧ P 0 (up2 iv8 73 16 ((iv8 73 16) + 1)) (up2 (up2 av9 85 ((iv 73 16).toNat) r7) 81 f ((av9 81 f) + 1))))) := by
    intro hz
    rw [up2_self]
    refine OkN.mono (s_X13_store (a := 77) (F := F) (n := b) (beg := (pR S).1) (pk := pk) (Or.inl rfl) hb1 (by omega) (by omega) hpk a1 hR h77) ?_
    rintro r1 iv1 av1 hR1 ⟨rfl, o1, o2, e1, e2, e3⟩ _
    rw [t3]
    rw [t1] at e1 e3
    have e16 : iv1 73 16 = iv 73 16 := o1.2 16 (by decide)
    have e81 : av1 81 = av 81 := o2 81 (by decide)
    refine ⟨by omega, fun _ => ⟨by rw [e16]; omega, fun _ => ⟨by rw [e81]; omega, ?_⟩⟩⟩
    refine hP _ _ ⟨(o1.mono (by decide) (by decide)).up (by decide), ((o2.mono (by decide)).up (by decide)).up (by decide)⟩ (hc.blk hz o1 o2 e1 e2 fun j hj => ?_)
    rw [e3 j hj]
    exact t2 j (by rw [t1]; exact hj)
  intro d
  induction d with
  | zero =>
    intro i z q1 q2
    refine w_X13_putBlock_6 C (by omega) (by omega) (by omega) (by omega) ⟨fun _ => ⟨fun hz => ⟨by omega, fun _ _ => ⟨fun _ => ?_, fun g => absurd hz g⟩⟩, fun hz => ⟨by omega, ?_⟩⟩, fun g => absurd g (by omega)⟩
    · rcases q2 with ⟨g, _⟩ | ⟨_, g⟩
      · omega
      · exact fin0 g
    · rcases q2 with ⟨_, g⟩ | ⟨g, _⟩
      · have hzd : ZD D b := fun j hj => g j (by omega)
        rw [efi]
        refine fun _ => ⟨by omega, fun _ => ⟨fun g => absurd g hz, fun _ => ⟨by omega, by omega, fun _ => ⟨by omega, ?_⟩⟩⟩⟩
        exact hP _ _ ⟨(OffM.rf _ _ _).up (by decide), (((Off.rf _ _).up (by decide)).up (by decide)).up (by decide)⟩ (hc.zer hzd)
      · exact absurd g hz
  | succ d ih =>
    intro i z q1 q2
    refine w_X13_putBlock_6 C (by omega) (by omega) (by omega) (by omega) ⟨fun g => absurd g (by omega), fun _ => ⟨fun hz => ⟨fun _ => ⟨by omega, fun _ _ => ⟨fun _ => ?_, fun g => absurd hz g⟩⟩, fun g => absurd hz g⟩, fun hz => ⟨by omega, ?_⟩⟩⟩
    · rcases q2 with ⟨g, _⟩ | ⟨_, g⟩
      · omega
      · exact fin0 g
    · rcases q2 with ⟨_, g⟩ | ⟨g, _⟩
      · rw [show ((F : Int) + (i : Int)).toNat = F + i by omega, hD i (by omega), show (i : Int) + 1 = ((i + 1 : Nat) : Int) by omega]
        refine fun _ => ⟨fun hne => ih (i + 1) 0 (by omega) (Or.inr ⟨rfl, fun h => hne (h i (by omega))⟩), fun heq => ih (i + 1) 1 (by omega) (Or.inl ⟨rfl, fun j hj => ?_⟩)⟩
        by_cases hji : j = i
        · rw [hji]
          exact heq
        · exact g j (by omega)
      · exact absurd g hz
theorem s_X13_putBlock (hf : f < 64) {F b : Nat} (hF : F + b ≤ 65536) (hb1 : 1 ≤ b) {D : Nat → Int} (hD : ∀ i, i < b → av 77 (F + i) = D i) (h77 : ∀ i, -128 ≤ av 77 i ∧ av 77 i ≤ 127) (hpk : iv 73 7 = pk) (hc : rRp iv av S (f + 1)) (hN : (pN S).1 < 128) (h3 : 0 ≤ pF S f 3 ∧ pF S f 3 ≤ 1000) (h6 : 0 ≤ pF S f 6 ∧ pF S f 6 ≤ 65536) (hR : (pR S).1 + b ≤ 131072) : OkN Y (e + 21) mX13_putBlock [.ref (gl_b Y + 73), .int (i32 (f : Int)), .int (i32 (F : Int)), .int (i32 (b : Int))] RV iv av 116
    (fun r iv' av' => rtF iv av iv' av' ∧ rRp iv' av' (sBlk pk f D b S) (f + 1)) :=
  o_X13_putBlock fun X C => l_X13_putBlock C hf hF hb1 hD h77 hpk hc hN h3 h6 hR (fun iv' av' g1 g2 => ⟨g1, g2⟩) b 0 1 (by omega) (Or.inl ⟨rfl, fun j hj => absurd hj (Nat.not_lt_zero _)⟩)
theorem s_X13_closeFragment (h88 : ∀ i, -128 ≤ av 88 i ∧ av 88 i ≤ 127) (hpk : iv 73 7 = pk) (hc : rRp iv av S f) (hH : (pH S).1 ≤ 65536) (hR : (pR S).1 + (pH S).1 ≤ 131072) (hG : 0 < (pH S).1 → (pG S).1 < 64) : OkN Y (e + 21) mX13_closeFragment [.ref (gl_b Y + 73)] RV iv av 116
    (fun r iv' av' => rtF iv av iv' av' ∧ rRp iv' av' (sClose pk S) f) := by
  obtain ⟨⟨a1, a2⟩, ⟨b1, b2⟩, ⟨c1, c2⟩, ⟨d1, d2⟩, ee⟩ := id hc
  have k88 : kl 88 = 65536 := rfl
  unfold sClose
  refine o_X13_closeFragment fun _ => ⟨fun hle => ?_, fun hgt => fun _ _ => ⟨by omega, ?_⟩⟩
  · rw [if_pos (by omega)]
    exact ⟨rtF.rf _ _, hc⟩
  · rw [if_neg (by omega)]
    obtain ⟨q1, q2, q3⟩ := sAll_congr (pk := pk) (n := (pH S).1) (D := fun i => av 88 (0 + i)) (D' := (pH S).2) fun i hi => by
      show av 88 (0 + i) = _
      rw [Nat.zero_add]
      exact d2 i hi
    have hnum := sNum_in pk (pH S).2 hH
    have hst := s_X13_store (Y := Y) (e := e) (iv := iv) (av := up2 av 86 (iv 73 18).toNat (iv 73 23)) (a := 88) (F := 0) (n := (pH S).1) (beg := (pR S).1) (pk := pk) (Or.inr rfl) (by omega) hH (by omega) hpk a1 hR h88
    rw [d1]
    refine OkN.mono hst ?_
    rintro r1 iv1 av1 hR1 ⟨rfl, o1, o2, e1, e2, e3⟩ _
    have q1' : sLen pk (fun i => up2 av 86 (iv 73 18).toNat (iv 73 23) 88 (0 + i)) (pH S).1 = sLen pk (pH S).2 (pH S).1 := q1
    have q3' : sNum pk (fun i => up2 av 86 (iv 73 18).toNat (iv 73 23) 88 (0 + i)) (pH S).1 = sNum pk (pH S).2 (pH S).1 := q3
    rw [q3']
    rw [q1'] at e1 e3
    have e18 : iv1 73 18 = iv 73 18 := o1.2 18 (by decide)
    refine fun _ => ⟨by rw [e18]; omega, ⟨((o1.mono (by decide) (by decide)).up (by decide)).up (by decide), (((Off.rf _ _).up (by decide)).tr (o2.mono (by decide))).up (by decide)⟩, ⟨e1, ?_⟩, ⟨?_, fun j hj => ?_⟩, ⟨?_, fun j hj => ?_⟩, ⟨rfl, fun j hj => absurd hj (Nat.not_lt_zero _)⟩, fun t ht => ?_⟩
    · refine apR_rows a2 e2 fun j hj => ?_
      exact (e3 j hj).trans (q2 j (by rw [q1]; exact hj))
    · show iv1 73 16 = _
      rw [o1.2 16 (by decide)]
      exact b1
    · show av1 85 j = _
      rw [o2 85 (by decide)]
      exact b2 j hj
    · show iv1 73 18 + 1 = (((pG S).1 + 1 : Nat) : Int)
      rw [e18, c1]
      omega
    · have hj' : j < (pG S).1 + 1 := hj
      show av1 86 j = (if j = (pG S).1 then ((pR S).1 : Int) else (pG S).2.1 j) ∧ (if j = (iv 73 18).toNat then sNum pk (pH S).2 (pH S).1 else av1 87 j) = if j = (pG S).1 then sNum pk (pH S).2 (pH S).1 else (pG S).2.2 j
      rw [o2 86 (by decide), o2 87 (by decide)]
      show (if j = (iv 73 18).toNat then iv 73 23 else av 86 j) = _ ∧ (if j = (iv 73 18).toNat then sNum pk (pH S).2 (pH S).1 else av 87 j) = _
      rw [c1, Int.toNat_natCast, a1]
      by_cases he : j = (pG S).1
      · rw [if_pos he, if_pos he, if_pos he, if_pos he]
        exact ⟨rfl, rfl⟩
      · rw [if_neg he, if_neg he, if_neg he, if_neg he]
        exact c2 j (by omega)
    · have := ee t ht
      unfold rFc at *
      have q : ∀ k, k ∉ [86, 87, 89, 93, 94, 95, 96, 97, 98, 99, 100, 101, 102, 103, 104, 105, 106, 107, 108] → up2 av1 87 (iv 73 18).toNat (sNum pk (pH S).2 (pH S).1) k = av k := (((Off.rf _ _).up (by decide)).tr (o2.mono (by decide))).up (by decide)
      rw [q 78 (by decide), q 79 (by decide), q 80 (by decide), q 81 (by decide), q 82 (by decide), q 83 (by decide), q 84 (by decide)]
      exact this
end SRPut
