/-! The reference packs a row. -/
section SRPack
variable {Y : Gl} {X : Cx} {e : Nat} {iv av : IVt} {b : Bw} {a : Nat}
theorem l_X13_pack_110 (C : CX Y X RX13 "pack" cX13_pack 9 (some .int) (e + 19) 0 0) (Ka : ArrK 101 a) {v : Int} (hv : 0 ≤ v ∧ v < 4294967296) (hS : PK iv av b) (hroom : b.1 + 32 ≤ 528000) {P : PN} (hP : ∀ iv' av', WrR iv av iv' av' (wChk v b) → P (((wChk v b).1 : Int) / 8) iv' av') : L_X13_pack_110 Y X P a v 24 iv av := by
  have hb : Bit b.2 := hS.1
  have bb : ∀ x : Int, x % 256 % 256 = x % 256 := fun x => by omega
  have bi : ∀ x : Int, InR (x % 256) := fun x => by omega
  refine w_X13_pack_110 C Ka (by omega) (by omega) ⟨fun g => absurd g (by omega), fun _ => ⟨by omega, bi _, OkN.mono (s_X13_writeNumber 8 rfl hS (bi _) (by omega) (by omega)) ?_⟩⟩
  rintro r1 iv1 av1 hR1 u1
  have u1 := u1.md hb (v' := v / 2 ^ 24) (bb _)
  refine w_X13_pack_110 C Ka (by omega) (by omega) ⟨fun g => absurd g (by omega), fun _ => ⟨by omega, bi _, OkN.mono (s_X13_writeNumber 8 rfl u1.2.2 (bi _) (by omega) (by show b.1 + 8 + 8 ≤ 528000; omega)) ?_⟩⟩
  rintro r2 iv2 av2 hR2 u2
  have u2 := u1.tr (u2.md u1.2.2.1 (v' := v / 2 ^ 16) (bb _))
  refine w_X13_pack_110 C Ka (by omega) (by omega) ⟨fun g => absurd g (by omega), fun _ => ⟨by omega, bi _, OkN.mono (s_X13_writeNumber 8 rfl u2.2.2 (bi _) (by omega) (by show b.1 + 8 + 8 + 8 ≤ 528000; omega)) ?_⟩⟩
  rintro r3 iv3 av3 hR3 u3
  have u3 := u2.tr (u3.md u2.2.2.1 (v' := v / 2 ^ 8) (bb _))
  refine w_X13_pack_110 C Ka (by omega) (by omega) ⟨fun g => absurd g (by omega), fun _ => ⟨by omega, bi _, OkN.mono (s_X13_writeNumber 8 rfl u3.2.2 (bi _) (by omega) (by show b.1 + 8 + 8 + 8 + 8 ≤ 528000; omega)) ?_⟩⟩
  rintro r4 iv4 av4 hR4 u4
  have u4 := u3.tr (u4.md u3.2.2.1 (v' := v) (by rw [bb]; show v / 1 % 256 = _; rw [Int.ediv_one]))
  refine w_X13_pack_110 C Ka (by omega) (by omega) ⟨fun _ _ => ?_, fun g => absurd (show (24 + -8 + -8 + -8 + -8 : Int) < 0 by decide) g⟩
  have h31 : iv4 73 31 = ((wChk v b).1 : Int) := u4.2.2.2.1
  rw [h31]
  exact ⟨by omega, hP iv4 av4 u4⟩
theorem s_X13_pack (haL : a = 77 ∨ a = 88) {F n : Nat} (hn1 : 1 ≤ n) (hn : n ≤ 65536) (hF : F + n ≤ kl a) : OkN Y (e + 19) mX13_pack [.ref (gl_b Y + 73), .ref (gl_b Y + a), .int (i32 (F : Int)), .int (i32 (n : Int))] RV iv av 116
    (fun r iv' av' => OffM [] [31, 34, 45] iv iv' ∧ Off [93, 94, 95, 96, 97, 98, 99, 100, 101, 102, 103, 104, 105, 106, 107, 108] av av' ∧ PK iv' av' (wPack (fun i => av a (F + i)) n) ∧ r = (((wPack (fun i => av a (F + i)) n).1 / 8 : Nat) : Int)) := by
  have Ka : ArrK 101 a := by rcases haL with rfl | rfl <;> exact ⟨rfl, by decide⟩
  have haM : a ∉ [93, 94, 95, 96, 97, 98, 99, 100, 101, 102, 103, 104, 105, 106, 107, 108] := by rcases haL with rfl | rfl <;> decide
  have hkl := kl_le a
  refine o_X13_pack Ka (by omega) (by omega) fun X C => OkN.mono (s_X13_notePairs Ka (by omega) (by omega) hF hn) ?_
  generalize hD : (fun i => av a (F + i)) = D
  rintro r1 iv1 av1 hR1 ⟨rfl, n1, n2⟩
  have hP0 : PK (up2 iv1 73 31 0) av1 (0, fun _ => 0) := ⟨fun p => Or.inl rfl, up2_eq _ _ _ _, fun j hj => absurd hj (Nat.not_lt_zero _), fun h => absurd rfl h⟩
  have o0 : OffM [] [31, 34, 45] iv1 (up2 iv1 73 31 0) := (OffM.rf _ _ _).up (by decide)
  refine OkN.mono (s_X13_writeNumber 8 rfl hP0 (by omega) (by omega) (by show 0 + 8 ≤ 528000; omega)) ?_
  rintro r2 iv2 av2 hR2 u2
  refine OkN.mono (s_X13_writeNumber 8 rfl u2.2.2 (by omega) (by omega) (by show 0 + 8 + 8 ≤ 528000; omega)) ?_
  rintro r3 iv3 av3 hR3 u3
  have w3 := u2.tr u3
  have D3 : ∀ {av4 : IVt}, Off [93, 94, 95, 96, 97, 98, 99, 100, 101, 102, 103, 104, 105, 106, 107, 108] av av4 → (fun i => av4 a (F + i)) = D := fun h => by
    rw [← hD, h a haM]
  have hnp : n ≤ 4096 * nP n ∧ nP n ≤ 16 ∧ 1 ≤ nP n ∧ 4096 * (nP n - 1) < n := by unfold nP; omega
  have e16 : (wr 156 8 (wr 120 8 ((0, fun _ => 0) : Bw))).1 = 16 := rfl
  have fin : ∀ iv4 av4, OffM [] [31, 34, 45] iv1 iv4 → Off [93, 94, 95, 96, 97, 98, 99, 100, 101, 102, 103, 104, 105, 106, 107, 108] av av4 → PK iv4 av4 (wParts D n (nP n) (wr 156 8 (wr 120 8 (0, fun _ => 0)))) → L_X13_pack_35 Y X (fun r iv' av' => OffM [] [31, 34, 45] iv1 iv' ∧ Off [93, 94, 95, 96, 97, 98, 99, 100, 101, 102, 103, 104, 105, 106, 107, 108] av av' ∧ PK iv' av' (wPack D n) ∧ r = (((wPack D n).1 / 8 : Nat) : Int)) a F n n 1 iv4 av4 := by
    intro iv4 av4 g1 g2 g3
    have hw := wParts_1 D (n := n) (wr 156 8 (wr 120 8 (0, fun _ => 0))) (nP n) (by omega)
    rw [e16] at hw
    have hfin : wPack D n = wChk (chkV D n) (wrB (wParts D n (nP n) (wr 156 8 (wr 120 8 (0, fun _ => 0))))) := rfl
    rw [hfin]
    generalize wParts D n (nP n) (wr 156 8 (wr 120 8 (0, fun _ => 0))) = B at *
    refine w_X13_pack_35 C Ka (by omega) (by omega) (by omega) (by omega) ⟨fun _ => OkN.mono (s_X13_endByte g3 (by omega)) ?_, fun g => absurd g (by omega)⟩
    rintro r5 iv5 av5 hR5 u5
    refine OkN.mono (s_X13_checkOf Ka (n := n) (f := F) (by omega) hF) ?_
    rintro r6 iv6 av6 hR6 ⟨hr6, rfl, rfl⟩ _
    have o5 := g2.tr (u5.2.1.mono (by decide))
    have e6 : r6 = chkV D n := by rw [hr6, D3 o5]; rfl
    rw [e6]
    have hcv := chkV_in D n
    have lB : (wrB B).1 = B.1 + (8 - B.1 % 8) % 8 := rfl
    refine l_X13_pack_110 (iv := iv6) (av := av6) C Ka hcv u5.2.2 (by omega) fun iv7 av7 u7 => ⟨g1.tr ((u5.1.mono (by decide) (by decide)).tr (u7.1.mono (by decide) (by decide))), o5.tr (u7.2.1.mono (by decide)), u7.2.2, by omega⟩
  have lp : ∀ (m i : Nat) (iv4 av4 : IVt), i + m + 1 = nP n → OffM [] [31, 34, 45] iv1 iv4 → Off [93, 94, 95, 96, 97, 98, 99, 100, 101, 102, 103, 104, 105, 106, 107, 108] av av4 → av4 94 = av1 94 → PK iv4 av4 (wParts D n i (wr 156 8 (wr 120 8 (0, fun _ => 0)))) → L_X13_pack_35 Y X (fun r iv' av' => OffM [] [31, 34, 45] iv1 iv' ∧ Off [93, 94, 95, 96, 97, 98, 99, 100, 101, 102, 103, 104, 105, 106, 107, 108] av av' ∧ PK iv' av' (wPack D n) ∧ r = (((wPack D n).1 / 8 : Nat) : Int)) a F n ((4096 * i : Nat) : Int) 0 iv4 av4 := by
    intro m
    induction m with
    | zero =>
      intro i iv4 av4 q1 q2 q3 q4 q5
      have hw := wParts_1 D (n := n) (wr 156 8 (wr 120 8 (0, fun _ => 0))) i (by omega)
      rw [e16] at hw
      have hnx : wParts D n (nP n) (wr 156 8 (wr 120 8 (0, fun _ => 0))) = wPart 1 D (4096 * i) n (wParts D n i (wr 156 8 (wr 120 8 (0, fun _ => 0)))) := by
        rw [show nP n = i + 1 by omega]
        show wPart (if min (4096 * i + 4096) n = n then 1 else 0) D (4096 * i) (min (4096 * i + 4096) n) _ = _
        rw [show min (4096 * i + 4096) n = n by omega, if_pos rfl]
      rw [hnx] at fin
      generalize wParts D n i (wr 156 8 (wr 120 8 (0, fun _ => 0))) = B at *
      have hst : bSto B.1 (n - 4096 * i) = 3 + (8 - (B.1 + 3) % 8) % 8 + 32 + 8 * (n - 4096 * i) := rfl
      refine w_X13_pack_35 C Ka (by omega) (by omega) (by omega) (by omega) ⟨fun g => absurd rfl g, fun _ => ⟨by omega, fun _ => ⟨fun g => absurd rfl g, fun _ => ?_⟩, fun g => absurd g (by omega)⟩⟩
      refine OkN.mono (s_X13_packPart Ka (by rcases haL with rfl | rfl <;> decide) (F := F) (n := n) (bg := 4096 * i) (en := n) hF hn (by omega) (by omega) (by omega) (by rw [D3 q3, q4]; exact n2) (Or.inr rfl) q5 (by omega)) ?_
      rintro r5 iv5 av5 hR5 ⟨p1, p2, p3⟩
      rw [D3 q3] at p3
      exact fin iv5 av5 (q2.tr p1) (q3.tr (p2.mono (by decide))) p3
    | succ m ih =>
      intro i iv4 av4 q1 q2 q3 q4 q5
      have hw := wParts_1 D (n := n) (wr 156 8 (wr 120 8 (0, fun _ => 0))) i (by omega)
      rw [e16] at hw
      have hnx : wParts D n (i + 1) (wr 156 8 (wr 120 8 (0, fun _ => 0))) = wPart 0 D (4096 * i) (4096 * i + 4096) (wParts D n i (wr 156 8 (wr 120 8 (0, fun _ => 0)))) := by
        show wPart (if min (4096 * i + 4096) n = n then 1 else 0) D (4096 * i) (min (4096 * i + 4096) n) _ = _
        rw [show min (4096 * i + 4096) n = 4096 * i + 4096 by omega, if_neg (by omega)]
      have ih1 := fun iv9 av9 => ih (i + 1) iv9 av9 (by omega)
      rw [hnx] at ih1
      clear ih fin
      generalize wParts D n i (wr 156 8 (wr 120 8 (0, fun _ => 0))) = B at *
      have hst : bSto B.1 (4096 * i + 4096 - 4096 * i) = 3 + (8 - (B.1 + 3) % 8) % 8 + 32 + 8 * (4096 * i + 4096 - 4096 * i) := rfl
      refine w_X13_pack_35 C Ka (by omega) (by omega) (by omega) (by omega) ⟨fun g => absurd rfl g, fun _ => ⟨by omega, fun g => absurd g (by omega), fun _ => ⟨fun _ => ?_, fun g => absurd g (by omega)⟩⟩⟩
      rw [show ((4096 * i : Nat) : Int) + 4096 = ((4096 * i + 4096 : Nat) : Int) by omega]
      refine OkN.mono (s_X13_packPart Ka (by rcases haL with rfl | rfl <;> decide) (F := F) (n := n) (bg := 4096 * i) (en := 4096 * i + 4096) hF hn (by omega) (by omega) (by omega) (by rw [D3 q3, q4]; exact n2) (Or.inl rfl) q5 (by omega)) ?_
      rintro r5 iv5 av5 hR5 ⟨p1, p2, p3⟩
      rw [D3 q3] at p3
      exact ih1 iv5 av5 (q2.tr p1) (q3.tr (p2.mono (by decide))) ((p2 94 (by decide)).trans q4) p3
  exact lp (nP n - 1) 0 iv3 av3 (by omega) (o0.tr (w3.1.mono (by decide) (by decide))) ((n1.mono (by decide)).tr (w3.2.1.mono (by decide))) (w3.2.1 94 (by decide)) w3.2.2
end SRPack
