/-! The class packs a row. -/
theorem wr_mod {v v' : Int} (h : v % 256 = v' % 256) (b : Bw) : BE (wr v 8 b) (wr v' 8 b) := by
  refine ⟨rfl, fun i hi => ?_⟩
  have hi' : i < b.1 + 8 := hi
  show (if i < b.1 then b.2 i else v / 2 ^ (i - b.1) % 2) = if i < b.1 then b.2 i else v' / 2 ^ (i - b.1) % 2
  by_cases h1 : i < b.1
  · rw [if_pos h1, if_pos h1]
  · rw [if_neg h1, if_neg h1, ← bit256 v (j := i - b.1) (by omega), ← bit256 v' (j := i - b.1) (by omega), h]
theorem WrC.md {iv av iv' av' : IVt} {beg : Nat} {b : Bw} {v v' : Int} (u : WrC iv av iv' av' beg (wr v 8 b)) (hb : Bit b.2) (h : v % 256 = v' % 256) : WrC iv av iv' av' beg (wr v' 8 b) := ⟨u.1, u.2.1, u.2.2.1, u.2.2.2.congr (wr_mod h b) (wr_bit hb)⟩
theorem WrR.md {iv av iv' av' : IVt} {b : Bw} {v v' : Int} (u : WrR iv av iv' av' (wr v 8 b)) (hb : Bit b.2) (h : v % 256 = v' % 256) : WrR iv av iv' av' (wr v' 8 b) := ⟨u.1, u.2.1, u.2.2.congr (wr_mod h b) (wr_bit hb)⟩
theorem CdC.cg {av av' : IVt} {k N M : Nat} {f : Nat → Int} (h : CdC av k f N M) (e2 : av' (k + 2) = av (k + 2)) (e3 : av' (k + 3) = av (k + 3)) : CdC av' k f N M := by
  unfold CdC at *
  rw [e2, e3]
  exact h
theorem TkW.cg {iv av iv' av' : IVt} {g : Nat × (Nat → Int) × (Nat → Int)} (h : TkW iv av g) (e1 : iv' 22 = iv 22) (e2 : av' 53 = av 53) (e3 : av' 54 = av 54) : TkW iv' av' g := by
  unfold TkW at *
  rw [e1, e2, e3]
  exact h
theorem TdC.cg {iv av iv' av' : IVt} {q : Nat × (Nat → Int) × (Nat → Int)} (h : TdC iv av q) (e1 : iv' 22 = iv 22) (e2 : av' 55 = av 55) (e3 : av' 56 = av 56) : TdC iv' av' q := by
  unfold TdC at *
  rw [e1, e2, e3]
  exact h
theorem DB_cg {f g : IVt} {k F : Nat} (h : g (k + 1) = f (k + 1)) : DB g k F = DB f k F := funext fun i => congrFun h (F + i)
theorem chkV_in (D : Nat → Int) (n : Nat) : 0 ≤ chkV D n ∧ chkV D n < 4294967296 := by
  have := adl_in D n
  unfold chkV
  omega
section SCPack
variable {Y : Gl} {X : Cx} {e : Nat} {iv av : IVt} {beg : Nat} {b : Bw} {k F : Nat}
theorem c_body (K : BytesK k) (hk12 : k ≠ 12) (hk57 : k ≠ 57) (hk13 : k + 1 ≠ 13) {bg en : Nat} (hb : bg ≤ en) (hbe : en - bg ≤ 4096) {D : Nat → Int} (hD : DB av k F = D) {g : Nat × (Nat → Int) × (Nat → Int)} (hg : g = tok D bg en) {last s : Int} (hs : s = prt g b.1 (en - bg)) (hS : SK iv av beg (wr s 2 (wr last 1 b))) (h1 : ((F + en : Nat) : Int) ≤ iv k 1) (h2 : iv k 1 ≤ kl (k + 1)) (hT : TkW iv av g) (hQ : TdC iv av (qT g)) (c33 : CdC av 33 (lnS g) 288 286) (c37 : CdC av 37 (lnD g) 32 30) (c41 : CdC av 41 (lnZ (qT g)) 19 19) (c45 : CdC av 45 fxL 288 288) (c49 : CdC av 49 (fun _ => 5) 32 32) (hroom : beg + (b.1 + bSto b.1 (en - bg)) / 8 ≤ 131072) {Q : IVt → IVt → Prop} (hP : ∀ iv' av', WrC iv av iv' av' beg (wPart last D bg en b) → Q iv' av') :
    ((¬ s = 0) → ((¬ s = 1) → OkN Y (e + 3) mX8_tellHeader [.ref (gl_b Y + 22)] RV iv av 116 (fun _ iv1 av1 => OkN Y (e + 3) mX8_tellItems [.ref (gl_b Y + 22), .ref (gl_b Y + 33), .ref (gl_b Y + 37)] RV iv1 av1 116 (fun _ iv2 av2 => Q iv2 av2))) ∧ ((s = 1) → OkN Y (e + 3) mX8_tellItems [.ref (gl_b Y + 22), .ref (gl_b Y + 45), .ref (gl_b Y + 49)] RV iv av 116 (fun _ iv2 av2 => Q iv2 av2))) ∧
    ((s = 0) → OkN Y (e + 3) mX0_endByte [.ref (gl_b Y + 57)] RV iv av 116 (fun _ iv1 av1 => OkN Y (e + 3) mX8_tellStored [.ref (gl_b Y + 22), .ref (gl_b Y + k), .int (i32 ((F + bg : Nat) : Int)), .int (i32 ((F + en : Nat) : Int))] RV iv1 av1 116 (fun _ iv2 av2 => Q iv2 av2))) := by
  have hgok : TokOK g := by rw [hg]; exact tok_ok D bg en
  have hgc : g.1 ≤ 4096 := by rw [hg]; have := tok_cnt D hb; omega
  have hqo := qT_ok g
  have hqc := qT_cnt g
  have hst : bSto b.1 (en - bg) = 3 + (8 - (b.1 + 3) % 8) % 8 + 32 + 8 * (en - bg) := rfl
  have hfx : bFix g = 3 + (tkbs fxL (fun _ => 5) g g.1 + (fxL 256).toNat) := rfl
  have hmd : bMad (lnZ (qT g)) (qT g) g = 17 + 3 * tsz (lnZ (qT g)) + hdb (lnZ (qT g)) (qT g) (qT g).1 + (tkbs (lnS g) (lnD g) g g.1 + (lnS g 256).toNat) := rfl
  have hc := prt_cases g b.1 (en - bg)
  have e35 : nd (av 35) 257 286 = nd (lnS g) 257 286 := nd_congr 257 286 fun s hs => (c33.2.2.2.2 s hs).1
  have e39 : nd (av 39) 1 30 = nd (lnD g) 1 30 := nd_congr 1 30 fun s hs => (c37.2.2.2.2 s hs).1
  rw [← hs] at hc
  refine ⟨fun n0 => ⟨fun n1 => ?_, fun s1 => ?_⟩, fun s0 => ?_⟩
  · have s2 : s = 2 ∧ bMad (lnZ (qT g)) (qT g) g ≤ bSto b.1 (en - bg) := (hc.resolve_left n0).resolve_left fun h => n1 h.1
    obtain ⟨s2, hle⟩ := s2
    have e2 : wPart last D bg en b = wC (lnS g) 288 256 (wToks (lnS g) (lnD g) 288 32 g g.1 (wHdr (nd (lnS g) 257 286) (nd (lnD g) 1 30) (lnZ (qT g)) (qT g) (wr 2 2 (wr last 1 b)))) := by
      unfold wPart wBody
      rw [← hg, ← hs, s2, if_neg (by omega), if_neg (by omega)]
    rw [s2] at hS
    generalize hH : nd (lnS g) 257 286 = H at *
    generalize hDn : nd (lnD g) 1 30 = Dn at *
    have lh := wHdr_1 H Dn (lnZ (qT g)) (qT g) (wr 2 2 (wr last 1 b))
    have lh2 : (wr 2 2 (wr last 1 b)).1 = b.1 + 1 + 2 := rfl
    refine OkN.mono (s_X8_tellHeader c41 hQ hqo (by omega) hS (by omega)) ?_
    rintro r1 iv1 av1 hR1 u1
    rw [e35, e39] at u1
    refine OkN.mono (s_X8_tellItems (c33.of u1.2.1) (c37.of u1.2.1) (by omega) (by omega) (hT.cg (u1.1 22 (by decide)) (u1.2.1 53 (by decide)) (u1.2.1 54 (by decide))) hgok hgc u1.2.2.2 (by omega)) ?_
    rintro r2 iv2 av2 hR2 u2
    refine hP iv2 av2 ?_
    rw [e2]
    exact u1.tr u2
  · have hle : bFix g ≤ bSto b.1 (en - bg) := by omega
    have e1 : wPart last D bg en b = wC fxL 288 256 (wToks fxL (fun _ => 5) 288 32 g g.1 (wr 1 2 (wr last 1 b))) := by
      unfold wPart wBody
      rw [← hg, ← hs, s1, if_neg (by omega), if_pos rfl]
    rw [s1] at hS
    have lh2 : (wr 1 2 (wr last 1 b)).1 = b.1 + 1 + 2 := rfl
    refine OkN.mono (s_X8_tellItems c45 c49 (by omega) (by omega) hT hgok hgc hS (by omega)) ?_
    rintro r2 iv2 av2 hR2 u2
    refine hP iv2 av2 ?_
    rw [e1]
    exact u2
  · have e0 : wPart last D bg en b = wSto D bg en (wrB (wr 0 2 (wr last 1 b))) := by
      unfold wPart wBody
      rw [← hg, ← hs, s0, if_pos rfl]
    rw [s0] at hS
    have l2 : (wrB (wr 0 2 (wr last 1 b))).1 = b.1 + 3 + (8 - (b.1 + 3) % 8) % 8 := rfl
    refine OkN.mono (s_X0_endByte hS (by show beg + (b.1 + 1 + 2 + 7) / 8 ≤ 131072; omega)) ?_
    rintro r1 iv1 av1 hR1 u1
    have ek : iv1 k = iv k := u1.1 k (by simp [hk12, hk57])
    have ea : av1 (k + 1) = av (k + 1) := u1.2.1 (k + 1) (by simp; omega)
    refine OkN.mono (s_X8_tellStored K hk12 hk57 hk13 hb hbe (by rw [ek]; exact h1) (by rw [ek]; exact h2) u1.2.2.2 (by omega)) ?_
    rintro r2 iv2 av2 hR2 u2
    refine hP iv2 av2 ?_
    rw [show DB av1 k F = D by rw [← hD]; exact DB_cg ea] at u2
    rw [e0]
    exact u1.tr u2
theorem l_X8_pack_211 (C : CX Y X RX8 "pack" cX8_pack 8 none (e + 4) 0 0) (K : BytesK k) {v : Int} (hv : 0 ≤ v ∧ v < 4294967296) (hS : SK iv av beg b) (hroom : beg + (b.1 + 32) / 8 ≤ 131072) {P : PN} (hP : ∀ iv' av', WrC iv av iv' av' beg (wChk v b) → P 0 iv' av') : L_X8_pack_211 Y X P k (bm32 v) 24 iv av := by
  have hb : Bit b.2 := hS.1
  have e1 : bm32 v % 4294967296 = v := by
    rw [bm32_mod]
    omega
  have bb : ∀ x : Int, bm32 x % 256 = x % 256 := fun x => by
    have := bm32_mod x
    omega
  refine w_X8_pack_211 C K (by omega) ⟨fun g => absurd g (by omega), fun _ => ⟨by omega, ?_⟩⟩
  rw [e1]
  refine OkN.mono (s_X0_bitsK 8 rfl hS (by omega) (by omega)) ?_
  rintro r1 iv1 av1 hR1 u1
  have u1 := u1.md hb (v' := v / 2 ^ 24) (bb _)
  refine w_X8_pack_211 C K (by omega) ⟨fun g => absurd g (by omega), fun _ => ⟨by omega, ?_⟩⟩
  rw [e1]
  refine OkN.mono (s_X0_bitsK 8 rfl u1.2.2.2 (by omega) (by show beg + (b.1 + 8 + 8) / 8 ≤ 131072; omega)) ?_
  rintro r2 iv2 av2 hR2 u2
  have u2 := u1.tr (u2.md u1.2.2.2.1 (v' := v / 2 ^ 16) (bb _))
  refine w_X8_pack_211 C K (by omega) ⟨fun g => absurd g (by omega), fun _ => ⟨by omega, ?_⟩⟩
  rw [e1]
  refine OkN.mono (s_X0_bitsK 8 rfl u2.2.2.2 (by omega) (by show beg + (b.1 + 8 + 8 + 8) / 8 ≤ 131072; omega)) ?_
  rintro r3 iv3 av3 hR3 u3
  have u3 := u2.tr (u3.md u2.2.2.2.1 (v' := v / 2 ^ 8) (bb _))
  refine w_X8_pack_211 C K (by omega) ⟨fun g => absurd g (by omega), fun _ => ⟨by omega, ?_⟩⟩
  rw [e1]
  refine OkN.mono (s_X0_bitsK 8 rfl u3.2.2.2 (by omega) (by show beg + (b.1 + 8 + 8 + 8 + 8) / 8 ≤ 131072; omega)) ?_
  rintro r4 iv4 av4 hR4 u4
  have u4 := u3.tr (u4.md u3.2.2.2.1 (v' := v) (by rw [bb]; show v / 1 % 256 = _; rw [Int.ediv_one]))
  exact w_X8_pack_211 C K (by omega) ⟨fun _ => hP iv4 av4 u4, fun g => absurd (show (24 + -8 + -8 + -8 + -8 : Int) < 0 by decide) g⟩
abbrev paF (iv av iv' av' : IVt) : Prop := Off [12, 22, 23, 57] iv iv' ∧ Off [13, 24, 25, 27, 28, 29, 30, 31, 32, 34, 35, 36, 38, 39, 40, 42, 43, 44, 53, 54, 55, 56] av av'
theorem s_X8_pack (hk : k = 2 ∨ k = 14) {n : Nat} {E : Int} (hn1 : 1 ≤ n) (hn : n ≤ 65536) (hF : ((F + n : Nat) : Int) ≤ iv k 1) (hkl : iv k 1 ≤ 65536) (hP57 : iv 57 1 = 0 ∧ iv 57 2 = 0) (h12 : iv 12 1 = beg) (hbeg : beg + n + 200 ≤ 131072) (hM : 1 ≤ iv 23 2 ∧ 0 ≤ iv 23 3 ∧ iv 23 3 ≤ iv 23 4 ∧ iv 23 4 ≤ 65536 ∧ iv 23 2 + (iv 23 4 - iv 23 3) + n ≤ E) (hE : E ≤ 100000000) (h24 : ∀ h : Nat, h < 32768 → 0 ≤ av 24 h ∧ av 24 h < iv 23 2 + (iv 23 4 - iv 23 3)) (c45 : CdC av 45 fxL 288 288) (c49 : CdC av 49 (fun _ => 5) 32 32) (h32 : ∀ i, i < 576 → av 32 i = 0) :
    OkN Y (e + 4) mX8_pack [.ref (gl_b Y + 22), .ref (gl_b Y + k), .int (i32 (F : Int)), .int (i32 (n : Int))] RV iv av 116
    (fun r iv' av' => paF iv av iv' av' ∧ (∀ j, j < beg → av' 13 j = av 13 j) ∧ SK iv' av' beg (wPack (DB av k F) n) ∧ (∀ i, i < 576 → av' 32 i = 0) ∧ (1 ≤ iv' 23 2 ∧ iv' 23 3 = F ∧ iv' 23 4 = ((F + n : Nat) : Int) ∧ iv' 23 2 + n ≤ E) ∧ ∀ h : Nat, h < 32768 → 0 ≤ av' 24 h ∧ av' 24 h < iv' 23 2 + n) := by
  have K : BytesK k := by rcases hk with rfl | rfl; exact bk_2; exact bk_14
  have k65 : kl (k + 1) = 65536 := by rcases hk with rfl | rfl <;> rfl
  have hk12 : k ≠ 12 := by omega
  have hk57 : k ≠ 57 := by omega
  have hk22 : k ≠ 22 := by omega
  have hk23 : k ≠ 23 := by omega
  have hk13 : k + 1 ≠ 13 := by omega
  have hkL : k + 1 ∉ [24, 25, 34, 38, 53, 54] := by rcases hk with rfl | rfl <;> decide
  have oI : ∀ {f g : IVt}, Off [12, 22, 23, 57] f g → g k = f k := fun h => h k (by rcases hk with rfl | rfl <;> decide)
  have oA : ∀ {f g : IVt}, Off [13, 24, 25, 27, 28, 29, 30, 31, 32, 34, 35, 36, 38, 39, 40, 42, 43, 44, 53, 54, 55, 56] f g → g (k + 1) = f (k + 1) := fun h => h (k + 1) (by rcases hk with rfl | rfl <;> decide)
  refine o_X8_pack K (by omega) (by omega) fun X C => ?_
  refine OkN.mono (o_X7_begin (by omega) (fun _ _ _ => ⟨by omega, by omega, rfl, rfl⟩) : OkN Y (e + 3) mX7_begin _ RV iv av 116 (fun r iv' av' => iv' = (up2 (up2 (up2 iv 23 2 ((iv 23 2) + ((iv 23 4) - (iv 23 3)))) 23 3 F) 23 4 ((F : Int) + (n : Int))) ∧ av' = av)) ?_
  rintro r1 iv1 av1 hR1 ⟨e1, rfl⟩
  have d2 : iv1 23 2 = iv 23 2 + (iv 23 4 - iv 23 3) := by rw [e1]; rfl
  have d3 : iv1 23 3 = F := by rw [e1]; rfl
  have d4 : iv1 23 4 = ((F + n : Nat) : Int) := by rw [e1, up2_eq]; omega
  have dO : Off [12, 22, 23, 57] iv iv1 := by rw [e1]; exact (((Off.rf _ _).up (by decide)).up (by decide)).up (by decide)
  have d57 : iv1 57 = iv 57 := by rw [e1]; rfl
  have d12 : iv1 12 = iv 12 := by rw [e1]; rfl
  have dk := oI dO
  have hS1 : SK iv1 av1 beg (0, fun _ => 0) := ⟨fun p => Or.inl rfl, by rw [d12, h12]; rfl, by rw [d57]; exact hP57.1, by rw [d57]; exact hP57.2, fun j hj => absurd hj (Nat.not_lt_zero _)⟩
  clear e1
  refine OkN.mono (s_X0_bitsK 8 rfl hS1 (by omega) (by show beg + (0 + 8) / 8 ≤ 131072; omega)) ?_
  rintro r2 iv2 av2 hR2 u2
  refine OkN.mono (s_X0_bitsK 8 rfl u2.2.2.2 (by omega) (by show beg + (0 + 8 + 8) / 8 ≤ 131072; omega)) ?_
  rintro r3 iv3 av3 hR3 u3
  have w3 := u2.tr u3
  generalize hD : DB av1 k F = D
  have f3 : paF iv av1 iv3 av3 := ⟨dO.tr (w3.1.mono (by decide)), w3.2.1.mono (by decide)⟩
  have D3 : ∀ {iv4 av4 : IVt}, paF iv av1 iv4 av4 → DB av4 k F = D := fun h => by
    rw [← hD]
    exact DB_cg (oA h.2)
  have lp : ∀ (m i : Nat) (iv4 av4 : IVt), i + m = nP n → paF iv av1 iv4 av4 → (∀ j, j < beg → av4 13 j = av1 13 j) → MX iv4 av4 k F n E → CHc iv4 av4 D (min (4096 * i) (n - 2)) → SK iv4 av4 beg (wParts D n i (wr 156 8 (wr 120 8 (0, fun _ => 0)))) → (∀ i, i < 576 → av4 32 i = 0) →
      L_X8_pack_40 Y X (fun r iv' av' => paF iv av1 iv' av' ∧ (∀ j, j < beg → av' 13 j = av1 13 j) ∧ SK iv' av' beg (wPack D n) ∧ (∀ i, i < 576 → av' 32 i = 0) ∧ (1 ≤ iv' 23 2 ∧ iv' 23 3 = F ∧ iv' 23 4 = ((F + n : Nat) : Int) ∧ iv' 23 2 + n ≤ E) ∧ ∀ h : Nat, h < 32768 → 0 ≤ av' 24 h ∧ av' 24 h < iv' 23 2 + n) k F n ((F : Int) + (n : Int)) ((F + 4096 * i : Nat) : Int) iv4 av4 := by
    intro m
    induction m with
    | zero =>
      intro i iv4 av4 q1 q2 q3 q4 q5 q6 q7
      have hi : i = nP n := by omega
      have hnp : n ≤ 4096 * nP n ∧ nP n ≤ 16 := by unfold nP; omega
      have hw := wParts_1 D (n := n) (wr 156 8 (wr 120 8 (0, fun _ => 0))) i (by rw [hi]; unfold nP; omega)
      have e16 : (wr 156 8 (wr 120 8 ((0, fun _ => 0) : Bw))).1 = 16 := rfl
      rw [e16] at hw
      have hfin : wPack D n = wChk (chkV D n) (wrB (wParts D n i (wr 156 8 (wr 120 8 (0, fun _ => 0))))) := by rw [hi]; rfl
      rw [hfin]
      generalize wParts D n i (wr 156 8 (wr 120 8 (0, fun _ => 0))) = B at *
      refine w_X8_pack_40 C K (by omega) (by omega) (by omega) (by omega) ⟨fun _ => OkN.mono (s_X0_endByte q6 (by omega)) ?_, fun g => absurd g (by omega)⟩
      rintro r5 iv5 av5 hR5 u5
      have ek : iv5 k = iv k := (u5.1 k (by simp [hk12, hk57])).trans (oI q2.1)
      have f5 : paF iv av1 iv5 av5 := ⟨q2.1.tr (u5.1.mono (by decide)), q2.2.tr (u5.2.1.mono (by decide))⟩
      refine OkN.mono (s_X11_checkOf K (f := F) (n := n) (by rw [ek]; omega) (by rw [ek]; omega)) ?_
      rintro r6 iv6 av6 hR6 ⟨hr6, rfl, rfl⟩ _
      have e6 : r6 = bm32 (chkV D n) := by rw [hr6, ← D3 f5]; rfl
      rw [e6]
      have hcv := chkV_in D n
      have lB : (wrB B).1 = B.1 + (8 - B.1 % 8) % 8 := rfl
      refine l_X8_pack_211 (iv := iv6) (av := av6) C K hcv u5.2.2.2 (by omega) fun iv7 av7 u7 => ?_
      have e23 : iv7 23 = iv4 23 := (u7.1 23 (by decide)).trans (u5.1 23 (by decide))
      have e24 : av7 24 = av4 24 := (u7.2.1 24 (by decide)).trans (u5.2.1 24 (by decide))
      obtain ⟨m1, m2, m3, m4, m5, m6, m7, m8⟩ := q4
      refine ⟨⟨f5.1.tr (u7.1.mono (by decide)), f5.2.tr (u7.2.1.mono (by decide))⟩, fun j hj => ?_, u7.2.2.2, fun j hj => ?_, ?_, ?_⟩
      · rw [u7.2.2.1 j hj, u5.2.2.1 j hj]
        exact q3 j hj
      · rw [u7.2.1 32 (by decide), u5.2.1 32 (by decide)]
        exact q7 j hj
      · rw [e23]
        exact ⟨m6.1, m1, m2, m6.2⟩
      · rw [e23, e24]
        exact m8
    | succ m ih =>
      intro i iv4 av4 q1 q2 q3 q4 q5 q6 q7
      have hlt : 4096 * i < n ∧ i < 16 := by unfold nP at q1; omega
      obtain ⟨en, hen⟩ : ∃ en, en = min (4096 * i + 4096) n := ⟨_, rfl⟩
      have hw := wParts_1 D (n := n) (wr 156 8 (wr 120 8 (0, fun _ => 0))) i (by omega)
      have e16 : (wr 156 8 (wr 120 8 ((0, fun _ => 0) : Bw))).1 = 16 := rfl
      rw [e16] at hw
      have hnext : wParts D n (i + 1) (wr 156 8 (wr 120 8 (0, fun _ => 0))) = wPart (if en = n then 1 else 0) D (4096 * i) en (wParts D n i (wr 156 8 (wr 120 8 (0, fun _ => 0)))) := by rw [hen]; rfl
      have ih1 := fun iv9 av9 => ih (i + 1) iv9 av9 (by omega)
      rw [hnext] at ih1
      clear ih hnext
      generalize wParts D n i (wr 156 8 (wr 120 8 (0, fun _ => 0))) = B at *
      have hst : bSto B.1 (en - 4096 * i) = 3 + (8 - (B.1 + 3) % 8) % 8 + 32 + 8 * (en - 4096 * i) := rfl
      obtain ⟨m1, m2, m3, m4, m5, m6, m7, m8⟩ := id q4
      have emin : min (((F + 4096 * i : Nat) : Int) + 4096) ((F : Int) + (n : Int)) = ((F + en : Nat) : Int) := by omega
      refine w_X8_pack_40 C K (by omega) (by omega) (by omega) (by omega) ⟨fun g => absurd g (by omega), fun _ => ⟨by omega, ?_⟩⟩
      rw [emin]
      refine OkN.mono (s_X8_gather K hk22 hk23 hkL q4 (b := 4096 * i) (en := en) (by omega) (by omega) (by omega) (by rw [D3 q2]; exact q5)) ?_
      rintro r5 iv5 av5 hR5 ⟨ga, gM, gC, gT⟩
      rw [D3 q2] at gC gT
      have hgok := tok_ok D (4096 * i) en
      have hgc := tok_cnt D (show 4096 * i ≤ en by omega)
      generalize hg : tok D (4096 * i) en = g at *
      obtain ⟨t1, t2, t3, t4, t5⟩ := gT
      refine OkN.mono (s_X8_makeCodes hgok (by omega) t4 t5 (fun j hj => by rw [ga.2 32 (by decide)]; exact q7 j hj)) ?_
      rintro r6 iv6 av6 hR6 ⟨rfl, o6, h326, c33, c37⟩
      refine OkN.mono (s_X8_makeTold (fun s hs => ?_) (fun s hs => ?_)) ?_
      · have := (c33.2.2.2.2 s hs).1
        have := lnS_le g s
        show 0 ≤ av6 (33 + 2) s ∧ av6 (33 + 2) s ≤ 1000
        omega
      · have := (c37.2.2.2.2 s hs).1
        have := lnD_le g s
        show 0 ≤ av6 (37 + 2) s ∧ av6 (37 + 2) s ≤ 1000
        omega
      rintro r7 iv7 av7 hR7 ⟨f7, T7⟩
      rw [told_lr (ls' := lnS g) (ld' := lnD g) (fun s hs => (c33.2.2.2.2 s hs).1) (fun s hs => (c37.2.2.2.2 s hs).1)] at T7
      have T7 : TdC iv7 av7 (qT g) := T7
      have hqo := qT_ok g
      have hqc := qT_cnt g
      refine OkN.mono (s_X8_makeSizes T7 hqo (by omega) (fun j hj => by rw [f7.2.2 32 (by decide)]; exact h326 j hj)) ?_
      rintro r8 iv8 av8 hR8 ⟨rfl, o8, h328, c41, h42⟩
      have o78 : Off [27, 28, 29, 30, 31, 32, 42, 43, 44, 55, 56] av6 av8 := (f7.2.2.mono (by decide)).tr (o8.mono (by decide))
      have c33' : CdC av8 33 (lnS g) 288 286 := c33.cg (o78 35 (by decide)) (o78 36 (by decide))
      have c37' : CdC av8 37 (lnD g) 32 30 := c37.cg (o78 39 (by decide)) (o78 40 (by decide))
      have iO : Off [12, 22, 23, 57] iv4 iv8 := (ga.1.mono (by decide)).tr (f7.1.mono (by decide))
      have aO : Off [24, 25, 27, 28, 29, 30, 31, 32, 34, 35, 36, 38, 39, 40, 42, 43, 44, 53, 54, 55, 56] av4 av8 := (ga.2.mono (by decide)).tr ((o6.mono (by decide)).tr (o78.mono (by decide)))
      have f8 : paF iv av1 iv8 av8 := ⟨q2.1.tr iO, q2.2.tr (aO.mono (by decide))⟩
      have c45' : CdC av8 45 fxL 288 288 := c45.cg (f8.2 47 (by decide)) (f8.2 48 (by decide))
      have c49' : CdC av8 49 (fun _ => 5) 32 32 := c49.cg (f8.2 51 (by decide)) (f8.2 52 (by decide))
      have hS8 : SK iv8 av8 beg B := q6.of ((f7.1 12 (by decide)).trans (ga.1 12 (by decide))) ((f7.1 57 (by decide)).trans (ga.1 57 (by decide))) (aO 13 (by decide))
      have T8 : TdC iv8 av8 (qT g) := T7.cg rfl (o8 55 (by decide)) (o8 56 (by decide))
      have e10 : iv8 22 10 = g.1 := (f7.2.1 10 (by decide)).trans t1
      have e11 : iv8 22 11 = sm (tmb g) g.1 := (f7.2.1 11 (by decide)).trans t2
      have W8 : TkW iv8 av8 g := ⟨e10, fun t ht => by rw [o78 53 (by decide), o6 53 (by decide), o78 54 (by decide), o6 54 (by decide)]; exact t3 t ht⟩
      refine ⟨by omega, ?_⟩
      rw [show ((F + en : Nat) : Int) - ((F + 4096 * i : Nat) : Int) = ((en - 4096 * i : Nat) : Int) by omega]
      refine OkN.mono (s_X8_bestSort hgok (by omega) hqo (by omega) c33' c37' c41 (fun s hs => (c45'.2.2.2.2 s hs).1) (fun s hs => (c49'.2.2.2.2 s hs).1) (fun s hs => by rw [o78 34 (by decide), o6 34 (by decide)]; exact t4 s hs) (fun s hs => by rw [o78 38 (by decide), o6 38 (by decide)]; exact t5 s hs) h42 T8 e11 hS8 (n := en - 4096 * i) (by omega)) ?_
      rintro r9 iv9 av9 hR9 ⟨hr9, rfl, rfl⟩ _
      have hr9' : r9 = prt g B.1 (en - 4096 * i) := hr9
      have M9 : MX iv9 av9 k F n E := gM.cg (by rw [f7.1 23 (by decide)]) (by rw [f7.1 23 (by decide)]) (by rw [f7.1 23 (by decide)]) (by rw [f7.1 k (by simp [hk22])]) ((o78 24 (by decide)).trans (o6 24 (by decide)))
      have C9 : CHc iv9 av9 D (min (4096 * (i + 1)) (n - 2)) := by
        have := gC.cg (iv' := iv9) (av' := av9) (by rw [f7.1 23 (by decide)]) ((o78 24 (by decide)).trans (o6 24 (by decide))) ((o78 25 (by decide)).trans (o6 25 (by decide)))
        rw [show min (4096 * (i + 1)) (n - 2) = min en (n - 2) by omega]
        exact this
      have key : ∀ (lb : Int) iv10 av10, lb = (if en = n then 1 else 0) → WrC iv9 av9 iv10 av10 beg (wr r9 2 (wr lb 1 B)) → ∀ iv11 av11, WrC iv10 av10 iv11 av11 beg (wPart lb D (4096 * i) en B) → L_X8_pack_40 Y X (fun r iv' av' => paF iv av1 iv' av' ∧ (∀ j, j < beg → av' 13 j = av1 13 j) ∧ SK iv' av' beg (wPack D n) ∧ (∀ i, i < 576 → av' 32 i = 0) ∧ (1 ≤ iv' 23 2 ∧ iv' 23 3 = F ∧ iv' 23 4 = ((F + n : Nat) : Int) ∧ iv' 23 2 + n ≤ E) ∧ ∀ h : Nat, h < 32768 → 0 ≤ av' 24 h ∧ av' 24 h < iv' 23 2 + n) k F n ((F : Int) + (n : Int)) (((F + 4096 * i : Nat) : Int) + 4096) iv11 av11 := by
        intro lb iv10 av10 hlb u10 iv11 av11 u11
        have v := u10.tr u11
        rw [show ((F + 4096 * i : Nat) : Int) + 4096 = ((F + 4096 * (i + 1) : Nat) : Int) by omega]
        refine ih1 iv11 av11 ⟨f8.1.tr (v.1.mono (by decide)), f8.2.tr (v.2.1.mono (by decide))⟩ (fun j hj => ?_) ?_ ?_ ?_ fun j hj => ?_
        · rw [v.2.2.1 j hj, aO 13 (by decide)]
          exact q3 j hj
        · exact M9.cg (by rw [v.1 23 (by decide)]) (by rw [v.1 23 (by decide)]) (by rw [v.1 23 (by decide)]) (by rw [v.1 k (by simp [hk12, hk57])]) (v.2.1 24 (by decide))
        · exact C9.cg (by rw [v.1 23 (by decide)]) (v.2.1 24 (by decide)) (v.2.1 25 (by decide))
        · rw [← hlb]
          exact v.2.2.2
        · rw [v.2.1 32 (by decide)]
          exact h328 j hj
      have bod : ∀ (lb : Int) iv10 av10, lb = (if en = n then 1 else 0) → WrC iv9 av9 iv10 av10 beg (wr r9 2 (wr lb 1 B)) → _ := fun lb iv10 av10 hlb u10 =>
        c_body (Y := Y) (e := e) (iv := iv10) (av := av10) (beg := beg) (b := B) (k := k) (F := F) K hk12 hk57 hk13 (bg := 4096 * i) (en := en) (by omega) (by omega) (D := D) (by rw [← D3 f8]; exact DB_cg (u10.2.1 (k + 1) (by simp; omega))) hg.symm (last := lb) hr9' u10.2.2.2 (by rw [u10.1 k (by simp [hk12, hk57]), oI f8.1]; omega) (by rw [u10.1 k (by simp [hk12, hk57]), oI f8.1]; omega) (W8.cg (u10.1 22 (by decide)) (u10.2.1 53 (by decide)) (u10.2.1 54 (by decide))) (T8.cg (u10.1 22 (by decide)) (u10.2.1 55 (by decide)) (u10.2.1 56 (by decide))) (c33'.of u10.2.1) (c37'.of u10.2.1) (c41.of u10.2.1) (c45'.of u10.2.1) (c49'.of u10.2.1) (by omega) (key lb iv10 av10 hlb u10)
      refine ⟨fun hne => OkN.mono (s_X0_bitsK 1 rfl hS8 (by omega) (by omega)) ?_, fun heq => OkN.mono (s_X0_bitsK 1 rfl hS8 (by omega) (by omega)) ?_⟩
      · rintro ra iva ava hRa ua
        refine OkN.mono (s_X0_bitsK 2 rfl ua.2.2.2 (by omega) (by show beg + (B.1 + 1 + 2) / 8 ≤ 131072; omega)) ?_
        rintro rb ivb avb hRb ub
        exact bod 0 ivb avb (by rw [if_neg (by omega)]) (ua.tr ub)
      · rintro ra iva ava hRa ua
        refine OkN.mono (s_X0_bitsK 2 rfl ua.2.2.2 (by omega) (by show beg + (B.1 + 1 + 2) / 8 ≤ 131072; omega)) ?_
        rintro rb ivb avb hRb ub
        exact bod 1 ivb avb (by rw [if_pos (by omega)]) (ua.tr ub)
  have hM3 : MX iv3 av3 k F n E := by
    have e23 : iv3 23 = iv1 23 := w3.1 23 (by decide)
    have e24 : av3 24 = av1 24 := w3.2.1 24 (by decide)
    have ek : iv3 k = iv k := oI f3.1
    unfold MX
    rw [e23, e24, ek, d2, d3, d4, k65]
    refine ⟨rfl, rfl, hF, by omega, hn, by omega, hE, fun h hh => ?_⟩
    have := h24 h hh
    omega
  have hC3 : CHc iv3 av3 D (min (4096 * 0) (n - 2)) := by
    have e23 : iv3 23 = iv1 23 := w3.1 23 (by decide)
    have e24 : av3 24 = av1 24 := w3.2.1 24 (by decide)
    refine ⟨fun h hh => Or.inl ⟨?_, fun q' hq' => absurd hq' (by omega)⟩, fun q hq => absurd hq (by omega)⟩
    rw [e23, e24, d2]
    have := h24 h hh
    omega
  exact lp (nP n) 0 iv3 av3 (by omega) f3 (fun j hj => w3.2.2.1 j hj) hM3 hC3 w3.2.2.2 fun j hj => by rw [w3.2.1 32 (by decide)]; exact h32 j hj
end SCPack
