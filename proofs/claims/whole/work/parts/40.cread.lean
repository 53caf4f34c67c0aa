/-! The class' read. -/
/-- what was put of file f, on the class' side -/
def LFc (iv av : IVt) (f : Nat) : Prop :=
  (0 ≤ av 6 (8 * f + 1) ∧ av 6 (8 * f + 1) ≤ 65536 ∧ 0 ≤ av 6 (8 * f + 2) ∧ av 6 (8 * f + 2) ≤ 131072 ∧ 0 ≤ av 6 (8 * f + 3) ∧ 0 ≤ av 6 (8 * f + 7) ∧ av 6 (8 * f + 7) + av 6 (8 * f + 3) ≤ iv 5 5 ∧ 0 ≤ av 6 (8 * f + 5)) ∧
  ((av 6 (8 * f + 4) = -2 ∧ av 6 (8 * f + 3) = (av 6 (8 * f + 1) + bkS iv - 1) / bkS iv) ∨
   (0 ≤ av 6 (8 * f + 4) ∧ av 6 (8 * f + 4) < iv 5 6 ∧ av 6 (8 * f + 3) = av 6 (8 * f + 1) / bkS iv ∧ 0 < av 6 (8 * f + 1) % bkS iv ∧ av 6 (8 * f + 5) + av 6 (8 * f + 1) % bkS iv ≤ bkS iv ∧
     (16777216 ≤ av 9 (av 6 (8 * f + 4)).toNat → av 6 (8 * f + 5) + av 6 (8 * f + 1) % bkS iv ≤ av 9 (av 6 (8 * f + 4)).toNat - 16777216))) ∧
  ∀ k : Nat, k < av 6 (8 * f + 3) → 16777216 ≤ av 7 ((av 6 (8 * f + 7)).toNat + k) → av 7 ((av 6 (8 * f + 7)).toNat + k) - 16777216 = due iv (av 6 (8 * f + 1)) k
def RdH (iv av : IVt) : Prop := (12 ≤ iv 5 4 ∧ iv 5 4 ≤ 16) ∧ (0 ≤ iv 5 5 ∧ iv 5 5 ≤ 80) ∧ (0 ≤ iv 5 6 ∧ iv 5 6 ≤ 64) ∧ (∀ j : Nat, j < iv 5 5 → 0 ≤ av 7 j ∧ av 7 j ≤ 16842752) ∧
  (∀ j : Nat, j < iv 5 6 → 0 ≤ av 8 j ∧ av 8 j ≤ 131072 ∧ 0 < av 9 j ∧ av 9 j ≤ 16842752) ∧ (∀ f : Nat, f < 64 → LFc iv av f) ∧ 0 ≤ iv 12 1 ∧ iv 12 1 ≤ 131072
theorem RdH.of {iv av iv' av' : IVt} (h : RdH iv av) (e5 : iv' 5 = iv 5) (e12 : iv' 12 = iv 12) (a6 : av' 6 = av 6) (a7 : av' 7 = av 7) (a8 : av' 8 = av 8) (a9 : av' 9 = av 9) : RdH iv' av' := by
  have eb : bkS iv' = bkS iv := by unfold bkS; rw [e5]
  have ed : ∀ n k, due iv' n k = due iv n k := fun n k => by unfold due; rw [eb]
  obtain ⟨h1, h2, h3, h4, h5, h6, h7⟩ := h
  refine ⟨by rw [e5]; exact h1, by rw [e5]; exact h2, by rw [e5]; exact h3, by rw [e5, a7]; exact h4, by rw [e5, a8, a9]; exact h5, fun f hf => ?_, by rw [e12]; exact h7⟩
  have := h6 f hf
  unfold LFc at this ⊢
  rw [e5, a6, a7, a9, eb]
  simp only [ed]
  exact this
theorem InvL.rdh {iv av : IVt} (h : InvL iv av) (hR : InvR iv av) (hB : iv 14 1 = 0) : RdH iv av := by
  obtain ⟨⟨g1, g2, g3, g4, g5⟩, h2⟩ := h
  refine ⟨⟨g1.1, g1.2.1⟩, g2.2, g3.2, fun j hj => (g4 j hj).2, fun j hj => (g5 j hj).2.2, fun f hf => ?_, hR.2.1, hR.2.2.1⟩
  obtain ⟨_, z1, z2, z3⟩ := h2 f hf
  refine ⟨z1, ?_, z3⟩
  rcases z2 with z2 | ⟨y1, y2, y3, y4, y5, y6, y7⟩
  · exact Or.inl z2
  · have hne : av 6 (8 * f + 4) ≠ iv 5 6 := fun hh => by
      have := y6 hh
      have := z1.2.2.2.2.2.2.2
      omega
    exact Or.inr ⟨y1, by omega, y3, y4, y5, fun hh => y7 (by omega) hh⟩
theorem bBeg_in {av : IVt} {f : Nat} (h0 : 0 ≤ av 6 (8 * f + 2)) (h1 : av 6 (8 * f + 2) ≤ 131072) : ∀ m : Nat, 0 ≤ bBeg av f m ∧ bBeg av f m ≤ 131072 + m * 16777215 := by
  intro m
  induction m with
  | zero => show 0 ≤ av 6 (8 * f + 2) ∧ av 6 (8 * f + 2) ≤ 131072 + 0 * 16777215; omega
  | succ m ih =>
    have e : bBeg av f (m + 1) = bBeg av f m + av 7 ((av 6 (8 * f + 7)).toNat + m) % 16777216 := rfl
    omega
section SCread
variable {Y : Gl} {X : Cx} {e : Nat} {iv av : IVt}
theorem bk_in (h : RdH iv av) : 4096 ≤ bkN iv ∧ bkN iv ≤ 65536 := by
  have h1 := h.1
  have g1 := Nat.pow_le_pow_right (show 0 < 2 by omega) (show 12 ≤ (iv 5 4).toNat by omega)
  have g2 := Nat.pow_le_pow_right (show 0 < 2 by omega) (show (iv 5 4).toNat ≤ 16 by omega)
  unfold bkN
  exact ⟨g1, g2⟩
/-- a file's piece is there -/
theorem pc_there (h : RdH iv av) {f k : Nat} (hf : f < 64) (hk : (k : Int) * bkN iv < av 6 (8 * f + 1)) : (k : Int) < av 6 (8 * f + 3) ∨ ((k : Int) = av 6 (8 * f + 3) ∧ 0 ≤ av 6 (8 * f + 4) ∧ av 6 (8 * f + 4) < iv 5 6 ∧ due iv (av 6 (8 * f + 1)) k = av 6 (8 * f + 1) % bkS iv ∧ 
    av 6 (8 * f + 5) + due iv (av 6 (8 * f + 1)) k ≤ bkS iv ∧ (16777216 ≤ av 9 (av 6 (8 * f + 4)).toNat → av 6 (8 * f + 5) + due iv (av 6 (8 * f + 1)) k ≤ av 9 (av 6 (8 * f + 4)).toNat - 16777216)) := by
  have hb := bk_in h
  obtain ⟨h1, h2, h3⟩ := h.2.2.2.2.2.1 f hf
  have eb := bkS_eq iv
  have hbp : (0 : Int) < bkS iv := by omega
  rw [← eb] at hk
  rcases h2 with ⟨a1, a2⟩ | ⟨a1, a2, a3, a4, a5, a6⟩
  · left
    rw [a2]
    have : (k : Int) + 1 ≤ (av 6 (8 * f + 1) + bkS iv - 1) / bkS iv := by
      apply Int.le_ediv_of_mul_le hbp
      rw [Int.add_mul]
      omega
    omega
  · by_cases hlt : (k : Int) < av 6 (8 * f + 3)
    · exact Or.inl hlt
    · right
      have hle : (k : Int) ≤ av 6 (8 * f + 1) / bkS iv := by
        apply Int.le_ediv_of_mul_le hbp
        omega
      have hkeq : (k : Int) = av 6 (8 * f + 1) / bkS iv := by omega
      have hd : due iv (av 6 (8 * f + 1)) k = av 6 (8 * f + 1) % bkS iv := by
        unfold due
        have h5 := Int.emod_add_mul_ediv (av 6 (8 * f + 1)) (bkS iv)
        have h6 := Int.emod_lt_of_pos (av 6 (8 * f + 1)) hbp
        rw [hkeq]
        rw [Int.mul_comm] at h5
        omega
      rw [hd]
      exact ⟨by omega, a1, a2, rfl, a5, a6⟩
theorem cpy_at {g h : Nat → Int} {a b n j : Nat} (hj : b ≤ j ∧ j < b + n) : va_cpy g h a b n j = g (a + (j - b)) := by
  unfold va_cpy
  rw [if_pos hj]
theorem cpy_out {g h : Nat → Int} {a b n j : Nat} (hj : ¬ (b ≤ j ∧ j < b + n)) : va_cpy g h a b n j = h j := by
  unfold va_cpy
  rw [if_neg hj]
abbrev LPi : List Nat := [16, 18, 58, 72]
abbrev LPa : List Nat := [17, 19, 60, 61, 62, 64, 65, 66, 68, 69, 70, 71]
/-- a piece's end -/
def PcE (iv av iv' av' : IVt) (f k : Nat) (ins len r : Int) : Prop :=
  Off LPi iv iv' ∧ Off LPa av av' ∧ 0 ≤ iv' 16 1 ∧ iv' 16 1 ≤ 65536 ∧
  ((pc iv av f k = none ∧ r = -4 ∧ iv' 18 1 = iv 18 1) ∨ (∃ c, pc iv av f k = some c ∧ r = pcT av f k ∧ iv' 18 1 = iv 18 1 + len ∧ (∀ j : Nat, j < iv 18 1 → av' 19 j = av 19 j) ∧ ∀ j : Nat, j < len → av' 19 ((iv 18 1).toNat + j) = c (ins.toNat + j)))
theorem s_X11_readPiece (h : RdH iv av) {f k : Nat} {p stop : Int} (hf : f < 64) (hk0 : (k : Int) * bkN iv ≤ p) (hk1 : stop ≤ ((k : Int) + 1) * bkN iv) (hps : p < stop) (hS : stop ≤ av 6 (8 * f + 1)) (h18 : 0 ≤ iv 18 1) (hfit : iv 18 1 + (stop - p) ≤ 4096) (h16 : 0 ≤ iv 16 1 ∧ iv 16 1 ≤ 65536) :
    OkN Y (e + 5) mX11_readPiece [.ref (gl_b Y + 0), .int (i32 (f : Int)), .int (i32 (k : Int)), .int (i32 p), .int (i32 stop)] RV iv av 116 (fun r iv' av' => PcE iv av iv' av' f k (p - k * bkN iv) (stop - p) r) := by
  have hb := bk_in h
  have eb := bkS_eq iv
  have hh := h
  obtain ⟨hl, hn, hfr, hnum, hfrag, hLF, hrc⟩ := h
  obtain ⟨hz, hfo, has⟩ := hLF f hf
  have hthere := pc_there hh hf (k := k) (by omega)
  have hk80 : (k : Int) ≤ 16 := by
    have : (k : Int) * 4096 ≤ k * bkN iv := Int.mul_le_mul_of_nonneg_left (by omega) (by omega)
    omega
  have hkb0 : (0 : Int) ≤ k * bkN iv := Int.mul_nonneg (by omega) (by omega)
  have hdue : due iv (av 6 (8 * f + 1)) k = min (bkS iv) (av 6 (8 * f + 1) - k * bkS iv) := rfl
  have hd0 : stop - k * bkN iv ≤ due iv (av 6 (8 * f + 1)) k := by
    rw [hdue, eb]
    rw [Int.add_mul] at hk1
    omega
  have hdb : due iv (av 6 (8 * f + 1)) k ≤ bkN iv := by
    rw [hdue, eb]
    omega
  have hdu0 : 0 < due iv (av 6 (8 * f + 1)) k := by omega
  have hbb := bBeg_in hz.2.2.1 hz.2.2.2.1
  have hpow : (2 : Int) ^ (iv 5 4).toNat = bkN iv := by unfold bkN; simp
  refine o_X11_readPiece (by omega) (by omega) fun X C => OkN.mono (s_X5_fact (w := 3) hf (by omega)) ?_
  rintro r1 iv1 av1 hR1 ⟨rfl, rfl, rfl⟩ hr1
  -- the numbers at hand
  have tail174 : ∀ (b beg : Int) (least most off : Nat), 0 < b → b ≤ 16842752 → 0 ≤ beg → InR beg → least = off + (due iv1 (av1 6 (8 * f + 1)) k).toNat → least ≤ most → most ≤ 65536 → (16777216 ≤ b → (least : Int) ≤ b - 16777216) → pcB av1 f k = b → pc iv1 av1 f k = blkC (av1 13) (iv1 12 1) b beg least most off →
      L_X11_readPiece_174 Y X (fun r iv' av' => PcE iv1 av1 iv' av' f k (p - k * bkN iv1) (stop - p) r) p stop b beg (off + p - k * bkN iv1) least most iv1 av1 := by
    intro b beg least most off hb0 hb1 hbeg hbegR hleast hlm hm hasit hpcb hpc
    have ht : pcT av1 f k = 1 := by unfold pcT; rw [hpcb, if_neg (by omega)]
    have hspec : blkC (av1 13) (iv1 12 1) b beg least most off = if iv1 12 1 < beg + b % 16777216 then none else if 16777216 ≤ b then some (fun j => av1 13 (beg.toNat + off + j)) else
        (match unpackF (BB (av1 13) beg.toNat (8 * b.toNat)) (8 * b.toNat) most with
        | none => none
        | some o => if o.1 < least then none else some (fun j => o.2 (off + j))) := by
      unfold blkC
      rw [if_neg (by omega)]
      rfl
    have bad : blkC (av1 13) (iv1 12 1) b beg least most off = none → ∀ {iv2 av2 : IVt}, Off LPi iv1 iv2 → Off LPa av1 av2 → 0 ≤ iv2 16 1 ∧ iv2 16 1 ≤ 65536 → iv2 18 1 = iv1 18 1 → PcE iv1 av1 iv2 av2 f k (p - k * bkN iv1) (stop - p) (-4) := fun hd iv2 av2 a1 a2 a3 a4 => ⟨a1, a2, a3.1, a3.2, Or.inl ⟨by rw [hpc]; exact hd, rfl, a4⟩⟩
    refine w_X11_readPiece_174 C (by omega) hbegR (by omega) (by omega) (by omega) (OkN.mono (s_X2_count bk_12) ?_)
    rintro r2 iv2 av2 hR2 ⟨rfl, rfl, rfl⟩ hr2
    refine ⟨by omega, fun hle => ⟨fun hpk => ⟨by omega, ?_⟩, fun hasis => ⟨by omega, by omega, ?_⟩⟩, fun hgt => bad (by rw [hspec, if_pos (by omega)]) (Off.rf _ _) (Off.rf _ _) h16 rfl⟩
    · -- packed
      have hbm : b % 16777216 = b := by omega
      rw [hbm] at hle ⊢
      have hun := s_X10_unpack (Y := Y) (e := e) (iv := iv2) (av := av2) (fr := beg.toNat) (most := most) (N := 8 * b.toNat) (k := b.toNat) rfl (by omega) hrc.2 hm h16.1
      rw [show ((beg.toNat : Nat) : Int) = beg by omega, show ((beg.toNat + b.toNat : Nat) : Int) = beg + b by omega] at hun
      refine OkN.mono hun ?_
      rintro r3 iv3 av3 hR3 ⟨c1, c2, c3, c4, c5⟩ hr3
      have d1 : Off LPi iv2 iv3 := c1.mono (by decide)
      have d2 : Off LPa av2 av3 := c2.mono (by decide)
      have e18 : iv3 18 1 = iv2 18 1 := by rw [c1 18 (by decide)]
      refine ⟨fun hz => w_X11_readPiece_259 C (bad ?_ d1 d2 ⟨c3, c4⟩ e18), fun hnz => OkN.mono (s_X2_count bk_16) ?_⟩
      · rcases c5 with ⟨c5, _⟩ | ⟨_, c5⟩
        · omega
        · rw [hspec, if_neg (by omega), if_neg (by omega), c5]
      rintro r4 iv4 av4 hR4 ⟨rfl, rfl, rfl⟩ hr4
      obtain ⟨_, o', c6, c7, c8, c9⟩ := c5.resolve_right (fun h => hnz h.1)
      clear c5
      refine ⟨fun hge => ⟨by omega, OkN.mono (s_X2_addAll bk_18 bk_16 (f := (off : Int) + p - k * bkN iv2) (n := stop - p) (by omega) (by omega) (by omega) (by omega) (by omega) (by show iv4 16 1 ≤ ((65536 : Nat) : Int); omega) (by omega) (by show _ ≤ ((4096 : Nat) : Int); omega)) ?_⟩, fun hlt => w_X11_readPiece_259 C (bad ?_ d1 d2 ⟨c3, c4⟩ e18)⟩
      · rintro r5 iv5 av5 hR5 ⟨rfl, rfl⟩
        refine ⟨d1.up (by decide), d2.upA (by decide), c3, c4, Or.inr ⟨fun j => o'.2 (off + j), ?_, ht.symm, ?_, fun j hj => ?_, fun j hj => ?_⟩⟩
        · rw [hpc, hspec, if_neg (by omega), if_neg (by omega), c6]
          dsimp only
          rw [if_neg (by omega)]
        · rw [up2_eq, e18]
        · rw [upA_eq, cpy_out (by omega), c2 19 (by decide)]
        · rw [upA_eq, cpy_at (by omega)]
          rw [c9 _ (by omega)]
          exact congrArg o'.2 (by omega)
      · rw [hspec, if_neg (by omega), if_neg (by omega), c6]
        dsimp only
        rw [if_pos (by omega)]
    · -- as it is
      have hle2 : (least : Int) ≤ b % 16777216 := by
        have := hasit (by omega)
        omega
      refine OkN.mono (s_X2_addAll bk_18 bk_12 (f := beg + ((off : Int) + p - k * bkN iv2)) (n := stop - p) (by omega) (by omega) (by omega) (by omega) (by omega) (by show iv2 12 1 ≤ ((131072 : Nat) : Int); omega) (by omega) (by show _ ≤ ((4096 : Nat) : Int); omega)) ?_
      rintro r5 iv5 av5 hR5 ⟨rfl, rfl⟩
      refine ⟨(Off.rf _ _).up (by decide), (Off.rf _ _).upA (by decide), h16.1, h16.2, Or.inr ⟨fun j => av2 13 (beg.toNat + off + j), ?_, ht.symm, up2_eq _ _ _ _, fun j hj => ?_, fun j hj => ?_⟩⟩
      · rw [hpc, hspec, if_neg (by omega), if_pos (by omega)]
      · rw [upA_eq, cpy_out (by omega)]
      · rw [upA_eq, cpy_at (by omega)]
        congr 1
        omega
  have hpcZ : ∀ beg : Int, ∀ least most off : Nat, blkC (av1 13) (iv1 12 1) 0 beg least most off = some (fun _ => 0) := fun beg least most off => by unfold blkC; rw [if_pos rfl]
  refine ⟨fun hlt => ?_, fun hge => ?_⟩
  · -- a block
    have hnumk := hnum ((av1 6 (8 * f + 7)).toNat + k) (by omega)
    have ebk : pcB av1 f k = av1 7 ((av1 6 (8 * f + 7)).toNat + k) := by unfold pcB; rw [if_pos hlt]
    have epc : pc iv1 av1 f k = blkC (av1 13) (iv1 12 1) (pcB av1 f k) (bBeg av1 f k) (due iv1 (av1 6 (8 * f + 1)) k).toNat (due iv1 (av1 6 (8 * f + 1)) k).toNat 0 := by unfold pc; rw [if_pos hlt]
    refine w_X11_readPiece_20 C (by omega) (by omega) (by omega) (OkN.mono (s_X5_fact (w := 4) hf (by omega)) ?_)
    rintro r2 iv2 av2 hR2 ⟨rfl, rfl, rfl⟩ hr2
    refine ⟨fun _ => OkN.mono (s_X5_blockNumber hf hz.2.2.2.2.2.1 (by omega)) ?_, fun h => absurd rfl h⟩
    rintro r3 iv3 av3 hR3 ⟨rfl, rfl, rfl⟩ hr3
    rw [← ebk] at hr3 ⊢
    rw [← ebk] at hnumk
    refine ⟨fun hnz => ⟨fun _ => OkN.mono (s_X5_blockBegin hf hz.2.2.2.2.2.1 (by omega) fun m hm => by have := hbb m; omega) ?_, fun h => absurd rfl h⟩, fun hz0 => ⟨by omega, ?_⟩⟩
    · rintro r4 iv4 av4 hR4 ⟨rfl, rfl, rfl⟩ hr4
      refine ⟨fun _ => w_X11_readPiece_125 C (by omega) (by omega) (by omega) (OkN.mono s_X5_log ?_), fun h => absurd rfl h⟩
      rintro r5 iv5 av5 hR5 ⟨rfl, rfl, rfl⟩ hr5
      refine ⟨by omega, OkN.mono (s_X5_wholeBytes hf (by omega) (by omega) (by omega) ⟨hz.1, hz.2.1⟩) ?_⟩
      rintro r6 iv6 av6 hR6 ⟨rfl, rfl, rfl⟩ hr6
      rw [hpow, ← eb, ← hdue] at hr6 ⊢
      refine ⟨fun _ => ?_, fun h => absurd rfl h⟩
      have := tail174 (pcB av6 f k) (bBeg av6 f k) (due iv6 (av6 6 (8 * f + 1)) k).toNat (due iv6 (av6 6 (8 * f + 1)) k).toNat 0 (by omega) (by omega) (hbb k).1 (by have := hbb k; omega) (by omega) (Nat.le_refl _) (by omega) (fun hh => by
        rw [ebk] at hh
        have := has k (by omega) hh
        rw [ebk]
        omega) rfl epc
      rw [show ((0 : Nat) : Int) + p - k * bkN iv6 = 0 + p - k * bkS iv6 by rw [eb]; omega, show ((due iv6 (av6 6 (8 * f + 1)) k).toNat : Int) = 0 + due iv6 (av6 6 (8 * f + 1)) k by omega] at this
      exact this
    · refine OkN.mono (s_X2_addZeros bk_18 (by omega) (by omega) h18 (by show _ ≤ ((4096 : Nat) : Int); omega)) ?_
      rintro r4 iv4 av4 hR4 ⟨rfl, rfl⟩
      refine ⟨(Off.rf _ _).up (by decide), (Off.rf _ _).upA (by decide), h16.1, h16.2, Or.inr ⟨fun _ => 0, ?_, ?_, up2_eq _ _ _ _, fun j hj => ?_, fun j hj => ?_⟩⟩
      · rw [epc, hz0, hpcZ]
      · unfold pcT
        rw [if_pos hz0]
      · rw [upA_eq, if_neg (by omega)]
      · rw [upA_eq, if_pos (by omega)]
  · -- the rest
    obtain ⟨q1, q2, q3, q4, q5, q6⟩ := hthere.resolve_left hge
    have hfg := hfrag (av1 6 (8 * f + 4)).toNat (by omega)
    have ebk : pcB av1 f k = av1 9 (av1 6 (8 * f + 4)).toNat := by unfold pcB; rw [if_neg hge]
    have epc : pc iv1 av1 f k = blkC (av1 13) (iv1 12 1) (pcB av1 f k) (av1 8 (av1 6 (8 * f + 4)).toNat) ((av1 6 (8 * f + 5)).toNat + (due iv1 (av1 6 (8 * f + 1)) k).toNat) (bkN iv1) (av1 6 (8 * f + 5)).toNat := by unfold pc; rw [if_neg hge]
    refine w_X11_readPiece_20 C (by omega) (by omega) (by omega) (OkN.mono (s_X5_fact (w := 4) hf (by omega)) ?_)
    rintro r2 iv2 av2 hR2 ⟨rfl, rfl, rfl⟩ hr2
    refine ⟨fun h => absurd h (by decide), fun _ => OkN.mono (s_X5_fragmentNumber (by omega)) ?_⟩
    rintro r3 iv3 av3 hR3 ⟨rfl, rfl, rfl⟩ hr3
    rw [if_pos (by omega)] at hr3 ⊢
    refine ⟨fun hnz => ⟨fun h => absurd h (by decide), fun _ => OkN.mono (s_X5_fragmentBegin (by omega)) ?_⟩, fun hz0 => absurd hz0 (by omega)⟩
    rintro r4 iv4 av4 hR4 ⟨rfl, rfl, rfl⟩ hr4
    rw [if_pos (by omega)] at hr4 ⊢
    refine ⟨fun h => absurd h (by decide), fun _ => OkN.mono (s_X5_fact (w := 5) hf (by omega)) ?_⟩
    rintro r4 iv4 av4 hR4 ⟨rfl, rfl, rfl⟩ hr4
    refine w_X11_readPiece_125 C (by omega) (by omega) (by omega) (OkN.mono s_X5_log ?_)
    rintro r5 iv5 av5 hR5 ⟨rfl, rfl, rfl⟩ hr5
    refine ⟨by omega, OkN.mono (s_X5_wholeBytes hf (by omega) (by omega) (by omega) ⟨hz.1, hz.2.1⟩) ?_⟩
    rintro r6 iv6 av6 hR6 ⟨rfl, rfl, rfl⟩ hr6
    rw [hpow, ← eb, ← hdue] at hr6 ⊢
    refine ⟨fun h => absurd h (by decide), fun _ => OkN.mono (s_X5_blockBytes (by omega) (by omega)) ?_⟩
    rintro r7 iv7 av7 hR7 ⟨rfl, rfl, rfl⟩ hr7
    rw [hpow]
    have z8 := hz.2.2.2.2.2.2.2
    have := tail174 (av7 9 (av7 6 (8 * f + 4)).toNat) (av7 8 (av7 6 (8 * f + 4)).toNat) ((av7 6 (8 * f + 5)).toNat + (due iv7 (av7 6 (8 * f + 1)) k).toNat) (bkN iv7) (av7 6 (8 * f + 5)).toNat hfg.2.2.1 hfg.2.2.2 hfg.1 (by omega) rfl (by omega) hb.2 (fun hh => by
      have := q6 hh
      omega) ebk (by rw [epc, ebk])
    rw [show (((av7 6 (8 * f + 5)).toNat : Nat) : Int) + p - k * bkN iv7 = av7 6 (8 * f + 5) + p - k * bkS iv7 by rw [eb]; omega, show (((av7 6 (8 * f + 5)).toNat + (due iv7 (av7 6 (8 * f + 1)) k).toNat : Nat) : Int) = av7 6 (8 * f + 5) + due iv7 (av7 6 (8 * f + 1)) k by omega] at this
    exact this
end SCread
