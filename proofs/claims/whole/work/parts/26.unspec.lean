/-! What unpacking is, as plain math; the small tables on both sides. -/
abbrev Outp : Type := Nat × (Nat → Int)
noncomputable def cif {α : Type} (P : Prop) (a b : α) : α := @ite α P (Classical.propDecidable P) a b
theorem cif_pos {α : Type} {P : Prop} {a b : α} (h : P) : cif P a b = a := by unfold cif; rw [if_pos h]
theorem cif_neg {α : Type} {P : Prop} {a b : α} (h : ¬ P) : cif P a b = b := by unfold cif; rw [if_neg h]
def nn (b : Nat → Int) (p k : Nat) : Nat := (nv b p k).toNat
theorem nn_eq {b : Nat → Int} (hb : Bit b) (p k : Nat) : nv b p k = (nn b p k : Nat) := by
  have := (nv_in hb p k).1
  unfold nn
  omega
theorem nn_lt {b : Nat → Int} (hb : Bit b) (p k : Nat) : nn b p k < 2 ^ k := by
  have h := nv_in hb p k
  have e : ((2 ^ k : Nat) : Int) = 2 ^ k := by simp
  unfold nn
  omega
def sbits (s : Nat) : Nat := if s < 16 then 0 else if s = 16 then 2 else if s = 17 then 3 else 7
def stimes (s : Nat) : Nat := if s = 16 then 3 else if s = 17 then 3 else if s = 18 then 11 else 1
def lbits (s : Nat) : Nat := if s < 265 then 0 else if s < 285 then (s - 261) / 4 else 0
def lbase (s : Nat) : Nat := if s < 265 then s - 254 else if s < 285 then 3 + (4 + (s - 261) % 4) * 2 ^ lbits s else 258
def dbits (d : Nat) : Nat := if d < 4 then 0 else d / 2 - 1
def dbase (d : Nat) : Nat := if d < 4 then d + 1 else 1 + (2 + d % 2) * 2 ^ dbits d
theorem lbits_le (s : Nat) : lbits s ≤ 5 := by unfold lbits; split <;> (try split) <;> omega
theorem sbits_le (s : Nat) : sbits s ≤ 7 := by unfold sbits; split <;> (try split) <;> (try split) <;> omega
theorem dbits_le {d : Nat} (h : d ≤ 31) : dbits d ≤ 14 := by unfold dbits; split <;> omega
theorem lbase_le {s : Nat} (h : 257 ≤ s) (h2 : s ≤ 285) : 3 ≤ lbase s ∧ lbase s ≤ 258 := by
  have : ∀ s : Nat, s < 286 → 257 ≤ s → 3 ≤ lbase s ∧ lbase s ≤ 258 := by decide +kernel
  exact this s (by omega) h
theorem dbase_le {d : Nat} (h : d ≤ 31) : 1 ≤ dbase d ∧ dbase d ≤ 49153 := by
  have : ∀ d : Nat, d < 32 → 1 ≤ dbase d ∧ dbase d ≤ 49153 := by decide +kernel
  exact this d (by omega)
def oinv (s : Nat) : Nat := [3, 17, 15, 13, 11, 9, 7, 5, 4, 6, 8, 10, 12, 14, 16, 18, 0, 1, 2].getD s 0
def ordN (k : Nat) : Nat := (g_ordL.getD k 0).toNat
theorem ord_inv {s : Nat} (h : s < 19) : oinv s < 19 ∧ ordN (oinv s) = s := by
  have : ∀ s : Nat, s < 19 → oinv s < 19 ∧ ordN (oinv s) = s := by decide +kernel
  exact this s h
theorem inv_ord {s : Nat} (h : s < 19) : ordN s < 19 ∧ oinv (ordN s) = s ∧ g_ordL.getD s 0 = ordN s := by
  have : ∀ s : Nat, s < 19 → ordN s < 19 ∧ oinv (ordN s) = s ∧ g_ordL.getD s 0 = ordN s := by decide +kernel
  exact this s h
/-- the lengths of the codes of lengths -/
def zs (b : Nat → Int) (p c s : Nat) : Int := if oinv s < c then nv b (p + 3 * oinv s) 3 else 0
def rowV (s a : Nat) (row : Nat → Int) : Int := if s < 16 then (s : Int) else if s = 16 then row (a - 1) else 0
/-- the row of lengths -/
def rowF (b : Nat → Int) (N : Nat) (z : Nat → Int) (all : Nat) : Nat → Nat → Nat → (Nat → Int) → Option (Nat × (Nat → Int))
  | 0, _, _, _ => none
  | m + 1, p, a, row => if all ≤ a then some (p, row) else match sym b N z 19 p with
    | none => none
    | some (s, p1) => if (s = 16 ∧ a = 0) ∨ N < p1 + sbits s ∨ all < a + (stimes s + nn b p1 (sbits s)) then none
      else rowF b N z all m (p1 + sbits s) (a + (stimes s + nn b p1 (sbits s))) (fun i => if a ≤ i ∧ i < a + (stimes s + nn b p1 (sbits s)) then rowV s a row else row i)
def fSy (h : Nat) (row : Nat → Int) : Nat → Int := fun s => if s < h then row s else 0
def fDi (h d : Nat) (row : Nat → Int) : Nat → Int := fun s => if s < d then row (h + s) else 0
noncomputable def madeC (h d : Nat) : Option (Nat × (Nat → Int)) → Option (Nat × (Nat → Int) × (Nat → Int))
  | none => none
  | some (p, row) => cif (fSy h row 256 = 0 ∨ ¬ okC (fSy h row) 288 False ∨ ¬ okC (fDi h d row) 32 True) none (some (p, fSy h row, fDi h d row))
/-- the codes of a made part -/
noncomputable def madeF (b : Nat → Int) (N p : Nat) : Option (Nat × (Nat → Int) × (Nat → Int)) :=
  cif (N < p + 14 + 3 * (nn b (p + 10) 4 + 4) ∨ 286 < nn b p 5 + 257 ∨ 30 < nn b (p + 5) 5 + 1 ∨ ¬ okC (zs b (p + 14) (nn b (p + 10) 4 + 4)) 19 False) none
    (madeC (nn b p 5 + 257) (nn b (p + 5) 5 + 1) (rowF b N (zs b (p + 14) (nn b (p + 10) 4 + 4)) (nn b p 5 + 257 + (nn b (p + 5) 5 + 1)) 400 (p + 14 + 3 * (nn b (p + 10) 4 + 4)) 0 fun _ => 0))
def cpyF (far : Nat) : Nat → Nat → (Nat → Int) → Nat → Int
  | 0, _, g => g
  | m + 1, n, g => cpyF far m (n + 1) fun i => if i = n then g (n - far) else g i
/-- symbols up to a part's end -/
def symsF (b : Nat → Int) (N : Nat) (fS fD : Nat → Int) (most win : Nat) : Nat → Nat → Outp → Option (Nat × Outp)
  | 0, _, _ => none
  | m + 1, p, o => match sym b N fS 288 p with
    | none => none
    | some (s, p1) => if s = 256 then some (p1, o) else if s < 256 then (if most ≤ o.1 then none else symsF b N fS fD most win m p1 (o.1 + 1, fun i => if i = o.1 then bm8 s else o.2 i))
      else if 285 < s ∨ N < p1 + lbits s then none else match sym b N fD 32 (p1 + lbits s) with
        | none => none
        | some (d, p3) => if 29 < d ∨ N < p3 + dbits d ∨ o.1 < dbase d + nn b p3 (dbits d) ∨ win < dbase d + nn b p3 (dbits d) ∨ most < o.1 + (lbase s + nn b p1 (lbits s)) then none
          else symsF b N fS fD most win m (p3 + dbits d) (o.1 + (lbase s + nn b p1 (lbits s)), cpyF (dbase d + nn b p3 (dbits d)) (lbase s + nn b p1 (lbits s)) o.1 o.2)
def toB (p : Nat) : Nat := (p + 7) / 8 * 8
def storedF (b : Nat → Int) (N most p : Nat) (o : Outp) : Option (Nat × Outp) :=
  if N < toB p + 32 ∨ nn b (toB p) 16 + nn b (toB p + 16) 16 ≠ 65535 ∨ N < toB p + 32 + 8 * nn b (toB p) 16 ∨ most < o.1 + nn b (toB p) 16 then none
  else some (toB p + 32 + 8 * nn b (toB p) 16, (o.1 + nn b (toB p) 16, fun i => if o.1 ≤ i ∧ i < o.1 + nn b (toB p) 16 then bm8 (nv b (toB p + 32 + 8 * (i - o.1)) 8) else o.2 i))
noncomputable def partM (b : Nat → Int) (N most win : Nat) (o : Outp) : Option (Nat × (Nat → Int) × (Nat → Int)) → Option (Nat × Outp)
  | none => none
  | some (p, fS, fD) => symsF b N fS fD most win (N + 1) p o
noncomputable def partF (b : Nat → Int) (N most win : Nat) (sort : Int) (p : Nat) (o : Outp) : Option (Nat × Outp) :=
  if sort = 0 then storedF b N most p o else if sort = 1 then symsF b N fxL (fun _ => 5) most win (N + 1) p o else if sort = 2 then partM b N most win o (madeF b N p) else none
noncomputable def unpF (b : Nat → Int) (N most win : Nat) : Nat → Nat → Outp → Option (Nat × Outp)
  | 0, _, _ => none
  | m + 1, p, o => if N < p + 3 then none else match partF b N most win (nv b (p + 1) 2) (p + 3) o with
    | none => none
    | some (p', o') => if b p = 1 then some (p', o') else unpF b N most win m p' o'
def adl (g : Nat → Int) : Nat → Int × Int
  | 0 => (1, 0)
  | m + 1 => (((adl g m).1 + g m % 256) % 65521, ((adl g m).2 + ((adl g m).1 + g m % 256) % 65521) % 65521)
theorem adl_in (g : Nat → Int) : ∀ m, 0 ≤ (adl g m).1 ∧ (adl g m).1 < 65521 ∧ 0 ≤ (adl g m).2 ∧ (adl g m).2 < 65521 := by
  intro m
  cases m with
  | zero =>
    show (0 : Int) ≤ 1 ∧ (1 : Int) < 65521 ∧ (0 : Int) ≤ 0 ∧ (0 : Int) < 65521
    decide
  | succ m =>
    unfold adl
    dsimp only
    omega
theorem adl_eq {g h : Nat → Int} : ∀ m, (∀ j, j < m → g j = h j) → adl g m = adl h m := by
  intro m
  induction m with
  | zero => exact fun _ => rfl
  | succ m ih =>
    intro hg
    unfold adl
    rw [ih (fun j hj => hg j (by omega)), hg m (by omega)]
def chk4 (b : Nat → Int) (q : Nat) : Int := ((nv b q 8 * 256 + nv b (q + 8) 8) * 256 + nv b (q + 16) 8) * 256 + nv b (q + 24) 8
def unpC (b : Nat → Int) (N : Nat) : Option (Nat × Outp) → Option Outp
  | none => none
  | some (p, o) => if toB p + 32 = N ∧ chk4 b (toB p) = 65536 * (adl o.2 o.1).2 + (adl o.2 o.1).1 then some o else none
noncomputable def unpackF (b : Nat → Int) (N most : Nat) : Option Outp :=
  if N < 16 ∨ (256 * nv b 0 8 + nv b 8 8) % 31 ≠ 0 ∨ nv b 0 8 % 16 ≠ 8 ∨ 7 < nv b 0 8 / 16 ∨ nv b 8 8 / 32 % 2 = 1 then none
  else unpC b N (unpF b N most (256 * 2 ^ (nn b 0 8 / 16)) (N + 1) 16 (0, fun _ => 0))
section STables
variable {Y : Gl} {e : Nat} {iv av : IVt}
theorem s_X11_sizeBits {x : Int} (hx : InR x) : OkN Y e mX11_sizeBits [.int (i32 x)] RV iv av 116 (Same iv av (sbits x.toNat)) := by
  refine o_X11_sizeBits hx ?_
  unfold sbits
  grind
theorem s_X11_lengthBits {s : Nat} (hs : s < 1000) : OkN Y e mX11_lengthBits [.int (i32 (s : Int))] RV iv av 116 (Same iv av (lbits s)) := by
  refine o_X11_lengthBits (by omega) ⟨fun h => ⟨?_, rfl, rfl⟩, fun h => ⟨fun h2 => ⟨by omega, by omega, ?_, rfl, rfl⟩, fun h2 => ⟨?_, rfl, rfl⟩⟩⟩
  · unfold lbits; rw [if_pos (by omega)]; rfl
  · unfold lbits; rw [if_neg (by omega), if_pos (by omega)]; omega
  · unfold lbits; rw [if_neg (by omega), if_neg (by omega)]; rfl
theorem s_X13_lengthBits {s : Nat} (hs : s ≤ 285) : OkN Y e mX13_lengthBits [.int (i32 (s : Int))] RV iv av 116 (Same iv av (lbits s)) := by
  refine o_X13_lengthBits (by omega) ⟨fun h => ⟨?_, rfl, rfl⟩, fun h => ⟨fun h2 => ⟨by omega, by omega, ?_, rfl, rfl⟩, fun h2 => ⟨?_, rfl, rfl⟩⟩⟩
  · unfold lbits; rw [if_pos (by omega)]; rfl
  · unfold lbits; rw [if_neg (by omega), if_pos (by omega)]; omega
  · unfold lbits; rw [if_neg (by omega), if_neg (by omega)]; rfl
theorem lb_val {s : Nat} (h1 : 265 ≤ s) (h2 : s < 285) : 3 + (4 + ((s : Int) - 261) % 4) * 2 ^ ((lbits s : Nat) : Int).toNat = ((lbase s : Nat) : Int) := by
  have hl : lbase s = 3 + (4 + (s - 261) % 4) * 2 ^ lbits s := by unfold lbase; rw [if_neg (by omega), if_pos h2]
  rw [hl, Int.toNat_natCast]
  simp only [Int.natCast_add, Int.natCast_mul, Int.natCast_pow]
  have e1 : ((s : Int) - 261) % 4 = (((s - 261) % 4 : Nat) : Int) := by omega
  rw [e1]
  rfl
theorem s_X11_lengthBase {s : Nat} (h0 : 254 ≤ s) (hs : s < 1000) : OkN Y (e + 1) mX11_lengthBase [.int (i32 (s : Int))] RV iv av 116 (Same iv av (lbase s)) := by
  refine o_X11_lengthBase (by omega) ⟨fun h => ⟨fun h2 => ⟨by omega, by omega, OkN.mono (s_X11_lengthBits hs) ?_⟩, fun h2 => ⟨?_, rfl, rfl⟩⟩, fun h => ⟨by omega, ?_, rfl, rfl⟩⟩
  · rintro r iv' av' hR ⟨rfl, rfl, rfl⟩ hr
    have := lbits_le s
    have h3 := lbase_le (show 257 ≤ s by omega) (by omega)
    rw [lb_val (by omega) (by omega)]
    exact ⟨by omega, by omega, rfl, rfl, rfl⟩
  · unfold lbase; rw [if_neg (by omega), if_neg (by omega)]; rfl
  · unfold lbase; rw [if_pos (by omega)]; omega
theorem s_X13_lengthBase {s : Nat} (h0 : 254 ≤ s) (hs : s ≤ 285) : OkN Y (e + 1) mX13_lengthBase [.int (i32 (s : Int))] RV iv av 116 (Same iv av (lbase s)) := by
  refine o_X13_lengthBase (by omega) ⟨fun h => ⟨fun h2 => ⟨by omega, by omega, OkN.mono (s_X13_lengthBits hs) ?_⟩, fun h2 => ⟨by omega, ?_, rfl, rfl⟩⟩, fun h => ⟨?_, rfl, rfl⟩⟩
  · rintro r iv' av' hR ⟨rfl, rfl, rfl⟩ hr
    have := lbits_le s
    have h3 := lbase_le (show 257 ≤ s by omega) (by omega)
    rw [lb_val (by omega) (by omega)]
    exact ⟨by omega, by omega, rfl, rfl, rfl⟩
  · unfold lbase; rw [if_pos (by omega)]; omega
  · unfold lbase; rw [if_neg (by omega), if_neg (by omega)]; rfl
theorem s_X11_distanceBits {d : Nat} (hd : d < 1000) : OkN Y e mX11_distanceBits [.int (i32 (d : Int))] RV iv av 116 (Same iv av (dbits d)) := by
  refine o_X11_distanceBits (by omega) ⟨fun h => ⟨by omega, by omega, ?_, rfl, rfl⟩, fun h => ⟨?_, rfl, rfl⟩⟩
  · unfold dbits; rw [if_neg (by omega)]; omega
  · unfold dbits; rw [if_pos (by omega)]; rfl
theorem s_X13_distanceBits {d : Nat} (hd : d < 1000) : OkN Y e mX13_distanceBits [.int (i32 (d : Int))] RV iv av 116 (Same iv av (dbits d)) := by
  refine o_X13_distanceBits (by omega) ⟨fun h => ⟨by omega, by omega, ?_, rfl, rfl⟩, fun h => ⟨?_, rfl, rfl⟩⟩
  · unfold dbits; rw [if_neg (by omega)]; omega
  · unfold dbits; rw [if_pos (by omega)]; rfl
theorem db_val {d : Nat} (h1 : 4 ≤ d) : 1 + (2 + (d : Int) % 2) * 2 ^ ((dbits d : Nat) : Int).toNat = ((dbase d : Nat) : Int) := by
  have hl : dbase d = 1 + (2 + d % 2) * 2 ^ dbits d := by unfold dbase; rw [if_neg (by omega)]
  rw [hl, Int.toNat_natCast]
  simp only [Int.natCast_add, Int.natCast_mul, Int.natCast_pow]
  rfl
theorem s_X11_distanceBase {d : Nat} (hd : d ≤ 31) : OkN Y (e + 1) mX11_distanceBase [.int (i32 (d : Int))] RV iv av 116 (Same iv av (dbase d)) := by
  refine o_X11_distanceBase (by omega) ⟨fun h => ⟨by omega, OkN.mono (s_X11_distanceBits (by omega)) ?_⟩, fun h => ⟨by omega, ?_, rfl, rfl⟩⟩
  · rintro r iv' av' hR ⟨rfl, rfl, rfl⟩ hr
    have := dbits_le hd
    have h3 := dbase_le hd
    rw [db_val (by omega)]
    exact ⟨by omega, by omega, rfl, rfl, rfl⟩
  · unfold dbase; rw [if_pos (by omega)]; rfl
theorem s_X13_distanceBase {d : Nat} (hd : d ≤ 31) : OkN Y (e + 1) mX13_distanceBase [.int (i32 (d : Int))] RV iv av 116 (Same iv av (dbase d)) := by
  refine o_X13_distanceBase (by omega) ⟨fun h => ⟨by omega, OkN.mono (s_X13_distanceBits (by omega)) ?_⟩, fun h => ⟨by omega, ?_, rfl, rfl⟩⟩
  · rintro r iv' av' hR ⟨rfl, rfl, rfl⟩ hr
    have := dbits_le hd
    have h3 := dbase_le hd
    rw [db_val (by omega)]
    exact ⟨by omega, by omega, rfl, rfl, rfl⟩
  · unfold dbase; rw [if_pos (by omega)]; rfl
theorem s_X11_ordered {k : Nat} (hk : k < 19) : OkN Y e mX11_ordered [.int (i32 (k : Int))] RV iv av 116 (Same iv av (ordN k)) := by
  refine o_X11_ordered (by omega) ⟨fun h => absurd h (by omega), fun _ => ⟨fun h => absurd h (by omega), fun _ => ⟨by omega, ?_, rfl, rfl⟩⟩⟩
  rw [Int.toNat_natCast]
  exact (inv_ord hk).2.2
theorem s_X13_smallOrder {k : Nat} (hk : k < 19) : OkN Y e mX13_smallOrder [.int (i32 (k : Int))] RV iv av 116 (Same iv av (ordN k)) := by
  have key : ∀ k : Nat, k < 19 → ((k = 0 → ordN k = 16) ∧ (k = 1 → ordN k = 17) ∧ (k = 2 → ordN k = 18) ∧ (k = 3 → ordN k = 0) ∧ (4 ≤ k → k % 2 = 0 → ordN k = 6 + k / 2) ∧ (4 ≤ k → k % 2 ≠ 0 → ordN k = 9 - k / 2 ∧ k / 2 ≤ 9)) := by decide +kernel
  obtain ⟨g0, g1, g2, g3, g4, g5⟩ := key k hk
  refine o_X13_smallOrder (by omega) ⟨fun h0 => ⟨fun h1 => ⟨fun h2 => ⟨fun h3 => ⟨by omega, fun ho => ⟨by omega, ?_, rfl, rfl⟩, fun he => ⟨by omega, ?_, rfl, rfl⟩⟩, fun h3 => ⟨?_, rfl, rfl⟩⟩, fun h2 => ⟨?_, rfl, rfl⟩⟩, fun h1 => ⟨?_, rfl, rfl⟩⟩, fun h0 => ⟨?_, rfl, rfl⟩⟩
  · have := g5 (by omega) (by omega); omega
  · have := g4 (by omega) (by omega); omega
  · have := g3 (by omega); omega
  · have := g2 (by omega); omega
  · have := g1 (by omega); omega
  · have := g0 (by omega); omega
theorem s_X11_fixedLength {rv : RVt} {n s : Nat} (hs : s < 1000) : OkN Y e mX11_fixedLength [.int (i32 (s : Int))] rv iv av n (Same iv av (fxL s)) := by
  refine o_X11_fixedLength (by omega) ⟨fun h => ⟨fun h2 => ⟨fun h3 => ⟨?_, rfl, rfl⟩, fun h3 => ⟨?_, rfl, rfl⟩⟩, fun h2 => ⟨?_, rfl, rfl⟩⟩, fun h => ⟨?_, rfl, rfl⟩⟩
  · unfold fxL; rw [if_neg (by omega), if_neg (by omega), if_neg (by omega)]
  · unfold fxL; rw [if_neg (by omega), if_neg (by omega), if_pos (by omega)]
  · unfold fxL; rw [if_neg (by omega), if_pos (by omega)]
  · unfold fxL; rw [if_pos (by omega)]
end STables
