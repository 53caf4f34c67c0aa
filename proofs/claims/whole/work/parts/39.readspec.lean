/-! What reading is; unpacking with more room. -/
theorem symsF_more {b : Nat → Int} {N : Nat} {fS fD : Nat → Int} {most win : Nat} : ∀ (m p : Nat) (o : Outp) (p' : Nat) (o' : Outp), symsF b N fS fD most win m p o = some (p', o') → o.1 ≤ o'.1 ∧ (o.1 ≤ most → o'.1 ≤ most) ∧ ∀ m2, o'.1 ≤ m2 → symsF b N fS fD m2 win m p o = some (p', o') := by
  intro m
  induction m with
  | zero => intro p o p' o' h; simp [symsF] at h
  | succ m ih =>
    intro p o p' o' h
    rw [symsF] at h
    cases hs : sym b N fS 288 p with
    | none => rw [hs] at h; simp at h
    | some v =>
      obtain ⟨s, p1⟩ := v
      rw [hs] at h
      dsimp only at h
      by_cases h256 : s = 256
      · rw [if_pos h256] at h
        have h1 := Option.some.inj h
        have h2 := congrArg Prod.snd h1
        dsimp only at h2
        subst h2
        refine ⟨Nat.le_refl _, fun h => h, fun m2 _ => ?_⟩
        rw [symsF, hs]; dsimp only; rw [if_pos h256]; exact h
      · rw [if_neg h256] at h
        by_cases hlt : s < 256
        · rw [if_pos hlt] at h
          by_cases hm : most ≤ o.1
          · rw [if_pos hm] at h; simp at h
          · rw [if_neg hm] at h
            obtain ⟨i1, i2, i3⟩ := ih _ _ _ _ h
            dsimp only at i1 i2
            refine ⟨by omega, fun h => i2 (by omega), fun m2 hm2 => ?_⟩
            rw [symsF, hs]; dsimp only; rw [if_neg h256, if_pos hlt, if_neg (by omega)]
            exact i3 m2 hm2
        · rw [if_neg hlt] at h
          by_cases hb : 285 < s ∨ N < p1 + lbits s
          · rw [if_pos hb] at h; simp at h
          · rw [if_neg hb] at h
            cases hs2 : sym b N fD 32 (p1 + lbits s) with
            | none => rw [hs2] at h; simp at h
            | some v2 =>
              obtain ⟨d, p3⟩ := v2
              rw [hs2] at h
              dsimp only at h
              by_cases hc : 29 < d ∨ N < p3 + dbits d ∨ o.1 < dbase d + nn b p3 (dbits d) ∨ win < dbase d + nn b p3 (dbits d) ∨ most < o.1 + (lbase s + nn b p1 (lbits s))
              · rw [if_pos hc] at h; simp at h
              · rw [if_neg hc] at h
                obtain ⟨i1, i2, i3⟩ := ih _ _ _ _ h
                dsimp only at i1 i2
                refine ⟨by omega, fun h => i2 (by omega), fun m2 hm2 => ?_⟩
                rw [symsF, hs]; dsimp only; rw [if_neg h256, if_neg hlt, if_neg hb, hs2]; dsimp only
                rw [if_neg (by omega)]
                exact i3 m2 hm2
theorem partF_more {b : Nat → Int} {N most win : Nat} {sort : Int} {p : Nat} {o : Outp} {p' : Nat} {o' : Outp} (h : partF b N most win sort p o = some (p', o')) : o.1 ≤ o'.1 ∧ (o.1 ≤ most → o'.1 ≤ most) ∧ ∀ m2, o'.1 ≤ m2 → partF b N m2 win sort p o = some (p', o') := by
  unfold partF at h ⊢
  by_cases h0 : sort = 0
  · rw [if_pos h0] at h
    unfold storedF at h
    split at h
    · simp at h
    · rename_i hc
      have h1 := Option.some.inj h
      have h2 := congrArg Prod.snd h1
      dsimp only at h2
      have e : o'.1 = o.1 + nn b (toB p) 16 := by rw [← h2]
      refine ⟨by omega, fun _ => by omega, fun m2 hm2 => ?_⟩
      rw [if_pos h0]
      unfold storedF
      rw [if_neg (by omega)]
      exact h
  · rw [if_neg h0] at h
    by_cases h1 : sort = 1
    · rw [if_pos h1] at h
      obtain ⟨i1, i2, i3⟩ := symsF_more _ _ _ _ _ h
      refine ⟨i1, i2, fun m2 hm2 => ?_⟩
      rw [if_neg h0, if_pos h1]
      exact i3 m2 hm2
    · rw [if_neg h1] at h
      by_cases h2 : sort = 2
      · rw [if_pos h2] at h
        cases hm : madeF b N p with
        | none => rw [hm] at h; simp [partM] at h
        | some v =>
          obtain ⟨q, fS, fD⟩ := v
          rw [hm] at h
          obtain ⟨i1, i2, i3⟩ := symsF_more _ _ _ _ _ (show symsF b N fS fD most win (N + 1) q o = some (p', o') from h)
          refine ⟨i1, i2, fun m2 hm2 => ?_⟩
          rw [if_neg h0, if_neg h1, if_pos h2]
          exact i3 m2 hm2
      · rw [if_neg h2] at h
        simp at h
theorem unpF_more {b : Nat → Int} {N most win : Nat} : ∀ (m p : Nat) (o : Outp) (p' : Nat) (o' : Outp), unpF b N most win m p o = some (p', o') → o.1 ≤ o'.1 ∧ (o.1 ≤ most → o'.1 ≤ most) ∧ ∀ m2, o'.1 ≤ m2 → unpF b N m2 win m p o = some (p', o') := by
  intro m
  induction m with
  | zero => intro p o p' o' h; simp [unpF] at h
  | succ m ih =>
    intro p o p' o' h
    rw [unpF] at h
    by_cases hN : N < p + 3
    · rw [if_pos hN] at h; simp at h
    · rw [if_neg hN] at h
      cases hp : partF b N most win (nv b (p + 1) 2) (p + 3) o with
      | none => rw [hp] at h; simp at h
      | some v =>
        obtain ⟨p1, o1⟩ := v
        rw [hp] at h
        dsimp only at h
        obtain ⟨j1, j2, j3⟩ := partF_more hp
        by_cases hb : b p = 1
        · rw [if_pos hb] at h
          have h1 := Option.some.inj h
          have h2 := congrArg Prod.snd h1
          dsimp only at h2
          subst h2
          refine ⟨j1, j2, fun m2 hm2 => ?_⟩
          rw [unpF, if_neg hN, j3 m2 hm2]; dsimp only; rw [if_pos hb]; exact h
        · rw [if_neg hb] at h
          obtain ⟨i1, i2, i3⟩ := ih _ _ _ _ h
          refine ⟨by omega, fun h => i2 (j2 h), fun m2 hm2 => ?_⟩
          rw [unpF, if_neg hN, j3 m2 (by omega)]; dsimp only; rw [if_neg hb]
          exact i3 m2 hm2
theorem unpackF_more {b : Nat → Int} {N most : Nat} {o : Outp} (h : unpackF b N most = some o) : o.1 ≤ most ∧ ∀ m2, o.1 ≤ m2 → unpackF b N m2 = some o := by
  unfold unpackF at h ⊢
  split at h
  · simp at h
  · rename_i hc
    cases hu : unpF b N most (256 * 2 ^ (nn b 0 8 / 16)) (N + 1) 16 (0, fun _ => 0) with
    | none => rw [hu] at h; simp [unpC] at h
    | some v =>
      obtain ⟨p, o1⟩ := v
      rw [hu] at h
      obtain ⟨i1, i2, i3⟩ := unpF_more _ _ _ _ _ hu
      have ho : o1 = o := by
        unfold unpC at h
        dsimp only at h
        split at h
        · exact Option.some.inj h
        · simp at h
      subst ho
      refine ⟨i2 (Nat.zero_le _), fun m2 hm2 => ?_⟩
      rw [if_neg hc, i3 m2 hm2]
      exact h
/-- a block's bytes from an offset on -/
noncomputable def blkC (g : Nat → Int) (rc b beg : Int) (least most off : Nat) : Option (Nat → Int) :=
  if b = 0 then some (fun _ => 0) else if rc < beg + b % 16777216 then none else if 16777216 ≤ b then some (fun j => g (beg.toNat + off + j)) else
    (match unpackF (BB g beg.toNat (8 * b.toNat)) (8 * b.toNat) most with
    | none => none
    | some o => if o.1 < least then none else some (fun j => o.2 (off + j)))
def bkN (iv : IVt) : Nat := 2 ^ (iv 5 4).toNat
theorem bkS_eq (iv : IVt) : bkS iv = bkN iv := by unfold bkS bkN; simp
/-- the number of a piece of a file: a block's, or its rest's fragment's -/
def pcB (av : IVt) (f k : Nat) : Int := if (k : Int) < av 6 (8 * f + 3) then av 7 ((av 6 (8 * f + 7)).toNat + k) else av 9 (av 6 (8 * f + 4)).toNat
/-- a piece of a file -/
noncomputable def pc (iv av : IVt) (f k : Nat) : Option (Nat → Int) :=
  if (k : Int) < av 6 (8 * f + 3) then blkC (av 13) (iv 12 1) (pcB av f k) (bBeg av f k) (due iv (av 6 (8 * f + 1)) k).toNat (due iv (av 6 (8 * f + 1)) k).toNat 0
  else blkC (av 13) (iv 12 1) (pcB av f k) (av 8 (av 6 (8 * f + 4)).toNat) ((av 6 (8 * f + 5)).toNat + (due iv (av 6 (8 * f + 1)) k).toNat) (bkN iv) (av 6 (8 * f + 5)).toNat
def pcT (av : IVt) (f k : Nat) : Int := if pcB av f k = 0 then 0 else 1
def tkS (t : Nat → Int) (lo : Nat) : Nat → Int
  | 0 => 0
  | m + 1 => tkS t lo m + t (lo + m)
/-- a byte of a file as it was put -/
noncomputable def fB (iv av : IVt) (f q : Nat) : Int := match pc iv av f (q / bkN iv) with
  | none => 0
  | some c => c (q % bkN iv)
/-- how many bytes a reading gives -/
def rdM (s fr n : Int) : Int := if s - fr < 0 then 0 else if n ≤ s - fr then n else s - fr
def rdBad (f fr n : Int) : Prop := ¬ (0 ≤ f ∧ f < 64) ∨ fr < 0 ∨ n < 0 ∨ 4096 < n
def rdOk (iv av : IVt) (f : Nat) (lo hi : Nat) : Prop := ∀ k, lo ≤ k → k ≤ hi → pc iv av f k ≠ none
/-- a reading's end: the answer, what was taken, the out -/
def RdE (iv av : IVt) (f fr n r tk on0 : Int) (ob0 : Nat → Int) (on : Int) (ob : Nat → Int) : Prop :=
  (rdBad f fr n ∧ r = -1 ∧ tk = 0 ∧ on = on0 ∧ ob = ob0) ∨
  (¬ rdBad f fr n ∧ rdM (av 6 (8 * f.toNat + 1)) fr n ≤ 0 ∧ r = 0 ∧ tk = 0 ∧ on = 0) ∨
  (¬ rdBad f fr n ∧ 0 < rdM (av 6 (8 * f.toNat + 1)) fr n ∧ rdOk iv av f.toNat (fr.toNat / bkN iv) ((fr + rdM (av 6 (8 * f.toNat + 1)) fr n - 1).toNat / bkN iv) ∧ r = rdM (av 6 (8 * f.toNat + 1)) fr n ∧
    tk = tkS (pcT av f.toNat) (fr.toNat / bkN iv) ((fr + rdM (av 6 (8 * f.toNat + 1)) fr n - 1).toNat / bkN iv + 1 - fr.toNat / bkN iv) ∧ on = rdM (av 6 (8 * f.toNat + 1)) fr n ∧ ∀ j : Nat, j < rdM (av 6 (8 * f.toNat + 1)) fr n → ob j = fB iv av f.toNat (fr.toNat + j)) ∨
  (¬ rdBad f fr n ∧ 0 < rdM (av 6 (8 * f.toNat + 1)) fr n ∧ ¬ rdOk iv av f.toNat (fr.toNat / bkN iv) ((fr + rdM (av 6 (8 * f.toNat + 1)) fr n - 1).toNat / bkN iv) ∧ r = -4 ∧ tk = 0 ∧ on = on0 ∧ ob = ob0)
