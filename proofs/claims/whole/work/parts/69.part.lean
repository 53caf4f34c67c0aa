/-! What packing a part writes. -/
theorem tst_congr {f g : Nat → Int} : ∀ n, (∀ i, i < n → f i = g i) → tst f n = tst g n := by
  intro n
  induction n with
  | zero => intro _; rfl
  | succ n ih =>
    intro h
    simp only [tst]
    rw [ih fun i hi => h i (by omega), h n (by omega)]
theorem told_congr {f g : Nat → Int} {n : Nat} (h : ∀ i, i < n → f i = g i) : told f n = told g n := by
  unfold told
  rw [tst_congr n h]
theorem lrow_congr {ls ld ls' ld' : Nat → Int} (h1 : ∀ s, s < 286 → ls s = ls' s) (h2 : ∀ s, s < 30 → ld s = ld' s) : lall ls ld = lall ls' ld' ∧ ∀ i, i < lall ls ld → lrow ls ld i = lrow ls' ld' i := by
  have e1 := nd_congr 257 286 h1
  have e2 := nd_congr 1 30 h2
  have b1 := nd_le ls 257 286
  have b2 := nd_le ld 1 30
  unfold lall lrow
  rw [← e1, ← e2]
  refine ⟨rfl, fun i hi => ?_⟩
  generalize nd ls 257 286 = H at *
  generalize nd ld 1 30 = H2 at *
  by_cases h : i < H
  · rw [if_pos h, if_pos h]
    exact h1 i (by omega)
  · rw [if_neg h, if_neg h]
    exact h2 _ (by omega)
theorem told_lr {ls ld ls' ld' : Nat → Int} (h1 : ∀ s, s < 286 → ls s = ls' s) (h2 : ∀ s, s < 30 → ld s = ld' s) : told (lrow ls ld) (lall ls ld) = told (lrow ls' ld') (lall ls' ld') := by
  obtain ⟨e1, e2⟩ := lrow_congr h1 h2
  rw [told_congr e2, e1]
theorem pre_congr {f g : Nat → Int} : ∀ (m p q : Nat), (∀ i, i < m → f (p + i) = g (p + i) ∧ f (q + i) = g (q + i)) → pre f p q m = pre g p q m := by
  intro m
  induction m with
  | zero => intro p q _; rfl
  | succ m ih =>
    intro p q h
    have h0 := h 0 (by omega)
    simp only [Nat.add_zero] at h0
    simp only [pre]
    rw [h0.1, h0.2, ih (p + 1) (q + 1) fun i hi => by
      have := h (i + 1) (by omega)
      rw [show p + 1 + i = p + (i + 1) by omega, show q + 1 + i = q + (i + 1) by omega]
      exact this]
theorem fnd_congr {D D' : Nat → Int} {p mx : Nat} (h : ∀ i, i < p + mx → D i = D' i) : ∀ (q b f s : Nat), q ≤ p → fnd D p mx q b f s = fnd D' p mx q b f s := by
  intro q
  induction q with
  | zero => intro b f s _; rfl
  | succ q ih =>
    intro b f s hq
    have e : pre D q p mx = pre D' q p mx := pre_congr mx q p fun i hi => ⟨h _ (by omega), h _ (by omega)⟩
    simp only [fnd]
    rw [e, ih _ _ _ (by omega), ih _ _ _ (by omega)]
theorem bestM_congr {D D' : Nat → Int} {p E : Nat} (h : ∀ i, i < E → D i = D' i) : bestM D p E = bestM D' p E := by
  unfold bestM
  by_cases hp : E < p + 3
  · rw [if_pos hp, if_pos hp]
  · rw [if_neg hp, if_neg hp]
    exact fnd_congr (fun i hi => h i (by omega)) _ _ _ _ (Nat.le_refl _)
theorem gat_congr {D D' : Nat → Int} {E : Nat} (h : ∀ i, i < E → D i = D' i) : ∀ (m p k : Nat) (TL TV : Nat → Int), gat D E m p k TL TV = gat D' E m p k TL TV := by
  intro m
  induction m with
  | zero => intro p k TL TV; rfl
  | succ m ih =>
    intro p k TL TV
    simp only [gat]
    by_cases hp : E ≤ p
    · rw [if_pos hp, if_pos hp]
    · rw [if_neg hp, if_neg hp, bestM_congr (p := p) h, h p (by omega), ih]
theorem tok_congr {D D' : Nat → Int} {b E : Nat} (h : ∀ i, i < E → D i = D' i) : tok D b E = tok D' b E := gat_congr h _ _ _ _ _
theorem wByt_congr {D D' : Nat → Int} {p : Nat} {b : Bw} : ∀ m, (∀ i, i < p + m → D i = D' i) → wByt D p m b = wByt D' p m b := by
  intro m
  induction m with
  | zero => intro _; rfl
  | succ m ih =>
    intro h
    simp only [wByt]
    rw [ih fun i hi => h i (by omega), h (p + m) (by omega)]
/-- the told row of a part -/
def qT (g : Nat × (Nat → Int) × (Nat → Int)) : Nat × (Nat → Int) × (Nat → Int) := told (lrow (lnS g) (lnD g)) (lall (lnS g) (lnD g))
theorem lall_le (ls ld : Nat → Int) : lall ls ld ≤ 316 := by
  have b1 := nd_le ls 257 286
  have b2 := nd_le ld 1 30
  unfold lall
  generalize nd ls 257 286 = H at *
  generalize nd ld 1 30 = H2 at *
  omega
theorem lrow_in {ls ld : Nat → Int} (h1 : ∀ s, 0 ≤ ls s ∧ ls s ≤ 15) (h2 : ∀ s, 0 ≤ ld s ∧ ld s ≤ 15) (i : Nat) : 0 ≤ lrow ls ld i ∧ lrow ls ld i ≤ 15 := by
  unfold lrow
  split
  · exact h1 i
  · exact h2 _
theorem qT_ok (g : Nat × (Nat → Int) × (Nat → Int)) : TdOK (qT g) := told_ok fun i _ => lrow_in (lnS_le g) (lnD_le g) i
theorem qT_cnt (g : Nat × (Nat → Int) × (Nat → Int)) : (qT g).1 ≤ 316 := Nat.le_trans (told_cnt _ _) (lall_le _ _)
/-- the sort of a part behind b bits -/
def prt (g : Nat × (Nat → Int) × (Nat → Int)) (b n : Nat) : Int := bSort (bSto b n) (bFix g) (bMad (lnZ (qT g)) (qT g) g)
def wBody (D : Nat → Int) (bg en : Nat) (s : Int) (b : Bw) : Bw :=
  if s = 0 then wSto D bg en (wrB b)
  else if s = 1 then wC fxL 288 256 (wToks fxL (fun _ => 5) 288 32 (tok D bg en) (tok D bg en).1 b)
  else wC (lnS (tok D bg en)) 288 256 (wToks (lnS (tok D bg en)) (lnD (tok D bg en)) 288 32 (tok D bg en) (tok D bg en).1 (wHdr (nd (lnS (tok D bg en)) 257 286) (nd (lnD (tok D bg en)) 1 30) (lnZ (qT (tok D bg en))) (qT (tok D bg en)) b))
def wPart (last : Int) (D : Nat → Int) (bg en : Nat) (b : Bw) : Bw := wBody D bg en (prt (tok D bg en) b.1 (en - bg)) (wr (prt (tok D bg en) b.1 (en - bg)) 2 (wr last 1 b))
theorem prt_cases (g : Nat × (Nat → Int) × (Nat → Int)) (b n : Nat) : prt g b n = 0 ∨ (prt g b n = 1 ∧ bFix g ≤ bSto b n) ∨ (prt g b n = 2 ∧ bMad (lnZ (qT g)) (qT g) g ≤ bSto b n) := by
  unfold prt bSort
  generalize bSto b n = x
  generalize bFix g = y
  generalize bMad (lnZ (qT g)) (qT g) g = z
  by_cases h1 : x ≤ y ∧ x ≤ z
  · rw [if_pos h1]
    exact Or.inl rfl
  · rw [if_neg h1]
    by_cases h2 : y ≤ z
    · rw [if_pos h2]
      exact Or.inr (Or.inl ⟨rfl, by omega⟩)
    · rw [if_neg h2]
      exact Or.inr (Or.inr ⟨rfl, by omega⟩)
theorem wHdr_1 (h d : Nat) (z : Nat → Int) (q : Nat × (Nat → Int) × (Nat → Int)) (b : Bw) : (wHdr h d z q b).1 = b.1 + 14 + 3 * tsz z + hdb z q q.1 := by
  unfold wHdr
  rw [wTd_1, wZ_1]
  show b.1 + 5 + 5 + 4 + 3 * tsz z + hdb z q q.1 = _
  omega
theorem wSto_1 (D : Nat → Int) (bg en : Nat) (b : Bw) : (wSto D bg en b).1 = b.1 + 32 + 8 * (en - bg) := by
  unfold wSto
  rw [wByt_1]
  rfl
theorem wrB_1 (b : Bw) : (wrB b).1 = b.1 + (8 - b.1 % 8) % 8 := rfl
theorem wC_1 (f : Nat → Int) (N s : Nat) (b : Bw) : (wC f N s b).1 = b.1 + (f s).toNat := rfl
theorem wPart_1 (last : Int) (D : Nat → Int) (bg en : Nat) (b : Bw) : (wPart last D bg en b).1 ≤ b.1 + bSto b.1 (en - bg) := by
  have e3 : (wr (prt (tok D bg en) b.1 (en - bg)) 2 (wr last 1 b)).1 = b.1 + 3 := rfl
  unfold wPart wBody
  rcases prt_cases (tok D bg en) b.1 (en - bg) with h | ⟨h, h2⟩ | ⟨h, h2⟩
  · rw [if_pos h, wSto_1, wrB_1, e3]
    unfold bSto
    omega
  · rw [if_neg (by omega), if_pos h, wC_1, wToks_1, e3]
    unfold bFix at h2
    omega
  · rw [if_neg (by omega), if_neg (by omega), wC_1, wToks_1, wHdr_1, e3]
    unfold bMad at h2
    omega
theorem wPart_congr {last : Int} {D D' : Nat → Int} {bg en : Nat} {b : Bw} (hb : bg ≤ en) (h : ∀ i, i < en → D i = D' i) : wPart last D bg en b = wPart last D' bg en b := by
  unfold wPart wBody wSto
  rw [tok_congr h, wByt_congr (p := bg) (en - bg) fun i hi => h i (by omega)]
/-- the parts of a row of n bytes -/
def wParts (D : Nat → Int) (n : Nat) : Nat → Bw → Bw
  | 0, b => b
  | i + 1, b => wPart (if min (4096 * i + 4096) n = n then 1 else 0) D (4096 * i) (min (4096 * i + 4096) n) (wParts D n i b)
/-- how many -/
def nP (n : Nat) : Nat := (n + 4095) / 4096
def chkV (D : Nat → Int) (n : Nat) : Int := 65536 * (adl D n).2 + (adl D n).1
/-- a row's check -/
def wChk (v : Int) (b : Bw) : Bw := wr v 8 (wr (v / 2 ^ 8) 8 (wr (v / 2 ^ 16) 8 (wr (v / 2 ^ 24) 8 b)))
def wPack (D : Nat → Int) (n : Nat) : Bw := wChk (chkV D n) (wrB (wParts D n (nP n) (wr 156 8 (wr 120 8 (0, fun _ => 0)))))
theorem wParts_1 (D : Nat → Int) {n : Nat} (b : Bw) : ∀ i, 4096 * i < n + 4096 → (wParts D n i b).1 ≤ b.1 + 42 * i + 8 * min (4096 * i) n := by
  intro i
  induction i with
  | zero => intro _; show b.1 ≤ _; omega
  | succ i ih =>
    intro h
    have h1 := ih (by omega)
    have h2 := wPart_1 (if min (4096 * i + 4096) n = n then 1 else 0) D (4096 * i) (min (4096 * i + 4096) n) (wParts D n i b)
    show (wPart _ D (4096 * i) (min (4096 * i + 4096) n) (wParts D n i b)).1 ≤ _
    unfold bSto at h2
    omega
theorem wParts_congr {D D' : Nat → Int} {n : Nat} {b : Bw} (h : ∀ i, i < n → D i = D' i) : ∀ i, i ≤ nP n → wParts D n i b = wParts D' n i b := by
  intro i
  induction i with
  | zero => intro _; rfl
  | succ i ih =>
    intro hi
    unfold nP at hi
    simp only [wParts]
    rw [ih (by unfold nP; omega)]
    exact wPart_congr (by omega) fun j hj => h j (by omega)
theorem wPack_congr {D D' : Nat → Int} {n : Nat} (h : ∀ i, i < n → D i = D' i) : wPack D n = wPack D' n := by
  unfold wPack chkV
  rw [wParts_congr h _ (Nat.le_refl _), adl_eq n h]
theorem wPack_1 (D : Nat → Int) {n : Nat} (hn : n ≤ 65536) : (wPack D n).1 % 8 = 0 ∧ 8 * n ≤ 524288 ∧ (wPack D n).1 ≤ 8 * n + 727 + 7 := by
  have h := wParts_1 D (n := n) (wr 156 8 (wr 120 8 (0, fun _ => 0))) (nP n) (by unfold nP; omega)
  have e : (wr 156 8 (wr 120 8 ((0, fun _ => 0) : Bw))).1 = 16 := rfl
  rw [e] at h
  have e2 : (wPack D n).1 = (wrB (wParts D n (nP n) (wr 156 8 (wr 120 8 (0, fun _ => 0))))).1 + 8 + 8 + 8 + 8 := rfl
  rw [e2, wrB_1]
  have : nP n ≤ 16 := by unfold nP; omega
  omega
