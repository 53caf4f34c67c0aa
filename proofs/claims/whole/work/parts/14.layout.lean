/-! Layout. -/
section SLayout
variable {Y : Gl} {X : Cx} {e n : Nat} {rv : RVt} {iv av : IVt}
theorem s_X5_log : OkN Y e mX5_log [.ref (gl_b Y + 5)] RV iv av 116 (Same iv av (iv 5 4)) := o_X5_log fun _ => ⟨rfl, rfl, rfl⟩
theorem s_X5_fragmentCount : OkN Y e mX5_fragmentCount [.ref (gl_b Y + 5)] RV iv av 116 (Same iv av (iv 5 6)) := o_X5_fragmentCount fun _ => ⟨rfl, rfl, rfl⟩
theorem s_X5_fragmentBegin {x : Int} (hx : InR x) : OkN Y e mX5_fragmentBegin [.ref (gl_b Y + 5), .int (i32 x)] RV iv av 116 (Same iv av (if 0 ≤ x ∧ x < 64 then av 8 x.toNat else 0)) := by
  refine o_X5_fragmentBegin hx ?_
  grind
theorem s_X5_fragmentNumber {x : Int} (hx : InR x) : OkN Y e mX5_fragmentNumber [.ref (gl_b Y + 5), .int (i32 x)] RV iv av 116 (Same iv av (if 0 ≤ x ∧ x < 64 then av 9 x.toNat else 0)) := by
  refine o_X5_fragmentNumber hx ?_
  grind
theorem s_X5_blockBytes (h0 : 0 ≤ iv 5 4) (h1 : iv 5 4 ≤ 16) : OkN Y e mX5_blockBytes [.ref (gl_b Y + 5)] RV iv av 116 (Same iv av (2 ^ (iv 5 4).toNat)) := by
  refine o_X5_blockBytes fun _ => ⟨by omega, ?_, by rw [Int.one_mul], rfl, rfl⟩
  have : (2 : Int) ^ (iv 5 4).toNat ≤ 2 ^ 16 := by
    have := Nat.pow_le_pow_right (show 0 < 2 by omega) (show (iv 5 4).toNat ≤ 16 by omega)
    exact_mod_cast this
  have : (0 : Int) < 2 ^ (iv 5 4).toNat := Int.pow_pos (by omega)
  omega
theorem s_X5_fact {f w : Nat} (hf : f < 64) (hw : w < 8) : OkN Y e mX5_fact [.ref (gl_b Y + 5), .int (i32 f), .int (i32 w)] RV iv av 116 (Same iv av (av 6 (8 * f + w))) := by
  refine o_X5_fact ?_
  have e : ((f : Int) * 8 + w).toNat = 8 * f + w := by omega
  rw [e]
  grind
theorem s_X5_note (K : LayK rv n) {f w : Nat} {v : Int} (hf : f < 64) (hw : w < 8) (hv : InR v) : OkN Y e mX5_note [.ref (gl_b Y + 5), .int (i32 f), .int (i32 w), .int (i32 v)] rv iv av n (fun r iv' av' => iv' = iv ∧ av' = up2 av 6 (8 * f + w) v) := by
  refine o_X5_note K hv ?_
  have e : ((f : Int) * 8 + w).toNat = 8 * f + w := by omega
  rw [e]
  grind
theorem s_X5_begin (K : LayK rv n) {l : Int} (hl : InR l) : OkN Y e mX5_begin [.ref (gl_b Y + 5), .int (i32 l)] rv iv av n (fun r iv' av' => iv' = up2 (up2 (up2 iv 5 4 l) 5 5 0) 5 6 0 ∧ av' = av) := o_X5_begin K hl ⟨rfl, rfl⟩
/-- a file's facts, new -/
def loF (g : Nat → Int) (f : Nat) (size begin nc : Int) : Nat → Int := fun i => if i = 8 * f + 1 then size else if i = 8 * f + 2 then begin else if i = 8 * f + 4 then -2 else if i = 8 * f + 7 then nc else if 8 * f ≤ i ∧ i < 8 * f + 8 then 0 else g i
theorem l_X5_open {f : Nat} {size begin : Int} (C : CX Y X RX5 "open" cX5_open 5 none (e + 1) 0 0) (hf : f < 64) (h1 : InR size) (h2 : InR begin) {P : PN} : ∀ (m w : Nat) (av : IVt), 8 - w = m → w ≤ 8 →
    (∀ av', av' = upA av 6 (loF (fun i => if 8 * f + w ≤ i ∧ i < 8 * f + 8 then 0 else av 6 i) f size begin (iv 5 5)) → (∀ i, 8 * f ≤ i → i < 8 * f + w → av 6 i = 0) → P 0 iv av') → (∀ i, 8 * f ≤ i → i < 8 * f + w → av 6 i = 0) → L_X5_open_3 Y X P f size begin w iv av := by
  intro m
  induction m with
  | zero =>
    intro w av g1 g2 hP hz
    have : w = 8 := by omega
    subst this
    refine w_X5_open_3 C (by omega) h1 h2 (by omega) ⟨fun _ => ?_, fun h => absurd h (by omega)⟩
    refine OkN.mono (s_X5_note lk_RV (w := 1) hf (by omega) h1) ?_
    rintro r iv' av' hR ⟨rfl, rfl⟩
    refine OkN.mono (s_X5_note lk_RV (w := 2) hf (by omega) h2) ?_
    rintro r iv' av' hR ⟨rfl, rfl⟩
    refine OkN.mono (s_X5_note lk_RV (w := 4) hf (by omega) (by omega)) ?_
    rintro r iv' av' hR ⟨rfl, rfl⟩
    intro hi
    refine OkN.mono (s_X5_note lk_RV (w := 7) hf (by omega) hi) ?_
    rintro r iv' av' hR ⟨rfl, rfl⟩
    refine hP _ ?_ hz
    funext k' i
    simp only [upA_app, up2_app, loF]
    by_cases hk : k' = 6
    · subst hk
      by_cases hi : 8 * f ≤ i ∧ i < 8 * f + 8
      · have hz' := hz i hi.1 hi.2
        obtain ⟨j, rfl⟩ : ∃ j, i = 8 * f + j := ⟨i - 8 * f, by omega⟩
        rcases (show j = 0 ∨ j = 1 ∨ j = 2 ∨ j = 3 ∨ j = 4 ∨ j = 5 ∨ j = 6 ∨ j = 7 by omega) with rfl | rfl | rfl | rfl | rfl | rfl | rfl | rfl <;> first | (simp [hz']; done) | (simp; exact hz')
      · have n0 : ¬ (8 * f + 8 ≤ i ∧ i < 8 * f + 8) := by omega
        have n1 : i ≠ 8 * f + 1 := by omega
        have n2 : i ≠ 8 * f + 2 := by omega
        have n4 : i ≠ 8 * f + 4 := by omega
        have n7 : i ≠ 8 * f + 7 := by omega
        simp [n1, n2, n4, n7, hi]
        omega
    · simp [hk]
  | succ m ih =>
    intro w av g1 g2 hP hz
    refine w_X5_open_3 C (by omega) h1 h2 (by omega) ⟨fun h => absurd h (by omega), fun _ => ?_⟩
    refine OkN.mono (s_X5_note lk_RV hf (by omega) (by omega)) ?_
    rintro r iv' av' hR ⟨rfl, rfl⟩
    rw [show (w : Int) + 1 = ((w + 1 : Nat) : Int) by omega]
    refine ih (w + 1) _ (by omega) (by omega) ?_ ?_
    · rintro av' rfl hz'
      refine hP _ ?_ hz
      funext k' i
      simp only [upA_app, up2_app, loF]
      grind
    · intro i hi1 hi2
      have := hz i hi1
      simp only [up2_app]
      grind
theorem s_X5_open {f : Nat} {size begin : Int} (hf : f < 64) (h1 : InR size) (h2 : InR begin) : OkN Y (e + 1) mX5_open [.ref (gl_b Y + 5), .int (i32 f), .int (i32 size), .int (i32 begin)] RV iv av 116 (fun r iv' av' => iv' = iv ∧ av' = upA av 6 (loF (av 6) f size begin (iv 5 5))) := by
  refine o_X5_open fun X C => l_X5_open C hf h1 h2 8 0 av (by omega) (by omega) ?_ (fun i h1 h2 => absurd h2 (by omega))
  rintro av' rfl -
  refine ⟨rfl, ?_⟩
  congr 1
  funext i
  unfold loF
  grind
theorem l_X5_share {f t : Nat} (C : CX Y X RX5 "share" cX5_share 4 none (e + 1) 0 0) (hf : f < 64) (ht : t < 64) (hne : t ≠ f) {P : PN} : ∀ (m w : Nat) (av : IVt), 8 - w = m → w ≤ 8 →
    (∀ av', av' = upA av 6 (fun i => if 8 * f + w ≤ i ∧ i < 8 * f + 8 then av 6 (8 * t + (i - 8 * f)) else av 6 i) → P 0 iv av') → L_X5_share_2 Y X P f t w iv av := by
  intro m
  induction m with
  | zero =>
    intro w av g1 g2 hP
    have : w = 8 := by omega
    subst this
    exact w_X5_share_2 C (by omega) (by omega) (by omega) ⟨fun _ => hP _ (upA_of (fun i => if_neg (by omega))).symm, fun h => absurd h (by omega)⟩
  | succ m ih =>
    intro w av g1 g2 hP
    refine w_X5_share_2 C (by omega) (by omega) (by omega) ⟨fun h => absurd h (by omega), fun _ => ?_⟩
    refine OkN.mono (s_X5_fact ht (by omega)) ?_
    rintro r iv' av' hR ⟨rfl, rfl, rfl⟩ hr
    refine OkN.mono (s_X5_note lk_RV hf (by omega) hr) ?_
    rintro r iv' av2 hR ⟨rfl, rfl⟩
    rw [show (w : Int) + 1 = ((w + 1 : Nat) : Int) by omega]
    refine ih (w + 1) _ (by omega) (by omega) ?_
    rintro av3 rfl
    refine hP _ ?_
    funext k' i
    simp only [upA_app, up2_app]
    by_cases hi : i = 8 * f + w
    · subst hi
      rw [show 8 * f + w - 8 * f = w by omega]
      grind
    · grind
theorem s_X5_share {f t : Nat} (hf : f < 64) (ht : t < 64) (hne : t ≠ f) : OkN Y (e + 1) mX5_share [.ref (gl_b Y + 5), .int (i32 f), .int (i32 t)] RV iv av 116 (fun r iv' av' => iv' = iv ∧ av' = upA av 6 (fun i => if 8 * f ≤ i ∧ i < 8 * f + 8 then av 6 (8 * t + (i - 8 * f)) else av 6 i)) :=
  o_X5_share fun X C => l_X5_share C hf ht hne 8 0 av (by omega) (by omega) fun av' h => ⟨rfl, h⟩
theorem s_X5_addBlock {f : Nat} {b : Int} (hf : f < 64) (hb : InR b) (h0 : 0 ≤ iv 5 5) (h1 : iv 5 5 < 80) (h2 : av 6 (8 * f + 3) < 1000) : OkN Y (e + 1) mX5_addBlock [.ref (gl_b Y + 5), .int (i32 f), .int (i32 b)] RV iv av 116
    (fun r iv' av' => iv' = up2 iv 5 5 (iv 5 5 + 1) ∧ av' = up2 (up2 av 7 (iv 5 5).toNat b) 6 (8 * f + 3) (av 6 (8 * f + 3) + 1)) := by
  refine o_X5_addBlock (by omega) hb fun _ => ⟨fun h => absurd h (by omega), fun _ => ⟨fun h => absurd h (by omega), fun _ => ⟨by omega, by omega, ?_⟩⟩⟩
  refine OkN.mono (s_X5_fact (w := 3) hf (by omega)) ?_
  rintro r iv' av' hR ⟨rfl, rfl, rfl⟩ hr
  rw [up2_ne (by decide)] at hr ⊢
  refine ⟨by omega, OkN.mono (s_X5_note lk_RV (w := 3) hf (by omega) (by omega)) ?_⟩
  rintro r iv' av' hR ⟨rfl, rfl⟩
  exact ⟨rfl, rfl⟩
theorem s_X5_addZeros {f : Nat} {b : Int} (hf : f < 64) (hb : 0 ≤ b ∧ b ≤ 65536) (h0 : 0 ≤ iv 5 5) (h1 : iv 5 5 < 80) (h2 : av 6 (8 * f + 3) < 1000) (h3 : 0 ≤ av 6 (8 * f + 6) ∧ av 6 (8 * f + 6) ≤ 65536) : OkN Y (e + 2) mX5_addZeros [.ref (gl_b Y + 5), .int (i32 f), .int (i32 b)] RV iv av 116
    (fun r iv' av' => iv' = up2 iv 5 5 (iv 5 5 + 1) ∧ av' = up2 (up2 (up2 av 7 (iv 5 5).toNat 0) 6 (8 * f + 3) (av 6 (8 * f + 3) + 1)) 6 (8 * f + 6) (av 6 (8 * f + 6) + b)) := by
  refine o_X5_addZeros (by omega) (OkN.mono (s_X5_addBlock hf (by omega) h0 h1 h2) ?_)
  rintro r iv' av' hR ⟨rfl, rfl⟩
  refine OkN.mono (s_X5_fact (w := 6) hf (by omega)) ?_
  rintro r iv' av' hR ⟨rfl, rfl, rfl⟩ hr
  have e1 : up2 (up2 av 7 (iv 5 5).toNat 0) 6 (8 * f + 3) (av 6 (8 * f + 3) + 1) 6 (8 * f + 6) = av 6 (8 * f + 6) := by
    rw [up2_nj (by omega), up2_ne (by decide)]
  rw [e1]
  refine ⟨by omega, OkN.mono (s_X5_note lk_RV (w := 6) hf (by omega) (by omega)) ?_⟩
  rintro r iv' av' hR ⟨rfl, rfl⟩
  exact ⟨rfl, rfl⟩
theorem s_X5_join {f : Nat} {b : Int} (hf : f < 64) (hb : InR b) : OkN Y (e + 1) mX5_join [.ref (gl_b Y + 5), .int (i32 f), .int (i32 b)] RV iv av 116
    (fun r iv' av' => iv' = iv ∧ av' = up2 (up2 av 6 (8 * f + 4) (iv 5 6)) 6 (8 * f + 5) b) := by
  refine o_X5_join (by omega) hb fun hi => OkN.mono (s_X5_note lk_RV (w := 4) hf (by omega) hi) ?_
  rintro r iv' av' hR ⟨rfl, rfl⟩
  refine OkN.mono (s_X5_note lk_RV (w := 5) hf (by omega) hb) ?_
  rintro r iv' av' hR ⟨rfl, rfl⟩
  exact ⟨rfl, rfl⟩
theorem s_X5_addFragment {b c : Int} (hb : InR b) (hc : InR c) (h0 : 0 ≤ iv 5 6) (h1 : iv 5 6 < 64) : OkN Y e mX5_addFragment [.ref (gl_b Y + 5), .int (i32 b), .int (i32 c)] RV iv av 116
    (fun r iv' av' => iv' = up2 iv 5 6 (iv 5 6 + 1) ∧ av' = up2 (up2 av 8 (iv 5 6).toNat b) 9 (iv 5 6).toNat c) := by
  refine o_X5_addFragment hb hc ?_
  grind
theorem s_X5_blockNumber {f i : Nat} (hf : f < 64) (h0 : 0 ≤ av 6 (8 * f + 7)) (h1 : av 6 (8 * f + 7) + i < 80) : OkN Y (e + 1) mX5_blockNumber [.ref (gl_b Y + 5), .int (i32 f), .int (i32 i)] RV iv av 116 (Same iv av (av 7 ((av 6 (8 * f + 7)).toNat + i))) := by
  refine o_X5_blockNumber (by omega) (OkN.mono (s_X5_fact (w := 7) hf (by omega)) ?_)
  rintro r iv' av' hR ⟨rfl, rfl, rfl⟩ hr
  refine ⟨by omega, fun h => absurd h (by omega), fun _ => ⟨fun h => absurd h (by omega), fun _ => ⟨by omega, fun _ => ?_⟩⟩⟩
  rw [show (av' 6 (8 * f + 7) + (i : Int)).toNat = (av' 6 (8 * f + 7)).toNat + i by omega]
  exact ⟨rfl, rfl, rfl⟩
/-- where a file's block begins -/
def bBeg (av : IVt) (f : Nat) : Nat → Int
  | 0 => av 6 (8 * f + 2)
  | m + 1 => bBeg av f m + av 7 ((av 6 (8 * f + 7)).toNat + m) % 16777216
theorem l_X5_blockBegin {f i : Nat} (C : CX Y X RX5 "blockBegin" cX5_blockBegin 5 (some .int) (e + 2) 0 0) (hf : f < 64) (h0 : 0 ≤ av 6 (8 * f + 7)) (h1 : av 6 (8 * f + 7) + i ≤ 80) (hb : ∀ m, m ≤ i → InR (bBeg av f m)) {P : PN} (hP : P (bBeg av f i) iv av) : ∀ (m j : Nat), i - j = m → j ≤ i →
    L_X5_blockBegin_10 Y X P f i (bBeg av f j) j iv av := by
  intro m
  induction m with
  | zero =>
    intro j g1 g2
    have : j = i := by omega
    subst this
    exact w_X5_blockBegin_10 C (by omega) (by omega) (hb _ g2) (by omega) ⟨fun _ => hP, fun h => absurd h (by omega)⟩
  | succ m ih =>
    intro j g1 g2
    refine w_X5_blockBegin_10 C (by omega) (by omega) (hb _ g2) (by omega) ⟨fun h => absurd h (by omega), fun _ => OkN.mono (s_X5_blockNumber hf h0 (by omega)) ?_⟩
    rintro r iv' av' hR ⟨rfl, rfl, rfl⟩ hr
    rw [show (j : Int) + 1 = ((j + 1 : Nat) : Int) by omega]
    exact ih (j + 1) (by omega) (by omega)
theorem s_X5_blockBegin {f i : Nat} (hf : f < 64) (h0 : 0 ≤ av 6 (8 * f + 7)) (h1 : av 6 (8 * f + 7) + i ≤ 80) (hb : ∀ m, m ≤ i → InR (bBeg av f m)) : OkN Y (e + 2) mX5_blockBegin [.ref (gl_b Y + 5), .int (i32 f), .int (i32 i)] RV iv av 116 (Same iv av (bBeg av f i)) := by
  refine o_X5_blockBegin (by omega) fun X C => OkN.mono (s_X5_fact (w := 2) hf (by omega)) ?_
  rintro r iv' av' hR ⟨rfl, rfl, rfl⟩ hr
  exact l_X5_blockBegin C hf h0 h1 hb ⟨rfl, rfl, rfl⟩ i 0 (by omega) (by omega)
theorem s_X5_wholeBytes {f i : Nat} (hf : f < 64) (h0 : 0 ≤ iv 5 4) (h1 : iv 5 4 ≤ 16) (h2 : i ≤ 64) (h3 : 0 ≤ av 6 (8 * f + 1) ∧ av 6 (8 * f + 1) ≤ 65536) : OkN Y (e + 1) mX5_wholeBytes [.ref (gl_b Y + 5), .int (i32 f), .int (i32 i)] RV iv av 116 (Same iv av (min (2 ^ (iv 5 4).toNat) (av 6 (8 * f + 1) - i * 2 ^ (iv 5 4).toNat))) := by
  refine o_X5_wholeBytes (by omega) (OkN.mono (s_X5_blockBytes h0 h1) ?_)
  rintro r iv' av' hR ⟨rfl, rfl, rfl⟩ hr
  refine OkN.mono (s_X5_fact (w := 1) hf (by omega)) ?_
  rintro r iv' av' hR ⟨rfl, rfl, rfl⟩ hr2 hr3
  refine ⟨by omega, ?_, rfl, rfl, rfl⟩
  have h5 : (2 : Int) ^ (iv' 5 4).toNat ≤ 2 ^ 16 := by
    have := Nat.pow_le_pow_right (show 0 < 2 by omega) (show (iv' 5 4).toNat ≤ 16 by omega)
    exact_mod_cast this
  have h6 : (0 : Int) < 2 ^ (iv' 5 4).toNat := Int.pow_pos (by omega)
  have h7 : (i : Int) * 2 ^ (iv' 5 4).toNat ≤ 64 * 2 ^ 16 := Int.mul_le_mul (by omega) h5 (by omega) (by omega)
  have h8 : (0 : Int) ≤ (i : Int) * 2 ^ (iv' 5 4).toNat := Int.mul_nonneg (by omega) (by omega)
  omega
end SLayout
