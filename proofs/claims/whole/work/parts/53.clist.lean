/-! The class makes a list. -/
section SMaker
variable {Y : Gl} {X : Cx} {e : Nat} {iv av : IVt}
/-- a list's items -/
def LsC (av : IVt) (w : Nat → Int) (m l : Nat) : Prop := ∀ k, k < m + Pn m l → av 32 (576 * l + k) = if mS w m l k then 0 else 1
theorem s_X6_makeList {w : Nat → Int} {m l : Nat} (hm : m ≤ 288) (hl : l + 1 < 15) (hw : ∀ i, i < m → av 28 i = w i) (ho : ∀ k, k < m + Pn m l → av 30 k = mW w m l k) {M : Int} (hM : ∀ a, 0 ≤ w a ∧ w a ≤ M) (hM2 : M ≤ 10000) : OkN Y (e + 1) mX6_makeList [.ref (gl_b Y + 26), .int (i32 ((l + 1 : Nat) : Int)), .int (i32 (m : Int)), .int (i32 ((m + Pn m l : Nat) : Int))] RV iv av 116
    (fun r iv' av' => iv' = iv ∧ Off [30, 31, 32] av av' ∧ r = ((m + Pn m (l + 1) : Nat) : Int) ∧ (∀ k, k < m + Pn m (l + 1) → av' 30 k = mW w m (l + 1) k) ∧ (∀ i, i < 576 * (l + 1) → av' 32 i = av 32 i) ∧ LsC av' w m (l + 1)) := by
  have hP0 := Pn_le (m := m) l
  have hP1 := Pn_le (m := m) (l + 1)
  have hPs : Pn m (l + 1) = (m + Pn m l) / 2 := rfl
  refine o_X6_makeList (by omega) (by omega) (by omega) fun X C => ⟨by omega, ?_⟩
  have e1 : min (m : Int) 288 = m := by omega
  have e2 : min ((m + Pn m l : Nat) : Int) 576 / 2 = (Pn m (l + 1) : Nat) := by omega
  have e3 : max ((l + 1 : Nat) : Int) 0 * 576 = ((576 * (l + 1) : Nat) : Int) := by omega
  rw [e1, e2, e3]
  -- the copy
  have lp2 : ∀ (j k : Nat) (av1 : IVt), j + k = m + Pn m (l + 1) → Off [30, 31, 32] av av1 → (∀ i, i < m + Pn m (l + 1) → av1 31 i = mW w m (l + 1) i) → (∀ i, i < k → av1 30 i = mW w m (l + 1) i) → (∀ i, i < 576 * (l + 1) → av1 32 i = av 32 i) → LsC av1 w m (l + 1) → L_X6_makeList_231 Y X (fun r iv' av' => iv' = iv ∧ Off [30, 31, 32] av av' ∧ r = ((m + Pn m (l + 1) : Nat) : Int) ∧ (∀ k, k < m + Pn m (l + 1) → av' 30 k = mW w m (l + 1) k) ∧ (∀ i, i < 576 * (l + 1) → av' 32 i = av 32 i) ∧ LsC av' w m (l + 1)) ((m + Pn m (l + 1) : Nat) : Int) k iv av1 := by
    intro j
    induction j with
    | zero =>
      intro k av1 h1 h2 h3 h4 h5 h6
      exact w_X6_makeList_231 C (by omega) (by omega) ⟨fun _ => ⟨rfl, h2, rfl, fun i hi => h4 i (by omega), h5, h6⟩, fun g => absurd g (by omega)⟩
    | succ j ih =>
      intro k av1 h1 h2 h3 h4 h5 h6
      refine w_X6_makeList_231 C (by omega) (by omega) ⟨fun g => absurd g (by omega), fun _ => ⟨fun g => absurd g (by omega), fun _ => ⟨by omega, fun _ => ?_⟩⟩⟩
      rw [Int.toNat_natCast, show (k : Int) + 1 = ((k + 1 : Nat) : Int) by omega]
      refine ih (k + 1) _ (by omega) (h2.up (by decide)) (fun i hi => ?_) (fun i hi => ?_) (fun i hi => ?_) fun i hi => ?_
      · rw [up2_ne (by decide)]
        exact h3 i hi
      · rw [up2_at]
        split
        · rename_i hik
          rw [hik]
          exact h3 k (by omega)
        · exact h4 i (by omega)
      · rw [up2_ne (by decide)]
        exact h5 i hi
      · rw [up2_ne (by decide)]
        exact h6 i hi
  -- the list
  have lp : ∀ (j k : Nat) (av1 : IVt), j + k = m + Pn m (l + 1) → Off [31, 32] av av1 → (∀ i, i < k → av1 31 i = mW w m (l + 1) i) → (∀ i, i < 576 * (l + 1) → av1 32 i = av 32 i) → (∀ i, i < k → av1 32 (576 * (l + 1) + i) = if mS w m (l + 1) i then 0 else 1) → L_X6_makeList_44 Y X (fun r iv' av' => iv' = iv ∧ Off [30, 31, 32] av av' ∧ r = ((m + Pn m (l + 1) : Nat) : Int) ∧ (∀ k, k < m + Pn m (l + 1) → av' 30 k = mW w m (l + 1) k) ∧ (∀ i, i < 576 * (l + 1) → av' 32 i = av 32 i) ∧ LsC av' w m (l + 1)) m ((Pn m (l + 1) : Nat) : Int) ((576 * (l + 1) : Nat) : Int) ((mA w m (l + 1) k : Nat) : Int) ((k - mA w m (l + 1) k : Nat) : Int) k iv av1 := by
    intro j
    induction j with
    | zero =>
      intro k av1 h1 h2 h3 h4 h5
      have hk : k = m + Pn m (l + 1) := by omega
      subst hk
      have ha1 : mA w m (l + 1) (m + Pn m (l + 1)) ≤ m + Pn m (l + 1) := ms_le _ _ _ _ _
      have ha2 : mA w m (l + 1) (m + Pn m (l + 1)) ≤ m ∧ m + Pn m (l + 1) ≤ mA w m (l + 1) (m + Pn m (l + 1)) + Pn m (l + 1) := ms_in _ _ _ _ _ (by omega)
      have go : L_X6_makeList_231 Y X (fun r iv' av' => iv' = iv ∧ Off [30, 31, 32] av av' ∧ r = ((m + Pn m (l + 1) : Nat) : Int) ∧ (∀ k, k < m + Pn m (l + 1) → av' 30 k = mW w m (l + 1) k) ∧ (∀ i, i < 576 * (l + 1) → av' 32 i = av 32 i) ∧ LsC av' w m (l + 1)) ((m + Pn m (l + 1) : Nat) : Int) 0 iv av1 := by
        exact lp2 (m + Pn m (l + 1)) 0 av1 (by omega) (h2.mono (by decide)) (fun i hi => h3 i (by omega)) (fun i hi => absurd hi (Nat.not_lt_zero _)) h4 fun i hi => h5 i (by omega)
      refine w_X6_makeList_44 C (by omega) (by omega) (by omega) (by omega) (by omega) ⟨fun g => absurd g (by omega), fun _ => ⟨fun g => absurd g (by omega), fun _ => ⟨fun _ => go, fun g => absurd g (by omega)⟩⟩⟩
    | succ j ih =>
      intro k av1 h1 h2 h3 h4 h5
      have ha1 : mA w m (l + 1) k ≤ k := ms_le _ _ _ _ _
      have ha2 : mA w m (l + 1) k ≤ m ∧ k ≤ mA w m (l + 1) k + Pn m (l + 1) := ms_in _ _ _ _ _ (by omega)
      have hms1 : ∀ _ : Unit, mS w m (l + 1) k → mA w m (l + 1) (k + 1) = mA w m (l + 1) k + 1 := fun _ h => if_pos h
      have hms2 : ∀ _ : Unit, ¬ mS w m (l + 1) k → mA w m (l + 1) (k + 1) = mA w m (l + 1) k := fun _ h => if_neg h
      have hwt1 : ∀ _ : Unit, mS w m (l + 1) k → mW w m (l + 1) k = w (mA w m (l + 1) k) := fun _ h => if_pos h
      have hwt2 : ∀ _ : Unit, ¬ mS w m (l + 1) k → mW w m (l + 1) k = Vw w m (l + 1) (k - mA w m (l + 1) k) := fun _ h => if_neg h
      have hiff : ∀ _ : Unit, mS w m (l + 1) k ↔ (k - mA w m (l + 1) k = Pn m (l + 1) ∨ (mA w m (l + 1) k < m ∧ w (mA w m (l + 1) k) ≤ Vw w m (l + 1) (k - mA w m (l + 1) k))) := fun _ => Iff.rfl
      generalize mA w m (l + 1) k = a at *
      have hV : ∀ b, Vw w m (l + 1) b = mW w m l (2 * b) + mW w m l (2 * b + 1) := fun b => rfl
      have hV2 := (Vw_le (m := m) hM l).2
      have hpow : M * 2 ^ l ≤ 10000 * 16384 := by
        have h2l : (2 : Int) ^ l ≤ 16384 := (show ∀ l, l < 15 → (2 : Int) ^ l ≤ 16384 by decide) l (by omega)
        have h0 : (0 : Int) < 2 ^ l := Int.pow_pos (by omega)
        have h00 : 0 ≤ M := by have := hM 0; omega
        exact Int.mul_le_mul hM2 h2l (by omega) (by omega)
      have hVb : ∀ b, InR (Vw w m (l + 1) b) := by
        intro b
        have q1 := hV2 (2 * b)
        have q2 := hV2 (2 * b + 1)
        rw [hV b]
        generalize mW w m l (2 * b) = p1 at *
        generalize mW w m l (2 * b + 1) = p2 at *
        generalize M * 2 ^ l = p3 at *
        clear hV hV2 hiff hms1 hms2 hwt1 hwt2
        omega
      -- the next item
      have nxt : ∀ (v t : Int) (a' : Nat), mW w m (l + 1) k = v → (mS w m (l + 1) k → t = 0) → (¬ mS w m (l + 1) k → t = 1) → mA w m (l + 1) (k + 1) = a' → L_X6_makeList_44 Y X (fun r iv' av' => iv' = iv ∧ Off [30, 31, 32] av av' ∧ r = ((m + Pn m (l + 1) : Nat) : Int) ∧ (∀ k, k < m + Pn m (l + 1) → av' 30 k = mW w m (l + 1) k) ∧ (∀ i, i < 576 * (l + 1) → av' 32 i = av 32 i) ∧ LsC av' w m (l + 1)) m ((Pn m (l + 1) : Nat) : Int) ((576 * (l + 1) : Nat) : Int) (a' : Int) ((k + 1 - a' : Nat) : Int) ((k + 1 : Nat) : Int) iv (up2 (up2 av1 31 k v) 32 (576 * (l + 1) + k) t) := by
        intro v t a' g1 g2 g2' g3
        have := ih (k + 1) (up2 (up2 av1 31 k v) 32 (576 * (l + 1) + k) t) (by omega) ((h2.up (by decide)).up (by decide)) (fun i hi => ?_) (fun i hi => ?_) fun i hi => ?_
        · rw [g3] at this
          exact this
        · rw [up2_ne (by decide), up2_at]
          by_cases hik : i = k
          · rw [if_pos hik, hik, g1]
          · rw [if_neg hik]
            exact h3 i (by omega)
        · rw [up2_nj (by omega), up2_ne (by decide)]
          exact h4 i hi
        · rw [up2_at]
          by_cases hik : i = k
          · rw [if_pos (by rw [hik]), hik]
            by_cases hS : mS w m (l + 1) k
            · rw [if_pos hS, g2 hS]
            · rw [if_neg hS, g2' hS]
          · rw [if_neg (by omega), up2_ne (by decide)]
            exact h5 i (by omega)
      have sym : ∀ x : Int, InR x → mS w m (l + 1) k → a < m → L_X6_makeList_128 Y X (fun r iv' av' => iv' = iv ∧ Off [30, 31, 32] av av' ∧ r = ((m + Pn m (l + 1) : Nat) : Int) ∧ (∀ k, k < m + Pn m (l + 1) → av' 30 k = mW w m (l + 1) k) ∧ (∀ i, i < 576 * (l + 1) → av' 32 i = av 32 i) ∧ LsC av' w m (l + 1)) m ((Pn m (l + 1) : Nat) : Int) ((576 * (l + 1) : Nat) : Int) (a : Int) ((k - a : Nat) : Int) (k : Int) x iv av1 := by
        intro x hx hS ham
        refine w_X6_makeList_128 C (w_X6_makeList_135 C hx (by omega) ⟨fun g => absurd g (by decide), fun _ => ⟨by omega, fun _ => ⟨by omega, by omega, fun g => absurd g (by omega), fun _ => ⟨fun _ => ⟨by omega, ?_⟩, fun g => absurd g (by decide)⟩⟩⟩⟩)
        rw [Int.toNat_natCast, Int.toNat_natCast, show (((576 * (l + 1) : Nat) : Int) + (k : Int)).toNat = 576 * (l + 1) + k by omega, h2 28 (by decide), hw a ham]
        refine w_X6_makeList_192 C (by omega) ⟨fun g => absurd g (by decide), fun _ => ⟨fun g => absurd g (by decide), fun _ => ?_⟩⟩
        have := nxt (w a) 0 (a + 1) (hwt1 () hS) (fun _ => rfl) (fun h => absurd hS h) (hms1 () hS)
        rw [show (a : Int) + 1 = ((a + 1 : Nat) : Int) by omega, show ((k - a : Nat) : Int) + 0 = ((k + 1 - (a + 1) : Nat) : Int) by omega, show (k : Int) + 1 = ((k + 1 : Nat) : Int) by omega]
        exact this
      have par : ¬ mS w m (l + 1) k → L_X6_makeList_132 Y X (fun r iv' av' => iv' = iv ∧ Off [30, 31, 32] av av' ∧ r = ((m + Pn m (l + 1) : Nat) : Int) ∧ (∀ k, k < m + Pn m (l + 1) → av' 30 k = mW w m (l + 1) k) ∧ (∀ i, i < 576 * (l + 1) → av' 32 i = av 32 i) ∧ LsC av' w m (l + 1)) m ((Pn m (l + 1) : Nat) : Int) ((576 * (l + 1) : Nat) : Int) (a : Int) ((k - a : Nat) : Int) (k : Int) (Vw w m (l + 1) (k - a)) iv av1 := by
        intro hS
        refine w_X6_makeList_132 C (w_X6_makeList_135 C (hVb _) (by omega) ⟨fun _ => ⟨by omega, by omega, fun g => absurd g (by omega), fun _ => ⟨fun g => (g rfl).elim, fun _ => ⟨by omega, ?_⟩⟩⟩, fun g => (g rfl).elim⟩)
        rw [Int.toNat_natCast, show (((576 * (l + 1) : Nat) : Int) + (k : Int)).toNat = 576 * (l + 1) + k by omega]
        refine w_X6_makeList_192 C (by omega) ⟨fun _ => ⟨fun _ => ?_, fun g => (g rfl).elim⟩, fun g => (g rfl).elim⟩
        have := nxt (Vw w m (l + 1) (k - a)) 1 a (hwt2 () hS) (fun h => absurd h hS) (fun _ => rfl) (hms2 () hS)
        rw [Int.add_zero, show ((k - a : Nat) : Int) + 1 = ((k + 1 - a : Nat) : Int) by omega, show (k : Int) + 1 = ((k + 1 : Nat) : Int) by omega]
        exact this
      have nopar : k - a = Pn m (l + 1) → L_X6_makeList_102 Y X (fun r iv' av' => iv' = iv ∧ Off [30, 31, 32] av av' ∧ r = ((m + Pn m (l + 1) : Nat) : Int) ∧ (∀ k, k < m + Pn m (l + 1) → av' 30 k = mW w m (l + 1) k) ∧ (∀ i, i < 576 * (l + 1) → av' 32 i = av 32 i) ∧ LsC av' w m (l + 1)) m ((Pn m (l + 1) : Nat) : Int) ((576 * (l + 1) : Nat) : Int) (a : Int) ((k - a : Nat) : Int) (k : Int) 0 iv av1 := by
        intro hb
        exact w_X6_makeList_102 C (by omega) (by omega) (by omega) (by omega) (by omega) ⟨fun g => absurd g (by omega), fun _ => ⟨fun _ => sym 0 (by omega) ((hiff ()).mpr (Or.inl hb)) (by omega), fun g => absurd g (by omega)⟩⟩
      have withpar : k - a < Pn m (l + 1) → L_X6_makeList_102 Y X (fun r iv' av' => iv' = iv ∧ Off [30, 31, 32] av av' ∧ r = ((m + Pn m (l + 1) : Nat) : Int) ∧ (∀ k, k < m + Pn m (l + 1) → av' 30 k = mW w m (l + 1) k) ∧ (∀ i, i < 576 * (l + 1) → av' 32 i = av 32 i) ∧ LsC av' w m (l + 1)) m ((Pn m (l + 1) : Nat) : Int) ((576 * (l + 1) : Nat) : Int) (a : Int) ((k - a : Nat) : Int) (k : Int) (Vw w m (l + 1) (k - a)) iv av1 := by
        intro hb
        refine w_X6_makeList_102 C (by omega) (by omega) (by omega) (by omega) (hVb _) ⟨fun g => par fun hs => ?_, fun g => ⟨fun g2 => absurd g2 (by omega), fun _ => ⟨by omega, ?_⟩⟩⟩
        · rcases (hiff ()).mp hs with h | ⟨h, _⟩
          · omega
          · omega
        · rw [Int.toNat_natCast, h2 28 (by decide), hw a (by omega)]
          refine fun _ => ⟨fun g3 => par fun hs => ?_, fun g3 => sym _ (hVb _) ((hiff ()).mpr (Or.inr ⟨by omega, Int.not_lt.mp g3⟩)) (by omega)⟩
          rcases (hiff ()).mp hs with h | ⟨_, h⟩
          · omega
          · exact absurd g3 (Int.not_lt.mpr h)
      have get : k - a < Pn m (l + 1) → av1 30 (2 * ((k - a : Nat) : Int)).toNat = mW w m l (2 * (k - a)) ∧ av1 30 (2 * ((k - a : Nat) : Int) + 1).toNat = mW w m l (2 * (k - a) + 1) := by
        intro hb
        rw [h2 30 (by decide), show (2 * ((k - a : Nat) : Int)).toNat = 2 * (k - a) by omega, show (2 * ((k - a : Nat) : Int) + 1).toNat = 2 * (k - a) + 1 by omega]
        exact ⟨ho _ (by omega), ho _ (by omega)⟩
      refine w_X6_makeList_44 C (by omega) (by omega) (by omega) (by omega) (by omega) ⟨fun g => absurd g (by omega), fun _ => ⟨fun ham => ⟨fun g => nopar (by omega), fun g => ⟨by omega, fun _ => ⟨by omega, fun _ => ?_⟩⟩⟩, fun ham => ⟨fun g => absurd g (by omega), fun g => ⟨fun g2 => absurd g2 (by omega), fun _ => ⟨by omega, fun _ => ⟨by omega, fun _ => ?_⟩⟩⟩⟩⟩⟩
      · rw [(get (by omega)).1, (get (by omega)).2, ← hV]
        exact withpar (by omega)
      · rw [(get (by omega)).1, (get (by omega)).2, ← hV]
        exact withpar (by omega)
  exact lp (m + Pn m (l + 1)) 0 av rfl (Off.rf _ _) (fun i hi => absurd hi (Nat.not_lt_zero _)) (fun i hi => rfl) fun i hi => absurd hi (Nat.not_lt_zero _)
end SMaker
