/-! Writing a stored part. -/
def wByt (D : Nat → Int) (p : Nat) : Nat → Bw → Bw
  | 0, b => b
  | m + 1, b => wr (D (p + m) % 256) 8 (wByt D p m b)
def wSto (D : Nat → Int) (bg en : Nat) (b : Bw) : Bw := wByt D bg (en - bg) (wr (65535 - ((en - bg : Nat) : Int)) 16 (wr ((en - bg : Nat) : Int) 16 b))
theorem wByt_1 (D : Nat → Int) (p : Nat) (b : Bw) : ∀ m, (wByt D p m b).1 = b.1 + 8 * m := by
  intro m
  induction m with
  | zero => rfl
  | succ m ih =>
    show (wByt D p m b).1 + 8 = _
    omega
section SStored
variable {Y : Gl} {X : Cx} {e : Nat} {iv av : IVt} {beg : Nat} {b : Bw} {k F : Nat}
theorem s_X8_tellStored (K : BytesK k) (hk12 : k ≠ 12) (hk57 : k ≠ 57) (hk13 : k + 1 ≠ 13) {bg en : Nat} (hb : bg ≤ en) (hen : en - bg ≤ 4096) (h1 : ((F + en : Nat) : Int) ≤ iv k 1) (h2 : iv k 1 ≤ kl (k + 1)) (hS : SK iv av beg b) (hroom : beg + (b.1 + 32 + 8 * (en - bg)) / 8 ≤ 131072) : OkN Y (e + 2) mX8_tellStored [.ref (gl_b Y + 22), .ref (gl_b Y + k), .int (i32 ((F + bg : Nat) : Int)), .int (i32 ((F + en : Nat) : Int))] RV iv av 116
    (fun r iv' av' => WrC iv av iv' av' beg (wSto (DB av k F) bg en b)) := by
  have hkl := kl_le (k + 1)
  refine o_X8_tellStored K fun X C => ?_
  rw [show ((F + en : Nat) : Int) - ((F + bg : Nat) : Int) = ((en - bg : Nat) : Int) by omega]
  refine ⟨by omega, OkN.mono (s_X0_bitsK 16 rfl hS (by omega) (by omega)) ?_⟩
  rintro r iv1 av1 hR1 u1
  refine ⟨by omega, OkN.mono (s_X0_bitsK 16 rfl u1.2.2.2 (by omega) (by show beg + (b.1 + 16 + 16) / 8 ≤ 131072; omega)) ?_⟩
  rintro r iv2 av2 hR2 u2
  have w2 := u1.tr u2
  have lp : ∀ (m t : Nat) (iv3 av3 : IVt), t + m = en - bg → WrC iv av iv3 av3 beg (wByt (DB av k F) bg t (wr (65535 - ((en - bg : Nat) : Int)) 16 (wr ((en - bg : Nat) : Int) 16 b))) → L_X8_tellStored_30 Y X (fun r iv' av' => WrC iv av iv' av' beg (wSto (DB av k F) bg en b)) k ((F + en : Nat) : Int) ((F + (bg + t) : Nat) : Int) iv3 av3 := by
    intro m
    induction m with
    | zero =>
      intro t iv3 av3 q1 q2
      refine w_X8_tellStored_30 C K (by omega) (by omega) ⟨fun _ => ?_, fun g => absurd g (by omega)⟩
      unfold wSto
      rw [show en - bg = t by omega] at q2 ⊢
      exact q2
    | succ m ih =>
      intro t iv3 av3 q1 q2
      have hw := wByt_1 (DB av k F) bg (wr (65535 - ((en - bg : Nat) : Int)) 16 (wr ((en - bg : Nat) : Int) 16 b)) t
      have hw2 : (wr (65535 - ((en - bg : Nat) : Int)) 16 (wr ((en - bg : Nat) : Int) 16 b)).1 = b.1 + 16 + 16 := rfl
      have ek : iv3 k = iv k := q2.1 k (by simp [hk12, hk57])
      have ea : av3 (k + 1) = av (k + 1) := q2.2.1 (k + 1) (by simp; omega)
      refine w_X8_tellStored_30 C K (by omega) (by omega) ⟨fun g => absurd g (by omega), fun _ => OkN.mono (s_X2_at K (by omega)) ?_⟩
      rintro r iv4 av4 hR4 ⟨hr, rfl, rfl⟩ _
      have hr' : r = DB av k F (bg + t) % 256 := by
        rw [hr]
        unfold b_at
        rw [ek, ea, if_pos (by omega), Int.toNat_natCast]
      rw [hr']
      refine OkN.mono (s_X0_bitsK 8 rfl q2.2.2.2 (by omega) (by omega)) ?_
      rintro r5 iv5 av5 hR5 u5
      rw [show ((F + (bg + t) : Nat) : Int) + 1 = ((F + (bg + (t + 1)) : Nat) : Int) by omega]
      exact ih (t + 1) iv5 av5 (by omega) (q2.tr u5)
  exact lp (en - bg) 0 iv2 av2 (by omega) w2
theorem l_X13_packPart_359 {a : Nat} (C : CX Y X RX13 "packPart" cX13_packPart 14 none (e + 18) 0 0) (Ka : ArrK 101 a) (ha93 : a ≠ 93) {bg en n : Nat} (hF : F + n ≤ kl a) (hen : en ≤ n) (hb : bg ≤ en) {B : Bw} (hroom : B.1 + 8 * (en - bg) ≤ 528000) {P : PN} (hP : ∀ iv' av', WrR iv av iv' av' (wByt (fun i => av a (F + i)) bg (en - bg) B) → P 0 iv' av') :
    ∀ (m t : Nat) (iv3 av3 : IVt), t + m = en - bg → WrR iv av iv3 av3 (wByt (fun i => av a (F + i)) bg t B) → L_X13_packPart_359 Y X P a F en ((bg + t : Nat) : Int) iv3 av3 := by
  have hk := kl_le a
  intro m
  induction m with
  | zero =>
    intro t iv3 av3 q1 q2
    refine w_X13_packPart_359 C Ka (by omega) (by omega) ⟨fun _ => hP iv3 av3 ?_, fun g => absurd g (by omega)⟩
    rw [show en - bg = t by omega]
    exact q2
  | succ m ih =>
    intro t iv3 av3 q1 q2
    have hw := wByt_1 (fun i => av a (F + i)) bg B t
    refine w_X13_packPart_359 C Ka (by omega) (by omega) ⟨fun g => absurd g (by omega), fun _ => ⟨by omega, ?_⟩⟩
    rw [show ((F : Int) + ((bg + t : Nat) : Int)).toNat = F + (bg + t) by omega, q2.2.1 a (by simp [ha93])]
    refine fun _ => OkN.mono (s_X13_writeNumber 8 rfl q2.2.2 (by omega) (by omega) (by omega)) ?_
    rintro r iv4 av4 hR4 u4
    rw [show ((bg + t : Nat) : Int) + 1 = ((bg + (t + 1) : Nat) : Int) by omega]
    exact ih (t + 1) iv4 av4 (by omega) (q2.tr u4)
end SStored
