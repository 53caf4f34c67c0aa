/-! The reference's unpacking: stored parts and symbols. -/
/-- what the reference has unpacked -/
def RO (iv av : IVt) (room : Nat) (o : Outp) : Prop := iv 73 58 = ((92 + 1 : Nat) : Int) ∧ iv 73 59 = o.1 ∧ iv 73 60 = room ∧ o.1 ≤ room ∧ room ≤ 65536 ∧ ∀ j : Nat, j < o.1 → av 92 j = o.2 j
def RB (iv : IVt) : Prop := iv 73 58 = ((92 + 1 : Nat) : Int) ∧ 0 ≤ iv 73 59 ∧ iv 73 59 ≤ 65536
theorem RO.of {iv av iv' av' : IVt} {room : Nat} {o : Outp} (h : RO iv av room o) (e1 : iv' 73 58 = iv 73 58) (e2 : iv' 73 59 = iv 73 59) (e3 : iv' 73 60 = iv 73 60) (e4 : av' 92 = av 92) : RO iv' av' room o := by
  unfold RO at *
  rw [e1, e2, e3, e4]
  exact h
theorem RO.rb {iv av : IVt} {room : Nat} {o : Outp} (h : RO iv av room o) : RB iv := by
  obtain ⟨h1, h2, h3, h4, h5, h6⟩ := h
  exact ⟨h1, by omega, by omega⟩
theorem RB.of {iv iv' : IVt} (h : RB iv) (e1 : iv' 73 58 = iv 73 58) (e2 : iv' 73 59 = iv 73 59) : RB iv' := by
  unfold RB at *
  rw [e1, e2]
  exact h
theorem RO.offm {iv av iv' : IVt} {room : Nat} {o : Outp} {L : List Nat} (h : RO iv av room o) (e : OffM L [56, 57] iv iv') : RO iv' av room o := h.of (e.2 58 (by decide)) (e.2 59 (by decide)) (e.2 60 (by decide)) rfl
theorem RB.offm {iv iv' : IVt} {L : List Nat} (h : RB iv) (e : OffM L [56, 57] iv iv') : RB iv' := h.of (e.2 58 (by decide)) (e.2 59 (by decide))
abbrev LRj : List Nat := [56, 57, 59]
/-- a piece's end -/
def RU (iv0 av0 iv' av' : IVt) (fr N room : Nat) (d : Option (Nat × Outp)) (w : Int) : Prop :=
  OffM [] LRj iv0 iv' ∧ Off [92] av0 av' ∧ ((w = 0 ∧ ∃ p' o', d = some (p', o') ∧ RS iv' fr N p' 0 ∧ RO iv' av' room o') ∨ ((w = 1 ∨ d = none) ∧ (∃ q, RS iv' fr N q 1) ∧ RB iv'))
section SRsym
variable {Y : Gl} {X : Cx} {e : Nat} {iv av : IVt} {fr N p room : Nat} {w : Int} {o : Outp}
theorem s_X13_makeByte {x : Int} (h : RS iv fr N p w) (hb : RB iv) (hO : w = 0 → RO iv av room o) : OkN Y e mX13_makeByte [.ref (gl_b Y + 73), .int (i32 x)] RV iv av 116
    (fun r iv' av' => OffM [] LRj iv iv' ∧ Off [92] av av' ∧ ((w = 0 ∧ o.1 < room ∧ RS iv' fr N p 0 ∧ RO iv' av' room (o.1 + 1, fun i => if i = o.1 then bm8 x else o.2 i)) ∨ ((w = 1 ∨ o.1 = room) ∧ RS iv' fr N p 1 ∧ RB iv'))) := by
  have hw := h.2.2.2.2.1
  have hw2 := h.2.2.2.2.2.2.2.2
  have hr1 := h.wr (v := 1) (Or.inr rfl)
  have hb1 : RB (up2 iv 73 57 1) := hb
  refine o_X13_makeByte (tk := 92) (by decide) rfl hb.1 fun _ => ⟨fun hne => ?_, fun h0 _ _ => ⟨fun hne => ?_, fun heq => ?_⟩⟩
  · exact ⟨(OffM.rf _ _ _).up (by decide), Off.rf _ _, Or.inr ⟨Or.inl (by omega), hr1, hb1⟩⟩
  · obtain ⟨h1, h2, h3, h4, h5, h6⟩ := hO (by omega)
    have hk : ((kl 92 : Nat) : Int) = 65536 := rfl
    rw [hk]
    refine ⟨by omega, by omega, ((OffM.rf _ _ _).up (by decide)).up (by decide), (Off.rf _ _).up (by decide), Or.inl ⟨by omega, by omega, h.wr (Or.inl rfl), ?_⟩⟩
    refine ⟨h1, ?_, h3, by dsimp only; omega, h5, fun j hj => ?_⟩
    · rw [up2_eq]
      dsimp only
      omega
    · dsimp only at hj ⊢
      rw [up2_at, bm8_bm8, show (iv 73 59).toNat = o.1 by omega]
      split
      · rfl
      · exact h6 j (by omega)
  · obtain ⟨h1, h2, h3, h4, h5, h6⟩ := hO (by omega)
    exact ⟨(OffM.rf _ _ _).up (by decide), Off.rf _ _, Or.inr ⟨Or.inr (by omega), hr1, hb1⟩⟩
theorem s_X13_readStored (h : RS iv fr N p w) (hb : RB iv) (hO : w = 0 → RO iv av room o) : OkN Y (e + 2) mX13_readStored [.ref (gl_b Y + 73)] RV iv av 116
    (fun r iv' av' => RU iv av iv' av' fr N room (storedF (BB (av 89) fr N) N room p o) w) := by
  have hB := BB_bit (av 89) fr N
  have hN8 := h.2.2.2.2.2.2.1
  have hpN := h.2.2.2.2.2.1
  refine o_X13_readStored fun X C => OkN.mono (s_X13_toByte h) ?_
  rintro r iv1 av1 hR1 ⟨rfl, g1, g2⟩
  have ht8 : toB p % 8 = 0 := by unfold toB; omega
  refine OkN.mono (s_X13_readNumber 16 rfl g2 (by decide)) ?_
  rintro r5 iv2 av2 hR2 ⟨rfl, g3, g4⟩ hr5
  have f2 : OffM [] [56, 57] iv iv2 := g1.tr g3
  -- what is wrong stays so
  have wrongs : ∀ (x j : Int) (iv3 av3 : IVt) (q : Nat), InR x → InR j → RS iv3 fr N q 1 → RB iv3 → OffM [] LRj iv iv3 → Off [92] av2 av3 → (w = 1 ∨ storedF (BB (av2 89) fr N) N room p o = none) → L_X13_readStored_42 Y X (fun r iv' av' => RU iv av2 iv' av' fr N room (storedF (BB (av2 89) fr N) N room p o) w) x j iv3 av3 := by
    intro x j iv3 av3 q hx hj hq hb3 h3 h4 hd
    have h5 := hq.2.2.2.2.1
    refine w_X13_readStored_42 C hx hj ⟨fun _ => ⟨h3, h4, Or.inr ⟨hd, ⟨q, hq⟩, hb3⟩⟩, fun _ _ => ⟨fun _ => ⟨h3, h4, Or.inr ⟨hd, ⟨q, hq⟩, hb3⟩⟩, fun h => absurd h (by omega)⟩⟩
  have e16 : (2 : Int) ^ 16 = 65536 := rfl
  rcases g4 with ⟨hw, a1, rfl, a2⟩ | ⟨a1, a2, a3, q, a4⟩
  · subst hw
    have n1 := nn_eq hB (toB p) 16
    have l1 : nn (BB (av2 89) fr N) (toB p) 16 < 65536 := nn_lt hB (toB p) 16
    refine OkN.mono (s_X13_readNumber 16 rfl a2 (by decide)) ?_
    rintro r9 iv3 av3 hR3 ⟨rfl, g5, g6⟩ hr9
    have f3 : OffM [] [56, 57] iv iv3 := f2.tr g5
    have f3' : OffM [] LRj iv iv3 := f3.mono (by decide) (by decide)
    have o3 := (hO rfl).offm f3
    refine ⟨by omega, fun hne => ?_, fun heq _ => ⟨fun h0 => ?_, fun h1 => ?_⟩⟩
    · rcases g6 with ⟨_, b1, rfl, b2⟩ | ⟨b1, b2, b3, q, b4⟩
      · refine wrongs _ _ _ _ _ (by omega) (by omega) (b2.wr (Or.inr rfl)) o3.rb (f3'.up (by decide)) (Off.rf _ _) (Or.inr ?_)
        have n2 := nn_eq hB (toB p + 16) 16
        unfold storedF
        rw [if_pos (by omega)]
      · refine wrongs _ _ _ _ _ (by omega) (by omega) (b4.wr (Or.inr rfl)) o3.rb (f3'.up (by decide)) (Off.rf _ _) (Or.inr ?_)
        unfold storedF
        rw [if_pos (by omega)]
    · rcases g6 with ⟨_, b1, rfl, b2⟩ | ⟨b1, b2, b3, q, b4⟩
      · have n2 := nn_eq hB (toB p + 16) 16
        have l2 : nn (BB (av3 89) fr N) (toB p + 16) 16 < 65536 := nn_lt hB (toB p + 16) 16
        rw [n1] at heq ⊢
        -- the bytes
        have lp : ∀ (m j : Nat) (iv4 av4 : IVt), j + m = nn (BB (av3 89) fr N) (toB p) 16 → OffM [] LRj iv iv4 → Off [92] av3 av4 → toB p + 32 + 8 * j ≤ N → RS iv4 fr N (toB p + 32 + 8 * j) 0 → RO iv4 av4 room (o.1 + j, fun i => if o.1 ≤ i ∧ i < o.1 + j then bm8 (nv (BB (av3 89) fr N) (toB p + 32 + 8 * (i - o.1)) 8) else o.2 i) →
            L_X13_readStored_42 Y X (fun r iv' av' => RU iv av3 iv' av' fr N room (storedF (BB (av3 89) fr N) N room p o) 0) ((nn (BB (av3 89) fr N) (toB p) 16 : Nat) : Int) j iv4 av4 := by
          intro m
          induction m with
          | zero =>
            intro j iv4 av4 c1 c2 c3 c4 c5 c6
            have hj : j = nn (BB (av3 89) fr N) (toB p) 16 := by omega
            refine w_X13_readStored_42 C (by omega) (by omega) ⟨fun _ => ⟨c2, c3, Or.inl ⟨rfl, _, _, ?_, c5, c6⟩⟩, fun h => absurd h (by omega)⟩
            have := c6.2.2.2.1
            dsimp only at this
            unfold storedF
            rw [if_neg (by omega), hj]
          | succ m ih =>
            intro j iv4 av4 c1 c2 c3 c4 c5 c6
            have h5 := c5.2.2.2.2.1
            refine w_X13_readStored_42 C (by omega) (by omega) ⟨fun h => absurd h (by omega), fun _ _ => ⟨fun h => absurd h5 h, fun _ => OkN.mono (s_X13_readNumber 8 rfl c5 (by decide)) ?_⟩⟩
            rintro r4 iv5 av5 hR5 ⟨rfl, d1, d2⟩ hr4
            have o5 := c6.offm d1
            have f5 : OffM [] LRj iv iv5 := c2.tr (d1.mono (by decide) (by decide))
            have e89 : av5 89 = av3 89 := c3 89 (by decide)
            rw [e89] at d2
            rw [show (j : Int) + 1 = ((j + 1 : Nat) : Int) by omega]
            rcases d2 with ⟨_, d2, rfl, d3⟩ | ⟨d2, d3, d4, q, d5⟩
            · refine OkN.mono (s_X13_makeByte (room := room) d3 o5.rb fun _ => o5) ?_
              rintro r8 iv6 av6 hR6 ⟨f1, f2, f3⟩
              rcases f3 with ⟨_, f3, f4, f6⟩ | ⟨f3, f4, f6⟩
              · refine ih (j + 1) iv6 av6 (by omega) (f5.tr f1) (c3.tr f2) (by omega) ?_ ?_
                · rw [show toB p + 32 + 8 * (j + 1) = toB p + 32 + 8 * j + 8 by omega]
                  exact f4
                · obtain ⟨z1, z2, z3, z4, z5, z6⟩ := f6
                  refine ⟨z1, z2, z3, z4, z5, fun i hi => ?_⟩
                  rw [z6 i hi]
                  dsimp only
                  by_cases hij : i = o.1 + j
                  · rw [if_pos hij, if_pos (by omega), show i - o.1 = j by omega]
                  · rw [if_neg hij]
                    by_cases hlt : o.1 ≤ i
                    · dsimp only at hi
                      rw [if_pos (by omega), if_pos (by omega)]
                    · rw [if_neg (by omega), if_neg (by omega)]
              · refine wrongs _ _ _ _ _ (by omega) (by omega) f4 f6 (f5.tr f1) (c3.tr f2) (Or.inr ?_)
                dsimp only at f3
                unfold storedF
                rw [if_pos (by omega)]
            · refine OkN.mono (s_X13_makeByte (room := room) (o := o) d5 o5.rb fun h => absurd h (by decide)) ?_
              rintro r8 iv6 av6 hR6 ⟨f1, f2, f3⟩
              rcases f3 with ⟨f3, _⟩ | ⟨f3, f4, f6⟩
              · exact absurd f3 (by decide)
              · refine wrongs _ _ _ _ _ (by omega) (by omega) f4 f6 (f5.tr f1) (c3.tr f2) (Or.inr ?_)
                unfold storedF
                rw [if_pos (by omega)]
        refine lp (nn (BB (av3 89) fr N) (toB p) 16) 0 _ _ (by omega) (f3'.up (by decide)) (Off.rf _ _) (by omega) ?_ ?_
        · rw [show toB p + 32 + 8 * 0 = toB p + 16 + 16 by omega]
          exact b2.wr (Or.inl rfl)
        · obtain ⟨z1, z2, z3, z4, z5, z6⟩ := o3
          refine ⟨z1, z2, z3, z4, z5, fun i hi => ?_⟩
          dsimp only at hi ⊢
          rw [if_neg (by omega)]
          exact z6 i hi
      · have := b4.2.2.2.2.1
        omega
    · rcases g6 with ⟨_, b1, rfl, b2⟩ | ⟨b1, b2, b3, q, b4⟩
      · have := b2.2.2.2.2.1
        omega
      · refine wrongs _ _ _ _ _ (by omega) (by omega) (b4.wr (Or.inr rfl)) o3.rb (f3'.up (by decide)) (Off.rf _ _) (Or.inr ?_)
        unfold storedF
        rw [if_pos (by omega)]
  · refine OkN.mono (s_X13_readNumber 16 rfl a4 (by decide)) ?_
    rintro r9 iv3 av3 hR3 ⟨rfl, g5, g6⟩ hr9
    have f3 : OffM [] [56, 57] iv iv3 := f2.tr g5
    have f3' : OffM [] LRj iv iv3 := f3.mono (by decide) (by decide)
    have hb3 := hb.offm f3
    obtain ⟨q, b4⟩ : ∃ q, RS iv3 fr N q 1 := by
      rcases g6 with ⟨h10, _⟩ | ⟨_, _, _, b4⟩
      · exact absurd h10 (by decide)
      · exact b4
    have hd : w = 1 ∨ storedF (BB (av3 89) fr N) N room p o = none := by
      rcases a1 with a1 | a1
      · exact Or.inl a1
      · right
        unfold storedF
        rw [if_pos (by omega)]
    refine ⟨by omega, fun hne => ?_, fun heq _ => ⟨fun h0 => ?_, fun h1 => ?_⟩⟩
    · exact wrongs _ _ _ _ _ (by omega) (by omega) (b4.wr (Or.inr rfl)) hb3 (f3'.up (by decide)) (Off.rf _ _) hd
    · have := b4.2.2.2.2.1
      omega
    · exact wrongs _ _ _ _ _ (by omega) (by omega) (b4.wr (Or.inr rfl)) hb3 (f3'.up (by decide)) (Off.rf _ _) hd
theorem s_X13_checkOf {a n : Nat} (Ka : ArrK 101 a) (hn : n ≤ kl a) {f : Nat} (hf : f + n ≤ kl a) : OkN Y e mX13_checkOf [.ref (gl_b Y + a), .int (i32 (f : Int)), .int (i32 (n : Int))] RV iv av 116
    (Same iv av (65536 * (adl (fun j => av a (f + j)) n).2 + (adl (fun j => av a (f + j)) n).1)) := by
  refine o_X13_checkOf Ka fun X C => ?_
  have hk := kl_le a
  have key : ∀ (m j : Nat), j + m = n → L_X13_checkOf_8 Y X (Same iv av (65536 * (adl (fun j => av a (f + j)) n).2 + (adl (fun j => av a (f + j)) n).1)) a f n (adl (fun j => av a (f + j)) j).1 (adl (fun j => av a (f + j)) j).2 ((f + j : Nat) : Int) iv av := by
    intro m
    induction m with
    | zero =>
      intro j hj
      have : j = n := by omega
      subst this
      have ha := adl_in (fun j => av a (f + j)) j
      exact w_X13_checkOf_8 C Ka (by omega) ⟨by omega, fun _ => ⟨by omega, rfl, rfl, rfl⟩, fun h => absurd h (by omega)⟩
    | succ m ih =>
      intro j hj
      have ha := adl_in (fun j => av a (f + j)) j
      refine w_X13_checkOf_8 C Ka (by omega) ⟨by omega, fun h => absurd h (by omega), fun _ => ⟨by omega, ?_⟩⟩
      rw [Int.toNat_natCast]
      refine fun _ => ⟨by omega, by omega, by omega, by omega, ?_⟩
      rw [show ((f + j : Nat) : Int) + 1 = ((f + (j + 1) : Nat) : Int) by omega]
      exact ih (j + 1) (by omega)
  exact key n 0 (by omega)
end SRsym
