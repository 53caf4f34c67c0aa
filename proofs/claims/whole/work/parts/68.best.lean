/-! How many bits a made part's header takes. -/
theorem hdb_sum {z : Nat → Int} (hz : ∀ s, 0 ≤ z s) {q : Nat × (Nat → Int) × (Nat → Int)} (hok : TdOK q) : sm (fun s => z s * cZ q s) 19 + sm (fun t => ((sbits (q.2.1 t).toNat : Nat) : Int)) q.1 = ((hdb z q q.1 : Nat) : Int) := by
  have key : ∀ m, m ≤ q.1 → sm (fun t => if 0 ≤ q.2.1 t then z (q.2.1 t).toNat else 0) m + sm (fun t => ((sbits (q.2.1 t).toNat : Nat) : Int)) m = ((hdb z q m : Nat) : Int) := by
    intro m
    induction m with
    | zero => intro _; rfl
    | succ m ih =>
      intro h
      have a := ih (by omega)
      have c := hok m (by omega)
      have d := hz (q.2.1 m).toNat
      rw [sm, sm, hdb, if_pos c.1]
      omega
  rw [show (fun s => z s * cZ q s) = fun s => z s * cn q.2.1 s q.1 from rfl, exch z q.2.1 19 q.1 fun t ht => by have := hok t ht; omega]
  exact key q.1 (Nat.le_refl _)
section SBest
variable {Y : Gl} {X : Cx} {e : Nat} {iv av : IVt} {beg : Nat} {b : Bw}
theorem c_bitsFor {k k1 n m : Nat} {f c : Nat → Int} (K : CodeK RV 116 k) (K1 : CodeK RV 116 k1) (hn : kl (k + 2) = n) (hm : kl (k1 + 1) = m) (hn2 : n ≤ 288) (hf : ∀ s, s < n → av (k + 2) s = f s) (hf2 : ∀ s, 0 ≤ f s ∧ f s ≤ 15) (hc : ∀ s, s < m → av (k1 + 1) s = c s) (hc0 : ∀ s, m ≤ s → c s = 0) (hc2 : ∀ s, 0 ≤ c s ∧ c s ≤ 10000) : OkN Y (e + 1) mX3_bitsFor [.ref (gl_b Y + k), .ref (gl_b Y + k1)] RV iv av 116 (Same iv av (sm (fun s => f s * c s) n)) := by
  have h := s_X3_bitsFor (Y := Y) (e := e) (iv := iv) (av := av) (g := fun s => f s * c s) K K1 (fun s hs => ?_) (fun s hs => ?_)
  · rw [hn] at h
    exact h
  · rw [hm, hf s (by omega)]
    by_cases h : s < m
    · rw [if_pos h, hc s h]
    · rw [if_neg h, hc0 s (by omega)]
  · have q := sm_bd (f := fun s => f s * c s) (b := 150000) (fun t => ⟨Int.mul_nonneg (hf2 t).1 (hc2 t).1, by
      have := Int.mul_le_mul (hf2 t).2 (hc2 t).2 (hc2 t).1 (by omega)
      omega⟩) s
    omega
end SBest
