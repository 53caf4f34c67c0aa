/-! How many bits a made part's header takes. -/
theorem hdb_sum {z : Nat → Int} (hz : ∀ s, 0 ≤ z s) {q : Nat × (Nat → Int) × (Nat → Int)} (hok : TdOK q) : sm (fun s => z s * cZ q s) 19 + sm (fun t => ((sbits (q.2.1 t).toNat : Nat) : Int)) q.1 = ((hdb z q q.1 : Nat) : Int) := by
  have key : ∀ m, m ≤ q.1 → sm (fun t => if 0 ≤ q.2.1 t then z (q.2.1 t).toNat else 0) m + sm (fun t => ((sbits (q.2.1 t).toNat : Nat) : Int)) m = ((hdb z q m : Nat) : Int) := by
    intro m
    induction m with
    | zero => intro _; rfl
    | succ m ih =>
      intro h
      have a := ih (by omega)
      have c := hok m (by omega)
      have d := hz (q.2.1 m).toNat
      rw [sm, sm, hdb, if_pos c.1]
      omega
  rw [show (fun s => z s * cZ q s) = fun s => z s * cn q.2.1 s q.1 from rfl, exch z q.2.1 19 q.1 fun t ht => by have := hok t ht; omega]
  exact key q.1 (Nat.le_refl _)
