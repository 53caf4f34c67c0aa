/-! Contracts that make nothing; calls of them; what the generated walks use. -/
/-- a contract that makes no cell and leaves the references as they are -/
abbrev PN : Type := Int → IVt → IVt → Prop
def g_N (rv : RVt) (n : Nat) (P : PN) : PT := fun r rv' iv' av' n' => rv' = rv ∧ n' = n ∧ P r iv' av'
def OkN (Y : Gl) (d : Nat) (mt : MT) (as : List Value) (rv : RVt) (iv av : IVt) (n : Nat) (P : PN) : Prop := OkW Y d 0 0 mt as rv iv av n (g_N rv n P)
theorem OkN.mono {Y : Gl} {d : Nat} {mt : MT} {as : List Value} {rv : RVt} {iv av : IVt} {n : Nat} {P P' : PN} (h : OkN Y d mt as rv iv av n P) (hP : ∀ r iv' av', Rng iv' av' → P r iv' av' → P' r iv' av') : OkN Y d mt as rv iv av n P' :=
  OkW.mono h fun r rv' iv' av' n' hR hp => ⟨hp.1, hp.2.1, hP r iv' av' hR hp.2.2⟩
theorem OkN.rng {Y : Gl} {d : Nat} {mt : MT} {as : List Value} {rv : RVt} {iv av : IVt} {n : Nat} {P : PN} (h : Rng iv av → OkN Y d mt as rv iv av n P) : OkN Y d mt as rv iv av n P := OkW.rng h
theorem g_cmp_in (x y : Int) : InR (g_cmp x y) := by
  unfold g_cmp
  split
  · omega
  · split <;> omega
theorem pow2_dvd {a b : Nat} (h : a ≤ b) : ((2 : Int) ^ a) ∣ (2 : Int) ^ b := ⟨2 ^ (b - a), by rw [← Int.pow_add]; congr 1; omega⟩
theorem g_and_mask (x : Int) {q : Nat} (hq : q ≤ 31) : g_and x (2 ^ q - 1) = x % 2 ^ q := by
  have hp : (0 : Int) < 2 ^ q := Int.pow_pos (by omega)
  have hpn : 0 < 2 ^ q := Nat.two_pow_pos q
  have hle : (2 : Int) ^ q ≤ 2 ^ 31 := by
    have := Nat.pow_le_pow_right (show 0 < 2 by omega) hq
    exact_mod_cast this
  have h0 := Int.emod_nonneg x (show (2 : Int) ^ q ≠ 0 by omega)
  have h1 := Int.emod_lt_of_pos x hp
  have key : i32 x &&& i32 (2 ^ q - 1) = i32 (x % 2 ^ q) := by
    apply Int32.toBitVec_inj.mp
    apply BitVec.eq_of_toNat_eq
    rw [Int32.toBitVec_and, BitVec.toNat_and]
    unfold i32
    simp only [Int32.toBitVec_ofInt, BitVec.toNat_ofInt]
    have e1 : (((2 : Int) ^ q - 1) % ((2 ^ 32 : Nat) : Int)).toNat = 2 ^ q - 1 := by
      rw [Int.emod_eq_of_lt (by omega) (by simp; omega)]
      have : ((2 : Int) ^ q) = ((2 ^ q : Nat) : Int) := by simp
      omega
    have e2 : (x % 2 ^ q % ((2 ^ 32 : Nat) : Int)) = x % 2 ^ q := Int.emod_eq_of_lt h0 (by simp; omega)
    rw [e1, e2, Nat.and_two_pow_sub_one_eq_mod]
    apply Int.ofNat.inj
    simp only [Int.ofNat_eq_natCast, Int.natCast_emod, Int.natCast_pow]
    rw [Int.toNat_of_nonneg h0, Int.toNat_of_nonneg (Int.emod_nonneg _ (by simp))]
    exact Int.emod_emod_of_dvd x (pow2_dvd (by omega))
  unfold g_and
  rw [key, i32_toInt (by omega)]
theorem g_andL_mask (x : Int) {q : Nat} (hq : q ≤ 63) : g_andL x (2 ^ q - 1) = x % 2 ^ q := by
  have hp : (0 : Int) < 2 ^ q := Int.pow_pos (by omega)
  have hpn : 0 < 2 ^ q := Nat.two_pow_pos q
  have hle : (2 : Int) ^ q ≤ 2 ^ 63 := by
    have := Nat.pow_le_pow_right (show 0 < 2 by omega) hq
    exact_mod_cast this
  have h0 := Int.emod_nonneg x (show (2 : Int) ^ q ≠ 0 by omega)
  have h1 := Int.emod_lt_of_pos x hp
  have key : i64 x &&& i64 (2 ^ q - 1) = i64 (x % 2 ^ q) := by
    apply Int64.toBitVec_inj.mp
    apply BitVec.eq_of_toNat_eq
    rw [Int64.toBitVec_and, BitVec.toNat_and]
    unfold i64
    simp only [Int64.toBitVec_ofInt, BitVec.toNat_ofInt]
    have e1 : (((2 : Int) ^ q - 1) % ((2 ^ 64 : Nat) : Int)).toNat = 2 ^ q - 1 := by
      rw [Int.emod_eq_of_lt (by omega) (by simp; omega)]
      have : ((2 : Int) ^ q) = ((2 ^ q : Nat) : Int) := by simp
      omega
    have e2 : (x % 2 ^ q % ((2 ^ 64 : Nat) : Int)) = x % 2 ^ q := Int.emod_eq_of_lt h0 (by simp; omega)
    rw [e1, e2, Nat.and_two_pow_sub_one_eq_mod]
    apply Int.ofNat.inj
    simp only [Int.ofNat_eq_natCast, Int.natCast_emod, Int.natCast_pow]
    rw [Int.toNat_of_nonneg h0, Int.toNat_of_nonneg (Int.emod_nonneg _ (by simp))]
    exact Int.emod_emod_of_dvd x (pow2_dvd (by omega))
  unfold g_andL
  rw [key, i64_toInt (by omega)]
section Rows5
variable {Y : Gl} {X : Cx} {own nm : String} {cc : ByteArray} {nL d mc ms : Nat} {ret : Option FieldType} {Q : State → Prop} {ce sl pc pc' : Nat} {ls ls' : List (Nat × Value)} {st : List Value} {rv : RVt} {iv av : IVt} {n : Nat}
theorem r_ishlC (C : CX Y X own nm cc nL ret d mc ms) {x y m : Int} (hb : 0 ≤ y ∧ y ≤ 31) (hm : (2 : Int) ^ y.toNat = m) (hdg : decode cc pc = .ok (.ishl, 1)) (hq : pc + 1 = pc') (k : Wa Y X nL Q ce sl pc' ls (.int (i32 (x * m)) :: st) rv iv av n) : Wa Y X nL Q ce sl pc ls (.int (i32 y) :: .int (i32 x) :: st) rv iv av n := by
  subst hm; exact r_ishl C hb hdg hq k
theorem r_ishrC (C : CX Y X own nm cc nL ret d mc ms) {x y m : Int} (hx : InR x) (hb : 0 ≤ y ∧ y ≤ 31) (hm : (2 : Int) ^ y.toNat = m) (hdg : decode cc pc = .ok (.ishr, 1)) (hq : pc + 1 = pc') (k : Wa Y X nL Q ce sl pc' ls (.int (i32 (x / m)) :: st) rv iv av n) : Wa Y X nL Q ce sl pc ls (.int (i32 y) :: .int (i32 x) :: st) rv iv av n := by
  subst hm; exact r_ishr C hx hb hdg hq k
theorem r_iushrC (C : CX Y X own nm cc nL ret d mc ms) {x y m : Int} (hb : 0 ≤ y ∧ y ≤ 31) (hm : (2 : Int) ^ y.toNat = m) (hdg : decode cc pc = .ok (.iushr, 1)) (hq : pc + 1 = pc') (k : Wa Y X nL Q ce sl pc' ls (.int (i32 (x % 4294967296 / m)) :: st) rv iv av n) : Wa Y X nL Q ce sl pc ls (.int (i32 y) :: .int (i32 x) :: st) rv iv av n := by
  subst hm; exact r_iushr C hb hdg hq k
theorem r_lshlC (C : CX Y X own nm cc nL ret d mc ms) {x y m : Int} (hb : 0 ≤ y ∧ y ≤ 63) (hm : (2 : Int) ^ y.toNat = m) (hdg : decode cc pc = .ok (.lshl, 1)) (hq : pc + 1 = pc') (k : Wa Y X nL Q ce sl pc' ls (.long (i64 (x * m)) :: st) rv iv av n) : Wa Y X nL Q ce sl pc ls (.int (i32 y) :: .long (i64 x) :: st) rv iv av n := by
  subst hm; exact r_lshl C hb hdg hq k
theorem r_iandM (C : CX Y X own nm cc nL ret d mc ms) {x y m : Int} (q : Nat) (hq31 : q ≤ 31) (hy : y = (2 : Int) ^ q - 1) (hm : (2 : Int) ^ q = m) (hdg : decode cc pc = .ok (.iand, 1)) (hq : pc + 1 = pc') (k : Wa Y X nL Q ce sl pc' ls (.int (i32 (x % m)) :: st) rv iv av n) : Wa Y X nL Q ce sl pc ls (.int (i32 y) :: .int (i32 x) :: st) rv iv av n := by
  subst hm; subst hy
  exact r_iand C hdg hq (by rw [g_and_mask x hq31]; exact k)
theorem r_landM (C : CX Y X own nm cc nL ret d mc ms) {x y m : Int} (q : Nat) (hq63 : q ≤ 63) (hy : y = (2 : Int) ^ q - 1) (hm : (2 : Int) ^ q = m) (hdg : decode cc pc = .ok (.land, 1)) (hq : pc + 1 = pc') (k : Wa Y X nL Q ce sl pc' ls (.long (i64 (x % m)) :: st) rv iv av n) : Wa Y X nL Q ce sl pc ls (.long (i64 y) :: .long (i64 x) :: st) rv iv av n := by
  subst hm; subst hy
  exact r_land C hdg hq (by rw [g_andL_mask x hq63]; exact k)
/-- an int that may have run over is what is left of it -/
theorem r_wrap {x : Int} (k : Wa Y X nL Q ce sl pc ls (.int (i32 (bm32 x)) :: st) rv iv av n) : Wa Y X nL Q ce sl pc ls (.int (i32 x) :: st) rv iv av n := Wa.topi (i32_bm x).symm k

theorem c_Vi (C : CX Y X own nm cc nL ret d mc ms) {mt : MT} {np idx d' : Nat} {k ci : Nat} {q : vw_C} {as stk : List Value} {P : PN} (hM : OkN Y d' mt (.ref (gl_b Y + k) :: as) rv iv av n P) (hκ : mt.2.2.2.2 = 1) (hc : CLk mt np) (hl0 : Cond.methodLink own idx mt.1 ∈ g_WS) (hi : Cond.instanceMethod mt.1 ∈ g_WS) (hs : Cond.selects mt.1.cls mt.1 mt.1 ∈ g_WS) (hd : d' + 1 ≤ d) (hmc : ce ≤ mc) (hms : sl ≤ ms) (hn : as.length = np) (hk : k < n) (hkc : kc k = ci) (h100 : ci < 100) (hcl : vwCl[ci]? = some q) (hq1 : q.1 = mt.1.cls) (hst : stk = as.reverse ++ .ref (gl_b Y + k) :: st) (hsum : (st.map fun v => v.category).sum ≤ 8) (hdg : decode cc pc = .ok (.invokevirtual idx, 3)) (hq : pc + 3 = pc') (kk : ∀ (r : Int) (iv' av' : IVt), InR r → P r iv' av' → Wa Y X nL Q ce sl pc' ls (.int (i32 r) :: st) rv iv' av' n) : Wa Y X nL Q ce sl pc ls stk rv iv av n := by
  subst hq; exact r_callV C hM hc hl0 hi hs hd hmc hms hn hk hkc h100 hcl hq1 hst hsum hdg (fun r rv' iv' av' n' hr hp => by obtain ⟨rfl, rfl, hp⟩ := hp; rw [hκ] at hr ⊢; exact kk r iv' av' hr hp)
theorem c_VNi (C : CX Y X own nm cc nL ret d mc ms) {mt : MT} {np idx d' : Nat} {host : String} {k ci : Nat} {q : vw_C} {as stk : List Value} {P : PN} (hM : OkN Y d' mt (.ref (gl_b Y + k) :: as) rv iv av n P) (hκ : mt.2.2.2.2 = 1) (hc : CLk mt np) (hl0 : (own, idx, mt.1, host) ∈ g_NM) (hi : Cond.instanceMethod mt.1 ∈ g_WS) (hs : Cond.selects mt.1.cls mt.1 mt.1 ∈ g_WS) (hd : d' + 1 ≤ d) (hmc : ce ≤ mc) (hms : sl ≤ ms) (hn : as.length = np) (hk : k < n) (hkc : kc k = ci) (h100 : ci < 100) (hcl : vwCl[ci]? = some q) (hq1 : q.1 = mt.1.cls) (hst : stk = as.reverse ++ .ref (gl_b Y + k) :: st) (hsum : (st.map fun v => v.category).sum ≤ 8) (hdg : decode cc pc = .ok (.invokevirtual idx, 3)) (hq : pc + 3 = pc') (kk : ∀ (r : Int) (iv' av' : IVt), InR r → P r iv' av' → Wa Y X nL Q ce sl pc' ls (.int (i32 r) :: st) rv iv' av' n) : Wa Y X nL Q ce sl pc ls stk rv iv av n := by
  subst hq; exact r_callVN C hM hc hl0 hi hs hd hmc hms hn hk hkc h100 hcl hq1 hst hsum hdg (fun r rv' iv' av' n' hr hp => by obtain ⟨rfl, rfl, hp⟩ := hp; rw [hκ] at hr ⊢; exact kk r iv' av' hr hp)
theorem c_Si (C : CX Y X own nm cc nL ret d mc ms) {mt : MT} {np idx d' : Nat} {as stk : List Value} {P : PN} (hM : OkN Y d' mt as rv iv av n P) (hκ : mt.2.2.2.2 = 1) (hc : CLk mt np) (hl0 : Cond.methodLink own idx mt.1 ∈ g_WS) (hi : Cond.static mt.1 ∈ g_WS) (hd : d' + 1 ≤ d) (hmc : ce ≤ mc) (hms : sl ≤ ms) (hn : as.length = np) (hst : stk = as.reverse ++ st) (hsum : (st.map fun v => v.category).sum ≤ 8) (hdg : decode cc pc = .ok (.invokestatic idx, 3)) (hq : pc + 3 = pc') (kk : ∀ (r : Int) (iv' av' : IVt), InR r → P r iv' av' → Wa Y X nL Q ce sl pc' ls (.int (i32 r) :: st) rv iv' av' n) : Wa Y X nL Q ce sl pc ls stk rv iv av n := by
  subst hq; exact r_callS C hM hc hl0 hi hd hmc hms hn hst hsum hdg (fun r rv' iv' av' n' hr hp => by obtain ⟨rfl, rfl, hp⟩ := hp; rw [hκ] at hr ⊢; exact kk r iv' av' hr hp)
theorem c_SNi (C : CX Y X own nm cc nL ret d mc ms) {mt : MT} {np idx d' : Nat} {host : String} {as stk : List Value} {P : PN} (hM : OkN Y d' mt as rv iv av n P) (hκ : mt.2.2.2.2 = 1) (hc : CLk mt np) (hl0 : (own, idx, mt.1, host) ∈ g_NM) (hi : Cond.static mt.1 ∈ g_WS) (hd : d' + 1 ≤ d) (hmc : ce ≤ mc) (hms : sl ≤ ms) (hn : as.length = np) (hst : stk = as.reverse ++ st) (hsum : (st.map fun v => v.category).sum ≤ 8) (hdg : decode cc pc = .ok (.invokestatic idx, 3)) (hq : pc + 3 = pc') (kk : ∀ (r : Int) (iv' av' : IVt), InR r → P r iv' av' → Wa Y X nL Q ce sl pc' ls (.int (i32 r) :: st) rv iv' av' n) : Wa Y X nL Q ce sl pc ls stk rv iv av n := by
  subst hq; exact r_callSN C hM hc hl0 hi hd hmc hms hn hst hsum hdg (fun r rv' iv' av' n' hr hp => by obtain ⟨rfl, rfl, hp⟩ := hp; rw [hκ] at hr ⊢; exact kk r iv' av' hr hp)
theorem c_Vv (C : CX Y X own nm cc nL ret d mc ms) {mt : MT} {np idx d' : Nat} {k ci : Nat} {q : vw_C} {as stk : List Value} {P : PN} (hM : OkN Y d' mt (.ref (gl_b Y + k) :: as) rv iv av n P) (hκ : mt.2.2.2.2 = 0) (hc : CLk mt np) (hl0 : Cond.methodLink own idx mt.1 ∈ g_WS) (hi : Cond.instanceMethod mt.1 ∈ g_WS) (hs : Cond.selects mt.1.cls mt.1 mt.1 ∈ g_WS) (hd : d' + 1 ≤ d) (hmc : ce ≤ mc) (hms : sl ≤ ms) (hn : as.length = np) (hk : k < n) (hkc : kc k = ci) (h100 : ci < 100) (hcl : vwCl[ci]? = some q) (hq1 : q.1 = mt.1.cls) (hst : stk = as.reverse ++ .ref (gl_b Y + k) :: st) (hsum : (st.map fun v => v.category).sum ≤ 8) (hdg : decode cc pc = .ok (.invokevirtual idx, 3)) (hq : pc + 3 = pc') (kk : ∀ (r : Int) (iv' av' : IVt), P r iv' av' → Wa Y X nL Q ce sl pc' ls (st) rv iv' av' n) : Wa Y X nL Q ce sl pc ls stk rv iv av n := by
  subst hq; exact r_callV C hM hc hl0 hi hs hd hmc hms hn hk hkc h100 hcl hq1 hst hsum hdg (fun r rv' iv' av' n' hr hp => by obtain ⟨rfl, rfl, hp⟩ := hp; rw [hκ] at hr ⊢; exact kk r iv' av' hp)
theorem c_VNv (C : CX Y X own nm cc nL ret d mc ms) {mt : MT} {np idx d' : Nat} {host : String} {k ci : Nat} {q : vw_C} {as stk : List Value} {P : PN} (hM : OkN Y d' mt (.ref (gl_b Y + k) :: as) rv iv av n P) (hκ : mt.2.2.2.2 = 0) (hc : CLk mt np) (hl0 : (own, idx, mt.1, host) ∈ g_NM) (hi : Cond.instanceMethod mt.1 ∈ g_WS) (hs : Cond.selects mt.1.cls mt.1 mt.1 ∈ g_WS) (hd : d' + 1 ≤ d) (hmc : ce ≤ mc) (hms : sl ≤ ms) (hn : as.length = np) (hk : k < n) (hkc : kc k = ci) (h100 : ci < 100) (hcl : vwCl[ci]? = some q) (hq1 : q.1 = mt.1.cls) (hst : stk = as.reverse ++ .ref (gl_b Y + k) :: st) (hsum : (st.map fun v => v.category).sum ≤ 8) (hdg : decode cc pc = .ok (.invokevirtual idx, 3)) (hq : pc + 3 = pc') (kk : ∀ (r : Int) (iv' av' : IVt), P r iv' av' → Wa Y X nL Q ce sl pc' ls (st) rv iv' av' n) : Wa Y X nL Q ce sl pc ls stk rv iv av n := by
  subst hq; exact r_callVN C hM hc hl0 hi hs hd hmc hms hn hk hkc h100 hcl hq1 hst hsum hdg (fun r rv' iv' av' n' hr hp => by obtain ⟨rfl, rfl, hp⟩ := hp; rw [hκ] at hr ⊢; exact kk r iv' av' hp)
theorem c_Sv (C : CX Y X own nm cc nL ret d mc ms) {mt : MT} {np idx d' : Nat} {as stk : List Value} {P : PN} (hM : OkN Y d' mt as rv iv av n P) (hκ : mt.2.2.2.2 = 0) (hc : CLk mt np) (hl0 : Cond.methodLink own idx mt.1 ∈ g_WS) (hi : Cond.static mt.1 ∈ g_WS) (hd : d' + 1 ≤ d) (hmc : ce ≤ mc) (hms : sl ≤ ms) (hn : as.length = np) (hst : stk = as.reverse ++ st) (hsum : (st.map fun v => v.category).sum ≤ 8) (hdg : decode cc pc = .ok (.invokestatic idx, 3)) (hq : pc + 3 = pc') (kk : ∀ (r : Int) (iv' av' : IVt), P r iv' av' → Wa Y X nL Q ce sl pc' ls (st) rv iv' av' n) : Wa Y X nL Q ce sl pc ls stk rv iv av n := by
  subst hq; exact r_callS C hM hc hl0 hi hd hmc hms hn hst hsum hdg (fun r rv' iv' av' n' hr hp => by obtain ⟨rfl, rfl, hp⟩ := hp; rw [hκ] at hr ⊢; exact kk r iv' av' hp)
theorem c_SNv (C : CX Y X own nm cc nL ret d mc ms) {mt : MT} {np idx d' : Nat} {host : String} {as stk : List Value} {P : PN} (hM : OkN Y d' mt as rv iv av n P) (hκ : mt.2.2.2.2 = 0) (hc : CLk mt np) (hl0 : (own, idx, mt.1, host) ∈ g_NM) (hi : Cond.static mt.1 ∈ g_WS) (hd : d' + 1 ≤ d) (hmc : ce ≤ mc) (hms : sl ≤ ms) (hn : as.length = np) (hst : stk = as.reverse ++ st) (hsum : (st.map fun v => v.category).sum ≤ 8) (hdg : decode cc pc = .ok (.invokestatic idx, 3)) (hq : pc + 3 = pc') (kk : ∀ (r : Int) (iv' av' : IVt), P r iv' av' → Wa Y X nL Q ce sl pc' ls (st) rv iv' av' n) : Wa Y X nL Q ce sl pc ls stk rv iv av n := by
  subst hq; exact r_callSN C hM hc hl0 hi hd hmc hms hn hst hsum hdg (fun r rv' iv' av' n' hr hp => by obtain ⟨rfl, rfl, hp⟩ := hp; rw [hκ] at hr ⊢; exact kk r iv' av' hp)
theorem c_Vl (C : CX Y X own nm cc nL ret d mc ms) {mt : MT} {np idx d' : Nat} {k ci : Nat} {q : vw_C} {as stk : List Value} {P : PN} (hM : OkN Y d' mt (.ref (gl_b Y + k) :: as) rv iv av n P) (hκ : mt.2.2.2.2 = 2) (hc : CLk mt np) (hl0 : Cond.methodLink own idx mt.1 ∈ g_WS) (hi : Cond.instanceMethod mt.1 ∈ g_WS) (hs : Cond.selects mt.1.cls mt.1 mt.1 ∈ g_WS) (hd : d' + 1 ≤ d) (hmc : ce ≤ mc) (hms : sl ≤ ms) (hn : as.length = np) (hk : k < n) (hkc : kc k = ci) (h100 : ci < 100) (hcl : vwCl[ci]? = some q) (hq1 : q.1 = mt.1.cls) (hst : stk = as.reverse ++ .ref (gl_b Y + k) :: st) (hsum : (st.map fun v => v.category).sum ≤ 8) (hdg : decode cc pc = .ok (.invokevirtual idx, 3)) (hq : pc + 3 = pc') (kk : ∀ (r : Int) (iv' av' : IVt), InL r → P r iv' av' → Wa Y X nL Q ce sl pc' ls (.long (i64 r) :: st) rv iv' av' n) : Wa Y X nL Q ce sl pc ls stk rv iv av n := by
  subst hq; exact r_callV C hM hc hl0 hi hs hd hmc hms hn hk hkc h100 hcl hq1 hst hsum hdg (fun r rv' iv' av' n' hr hp => by obtain ⟨rfl, rfl, hp⟩ := hp; rw [hκ] at hr ⊢; exact kk r iv' av' hr hp)
theorem c_VNl (C : CX Y X own nm cc nL ret d mc ms) {mt : MT} {np idx d' : Nat} {host : String} {k ci : Nat} {q : vw_C} {as stk : List Value} {P : PN} (hM : OkN Y d' mt (.ref (gl_b Y + k) :: as) rv iv av n P) (hκ : mt.2.2.2.2 = 2) (hc : CLk mt np) (hl0 : (own, idx, mt.1, host) ∈ g_NM) (hi : Cond.instanceMethod mt.1 ∈ g_WS) (hs : Cond.selects mt.1.cls mt.1 mt.1 ∈ g_WS) (hd : d' + 1 ≤ d) (hmc : ce ≤ mc) (hms : sl ≤ ms) (hn : as.length = np) (hk : k < n) (hkc : kc k = ci) (h100 : ci < 100) (hcl : vwCl[ci]? = some q) (hq1 : q.1 = mt.1.cls) (hst : stk = as.reverse ++ .ref (gl_b Y + k) :: st) (hsum : (st.map fun v => v.category).sum ≤ 8) (hdg : decode cc pc = .ok (.invokevirtual idx, 3)) (hq : pc + 3 = pc') (kk : ∀ (r : Int) (iv' av' : IVt), InL r → P r iv' av' → Wa Y X nL Q ce sl pc' ls (.long (i64 r) :: st) rv iv' av' n) : Wa Y X nL Q ce sl pc ls stk rv iv av n := by
  subst hq; exact r_callVN C hM hc hl0 hi hs hd hmc hms hn hk hkc h100 hcl hq1 hst hsum hdg (fun r rv' iv' av' n' hr hp => by obtain ⟨rfl, rfl, hp⟩ := hp; rw [hκ] at hr ⊢; exact kk r iv' av' hr hp)
theorem c_Sl (C : CX Y X own nm cc nL ret d mc ms) {mt : MT} {np idx d' : Nat} {as stk : List Value} {P : PN} (hM : OkN Y d' mt as rv iv av n P) (hκ : mt.2.2.2.2 = 2) (hc : CLk mt np) (hl0 : Cond.methodLink own idx mt.1 ∈ g_WS) (hi : Cond.static mt.1 ∈ g_WS) (hd : d' + 1 ≤ d) (hmc : ce ≤ mc) (hms : sl ≤ ms) (hn : as.length = np) (hst : stk = as.reverse ++ st) (hsum : (st.map fun v => v.category).sum ≤ 8) (hdg : decode cc pc = .ok (.invokestatic idx, 3)) (hq : pc + 3 = pc') (kk : ∀ (r : Int) (iv' av' : IVt), InL r → P r iv' av' → Wa Y X nL Q ce sl pc' ls (.long (i64 r) :: st) rv iv' av' n) : Wa Y X nL Q ce sl pc ls stk rv iv av n := by
  subst hq; exact r_callS C hM hc hl0 hi hd hmc hms hn hst hsum hdg (fun r rv' iv' av' n' hr hp => by obtain ⟨rfl, rfl, hp⟩ := hp; rw [hκ] at hr ⊢; exact kk r iv' av' hr hp)
theorem c_SNl (C : CX Y X own nm cc nL ret d mc ms) {mt : MT} {np idx d' : Nat} {host : String} {as stk : List Value} {P : PN} (hM : OkN Y d' mt as rv iv av n P) (hκ : mt.2.2.2.2 = 2) (hc : CLk mt np) (hl0 : (own, idx, mt.1, host) ∈ g_NM) (hi : Cond.static mt.1 ∈ g_WS) (hd : d' + 1 ≤ d) (hmc : ce ≤ mc) (hms : sl ≤ ms) (hn : as.length = np) (hst : stk = as.reverse ++ st) (hsum : (st.map fun v => v.category).sum ≤ 8) (hdg : decode cc pc = .ok (.invokestatic idx, 3)) (hq : pc + 3 = pc') (kk : ∀ (r : Int) (iv' av' : IVt), InL r → P r iv' av' → Wa Y X nL Q ce sl pc' ls (.long (i64 r) :: st) rv iv' av' n) : Wa Y X nL Q ce sl pc ls stk rv iv av n := by
  subst hq; exact r_callSN C hM hc hl0 hi hd hmc hms hn hst hsum hdg (fun r rv' iv' av' n' hr hp => by obtain ⟨rfl, rfl, hp⟩ := hp; rw [hκ] at hr ⊢; exact kk r iv' av' hr hp)
theorem c_Va (C : CX Y X own nm cc nL ret d mc ms) {mt : MT} {np idx d' : Nat} {k ci : Nat} {q : vw_C} {as stk : List Value} {P : PN} (hM : OkN Y d' mt (.ref (gl_b Y + k) :: as) rv iv av n P) (hκ : mt.2.2.2.2 = 3) (hc : CLk mt np) (hl0 : Cond.methodLink own idx mt.1 ∈ g_WS) (hi : Cond.instanceMethod mt.1 ∈ g_WS) (hs : Cond.selects mt.1.cls mt.1 mt.1 ∈ g_WS) (hd : d' + 1 ≤ d) (hmc : ce ≤ mc) (hms : sl ≤ ms) (hn : as.length = np) (hk : k < n) (hkc : kc k = ci) (h100 : ci < 100) (hcl : vwCl[ci]? = some q) (hq1 : q.1 = mt.1.cls) (hst : stk = as.reverse ++ .ref (gl_b Y + k) :: st) (hsum : (st.map fun v => v.category).sum ≤ 8) (hdg : decode cc pc = .ok (.invokevirtual idx, 3)) (hq : pc + 3 = pc') (kk : ∀ (r : Int) (iv' av' : IVt), P r iv' av' → Wa Y X nL Q ce sl pc' ls (.ref (gl_b Y + r.toNat) :: st) rv iv' av' n) : Wa Y X nL Q ce sl pc ls stk rv iv av n := by
  subst hq; exact r_callV C hM hc hl0 hi hs hd hmc hms hn hk hkc h100 hcl hq1 hst hsum hdg (fun r rv' iv' av' n' hr hp => by obtain ⟨rfl, rfl, hp⟩ := hp; rw [hκ] at hr ⊢; exact kk r iv' av' hp)
theorem c_VNa (C : CX Y X own nm cc nL ret d mc ms) {mt : MT} {np idx d' : Nat} {host : String} {k ci : Nat} {q : vw_C} {as stk : List Value} {P : PN} (hM : OkN Y d' mt (.ref (gl_b Y + k) :: as) rv iv av n P) (hκ : mt.2.2.2.2 = 3) (hc : CLk mt np) (hl0 : (own, idx, mt.1, host) ∈ g_NM) (hi : Cond.instanceMethod mt.1 ∈ g_WS) (hs : Cond.selects mt.1.cls mt.1 mt.1 ∈ g_WS) (hd : d' + 1 ≤ d) (hmc : ce ≤ mc) (hms : sl ≤ ms) (hn : as.length = np) (hk : k < n) (hkc : kc k = ci) (h100 : ci < 100) (hcl : vwCl[ci]? = some q) (hq1 : q.1 = mt.1.cls) (hst : stk = as.reverse ++ .ref (gl_b Y + k) :: st) (hsum : (st.map fun v => v.category).sum ≤ 8) (hdg : decode cc pc = .ok (.invokevirtual idx, 3)) (hq : pc + 3 = pc') (kk : ∀ (r : Int) (iv' av' : IVt), P r iv' av' → Wa Y X nL Q ce sl pc' ls (.ref (gl_b Y + r.toNat) :: st) rv iv' av' n) : Wa Y X nL Q ce sl pc ls stk rv iv av n := by
  subst hq; exact r_callVN C hM hc hl0 hi hs hd hmc hms hn hk hkc h100 hcl hq1 hst hsum hdg (fun r rv' iv' av' n' hr hp => by obtain ⟨rfl, rfl, hp⟩ := hp; rw [hκ] at hr ⊢; exact kk r iv' av' hp)
theorem c_Sa (C : CX Y X own nm cc nL ret d mc ms) {mt : MT} {np idx d' : Nat} {as stk : List Value} {P : PN} (hM : OkN Y d' mt as rv iv av n P) (hκ : mt.2.2.2.2 = 3) (hc : CLk mt np) (hl0 : Cond.methodLink own idx mt.1 ∈ g_WS) (hi : Cond.static mt.1 ∈ g_WS) (hd : d' + 1 ≤ d) (hmc : ce ≤ mc) (hms : sl ≤ ms) (hn : as.length = np) (hst : stk = as.reverse ++ st) (hsum : (st.map fun v => v.category).sum ≤ 8) (hdg : decode cc pc = .ok (.invokestatic idx, 3)) (hq : pc + 3 = pc') (kk : ∀ (r : Int) (iv' av' : IVt), P r iv' av' → Wa Y X nL Q ce sl pc' ls (.ref (gl_b Y + r.toNat) :: st) rv iv' av' n) : Wa Y X nL Q ce sl pc ls stk rv iv av n := by
  subst hq; exact r_callS C hM hc hl0 hi hd hmc hms hn hst hsum hdg (fun r rv' iv' av' n' hr hp => by obtain ⟨rfl, rfl, hp⟩ := hp; rw [hκ] at hr ⊢; exact kk r iv' av' hp)
theorem c_SNa (C : CX Y X own nm cc nL ret d mc ms) {mt : MT} {np idx d' : Nat} {host : String} {as stk : List Value} {P : PN} (hM : OkN Y d' mt as rv iv av n P) (hκ : mt.2.2.2.2 = 3) (hc : CLk mt np) (hl0 : (own, idx, mt.1, host) ∈ g_NM) (hi : Cond.static mt.1 ∈ g_WS) (hd : d' + 1 ≤ d) (hmc : ce ≤ mc) (hms : sl ≤ ms) (hn : as.length = np) (hst : stk = as.reverse ++ st) (hsum : (st.map fun v => v.category).sum ≤ 8) (hdg : decode cc pc = .ok (.invokestatic idx, 3)) (hq : pc + 3 = pc') (kk : ∀ (r : Int) (iv' av' : IVt), P r iv' av' → Wa Y X nL Q ce sl pc' ls (.ref (gl_b Y + r.toNat) :: st) rv iv' av' n) : Wa Y X nL Q ce sl pc ls stk rv iv av n := by
  subst hq; exact r_callSN C hM hc hl0 hi hd hmc hms hn hst hsum hdg (fun r rv' iv' av' n' hr hp => by obtain ⟨rfl, rfl, hp⟩ := hp; rw [hκ] at hr ⊢; exact kk r iv' av' hp)
theorem r_iincw (C : CX Y X own nm cc nL ret d mc ms) (i : Nat) {j : Nat} {x v : Int} (hl0 : ls[i]? = some (j, .int (i32 x))) (hj : j < nL) (hs : g_st ls j (.int (i32 (x + v))) = ls') (hdg : decode cc pc = .ok (.iinc j v, 6)) (hq : pc + 6 = pc') (k : Wa Y X nL Q ce sl pc' ls' st rv iv av n) : Wa Y X nL Q ce sl pc ls st rv iv av n := by
  subst hq; subst hs; exact fun H lo la hz hP hS hl hR => lv_iincW C.1 C.2.1 hdg hl hl0 (i32_add x v) hj rfl fun la' hl' => k H lo la' hz hP hS (g_stHas1 rfl hl') hR
end Rows5
