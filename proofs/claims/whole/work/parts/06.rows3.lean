/-! Rows: fields, arrays, calls, returns. -/
def FLk (own : String) (idx ci j : Nat) (fin : Bool) (ty : FieldType) : Prop := ∃ (Cn : String) (T : u_T) (N : Nat) (tys : Nat → FieldType),
  vwCl[ci]? = some (Cn, T, N) ∧ j < N ∧ g_nf ci = N ∧ (∀ w ∈ u_ws Cn T N, w ∈ g_WS) ∧ Cond.fieldLink own idx (T j).1 (T j).2.1 (T j).2.2.1 ∈ g_WS ∧ (∀ k, k < N → parseFieldDescriptor (T k).2.2.1 = some (tys k)) ∧
  (∀ a, a < N → ∀ b, b < N → a ≠ b → (T a).2.1 ≠ (T b).2.1) ∧ (T j).2.2.2 = fin ∧ parseFieldDescriptor (T j).2.2.1 = some ty ∧ (fin = true → (T j).1 = own ∨ True) 
theorem g_rangeAt {α : Type} (f : Nat → α) {N j : Nat} (h : j < N) : ((List.range N).map f)[j]? = some (f j) := by simp [List.getElem?_map, List.getElem?_range h]
theorem g_fsSet {f f' : Nat → Value} {N j : Nat} {x : Value} (h1 : f' j = x) (h2 : ∀ i, i ≠ j → f' i = f i) : ((List.range N).map f).set j x = (List.range N).map f' := by
  apply List.ext_getElem?
  intro i
  by_cases hij : i = j
  · subst hij
    by_cases hi : i < N
    · rw [List.getElem?_set_self (by simpa using hi), g_rangeAt _ hi, h1]
    · rw [List.getElem?_eq_none (by simpa using hi), List.getElem?_eq_none (by simpa using hi)]
  · rw [List.getElem?_set_ne (Ne.symm hij)]
    by_cases hi : i < N
    · rw [g_rangeAt _ hi, g_rangeAt _ hi, h2 i hij]
    · rw [List.getElem?_eq_none (by simpa using hi), List.getElem?_eq_none (by simpa using hi)]
theorem Rng.iv {iv av : IVt} (h : Rng iv av) (k j : Nat) : InR (iv k j) := h.1 k j
theorem Rng.putI {iv av : IVt} (h : Rng iv av) {k j : Nat} {v : Int} (hv : InR v) : Rng (up2 iv k j v) av := by
  refine ⟨fun k' j' => ?_, h.2⟩
  unfold up2
  split
  · dsimp only
    split
    · exact hv
    · exact h.1 _ _
  · exact h.1 _ _
theorem Rng.putA {iv av : IVt} (h : Rng iv av) {k j : Nat} {v : Int} (hv : tyR (kc k) v) : Rng iv (up2 av k j v) := by
  refine ⟨h.1, fun k' j' => ?_⟩
  unfold up2
  split
  · rename_i e
    subst e
    dsimp only
    split
    · exact hv
    · exact h.2 _ _
  · exact h.2 _ _
theorem tyR_in {c : Nat} {x : Int} (h : tyR c x) : InR x := by
  unfold tyR at h
  split at h
  · omega
  · split at h
    · omega
    · exact h
theorem Rng.av {iv av : IVt} (h : Rng iv av) (k j : Nat) : InR (av k j) := tyR_in (h.2 k j)
theorem i32_nar8 (x : Int) : vp_nar .byte (i32 x) = i32 (bm8 x) := i32_i2b x
theorem i32_narZ {x : Int} (h : 0 ≤ x ∧ x ≤ 1) : vp_nar .boolean (i32 x) = i32 x := by
  rcases (show x = 0 ∨ x = 1 by omega) with rfl | rfl <;> rfl
theorem g_updE {f : Nat → Int} {i : Nat} {x : Int} : upd (fun j => i32 (f j)) i (i32 x) = fun j => i32 (if j = i then x else f j) := by
  funext j
  unfold upd
  split <;> rfl
theorem g_cellUpA {Y : Gl} {rv : RVt} {iv av : IVt} {k i : Nat} {x : Int} (h : 100 ≤ kc k) : g_cell Y rv iv (up2 av k i x) k = .inl (g_ac Y (kc k), kl k, .inl (upd (fun j => i32 (av k j)) i (i32 x))) := by
  have e : (fun j => i32 (up2 av k i x k j)) = fun j => i32 (if j = i then x else av k j) := by
    funext j
    simp [up2]
  rw [g_cellA h, g_updE, e]
theorem g_cellNeA {Y : Gl} {rv : RVt} {iv av av' : IVt} {j : Nat} (h : av' j = av j) : g_cell Y rv iv av' j = g_cell Y rv iv av j := by
  unfold g_cell
  rw [h]
theorem g_cellNeI {Y : Gl} {rv rv' : RVt} {iv iv' av : IVt} {j : Nat} (h : iv' j = iv j) (h2 : rv' j = rv j) : g_cell Y rv' iv' av j = g_cell Y rv iv av j := by
  unfold g_cell g_fv
  rw [h, h2]
section Rows3
variable {Y : Gl} {X : Cx} {own nm : String} {cc : ByteArray} {nL d mc ms : Nat} {ret : Option FieldType} {Q : State → Prop} {ce sl pc pc' : Nat} {ls ls' : List (Nat × Value)} {st : List Value} {rv : RVt} {iv av : IVt} {n : Nat}
theorem g_wsO {k ci : Nat} (hk : k < n) (hc : kc k = ci) (h1 : ci < 100) : (g_ws Y rv iv av n)[k]? = some (gl_b Y + k, .inr (ci, (List.range (g_nf ci)).map fun j => g_fv Y rv iv k j)) := by
  rw [g_wsAt hk, g_cellO (by omega), hc]
theorem g_wsA {k c : Nat} (hk : k < n) (hc : kc k = c) (h1 : 100 ≤ c) : (g_ws Y rv iv av n)[k]? = some (gl_b Y + k, .inl (g_ac Y c, kl k, .inl (fun i => i32 (av k i)))) := by
  rw [g_wsAt hk, g_cellA (by omega), hc]
theorem r_get0 (C : CX Y X own nm cc nL ret d mc ms) {idx ci j k : Nat} {fin : Bool} {ty : FieldType} {v : Value} (F : FLk own idx ci j fin ty) (hk : k < n) (hc : kc k = ci) (h100 : ci < 100) (hv : g_fv Y rv iv k j = v) (hdg : decode cc pc = .ok (.getfield idx, 3)) (hq : pc + 3 = pc')
    (kk : Wa Y X nL Q ce sl pc' ls (v :: st) rv iv av n) : Wa Y X nL Q ce sl pc ls (.ref (gl_b Y + k) :: st) rv iv av n := by
  subst hq
  intro H lo la hz hP hS hl hR
  obtain ⟨Cn, T, N, tys, h1, h2, h3, h4, h5, -⟩ := F
  refine va_get (D := gl_D Y) (ci := ci) (v := v) (C := Cn) (T := T) (N := N) C.1 C.2.1 C.2.2.2.2.1 h4 C.2.2.2.1 C.2.2.2.2.2.1 hP k (g_wsO hk hc h100) h1 j h2 (C.2.2.2.2.1 _ h5) (fun _ h => h) ?_ hdg (kk H lo la hz hP hS hl hR)
  rw [g_rangeAt _ (by rw [h3]; exact h2), hv]
theorem r_geti (C : CX Y X own nm cc nL ret d mc ms) {idx ci j k : Nat} {fin : Bool} {ty : FieldType} (F : FLk own idx ci j fin ty) (hk : k < n) (hc : kc k = ci) (h100 : ci < 100) (hf : g_fr ci j = 0) (hdg : decode cc pc = .ok (.getfield idx, 3)) (hq : pc + 3 = pc')
    (kk : InR (iv k j) → Wa Y X nL Q ce sl pc' ls (.int (i32 (iv k j)) :: st) rv iv av n) : Wa Y X nL Q ce sl pc ls (.ref (gl_b Y + k) :: st) rv iv av n :=
  Wa.rng fun hR => r_get0 C F hk hc h100 (by unfold g_fv; rw [hc, if_pos hf]) hdg hq (kk (hR.1 k j))
theorem r_getr (C : CX Y X own nm cc nL ret d mc ms) {idx ci j k r : Nat} {fin : Bool} {ty : FieldType} (F : FLk own idx ci j fin ty) (hk : k < n) (hc : kc k = ci) (h100 : ci < 100) (hf : g_fr ci j = 1) (hr : rv k j = r + 1) (hdg : decode cc pc = .ok (.getfield idx, 3)) (hq : pc + 3 = pc')
    (kk : Wa Y X nL Q ce sl pc' ls (.ref (gl_b Y + r) :: st) rv iv av n) : Wa Y X nL Q ce sl pc ls (.ref (gl_b Y + k) :: st) rv iv av n :=
  r_get0 C F hk hc h100 (by unfold g_fv; rw [hc, if_neg (by omega), if_pos hf, hr]; rfl) hdg hq kk
theorem r_getq (C : CX Y X own nm cc nL ret d mc ms) {idx ci j k r : Nat} {fin : Bool} {ty : FieldType} (F : FLk own idx ci j fin ty) (hk : k < n) (hc : kc k = ci) (h100 : ci < 100) (hf : g_fr ci j = 2) (hr : iv k j = ((r + 1 : Nat) : Int)) (hdg : decode cc pc = .ok (.getfield idx, 3)) (hq : pc + 3 = pc')
    (kk : Wa Y X nL Q ce sl pc' ls (.ref (gl_b Y + r) :: st) rv iv av n) : Wa Y X nL Q ce sl pc ls (.ref (gl_b Y + k) :: st) rv iv av n :=
  r_get0 C F hk hc h100 (by unfold g_fv; rw [hc, if_neg (by omega), if_neg (by omega), hr]; rfl) hdg hq kk
/-- the one field of a nest mate: a tree's row -/
def FLn (own : String) (idx ci j : Nat) : Prop := ∃ (Cn : String) (T : u_T) (N : Nat), vwCl[ci]? = some (Cn, T, N) ∧ j < N ∧ g_nf ci = N ∧ (∀ w ∈ u_ws Cn T N, w ∈ g_WS) ∧ g_NF = (own, idx, (T j).1, (T j).2.1, (T j).2.2.1, g_NF.2.2.2.2.2)
theorem r_getN (C : CX Y X own nm cc nL ret d mc ms) {idx ci j k r : Nat} (F : FLn own idx ci j) (hk : k < n) (hc : kc k = ci) (h100 : ci < 100) (hf : g_fr ci j = 1) (hr : rv k j = r + 1) (hdg : decode cc pc = .ok (.getfield idx, 3)) (hq : pc + 3 = pc')
    (kk : Wa Y X nL Q ce sl pc' ls (.ref (gl_b Y + r) :: st) rv iv av n) : Wa Y X nL Q ce sl pc ls (.ref (gl_b Y + k) :: st) rv iv av n := by
  subst hq
  intro H lo la hz hP hS hl hR
  obtain ⟨Cn, T, N, h1, h2, h3, h4, h5⟩ := F
  have hO : va_Nw (.fieldLinkNest own idx (T j).1 (T j).2.1 (T j).2.2.1 g_NF.2.2.2.2.2) (cx_s X) := by
    have h := C.2.2.2.2.2.2.2.1.2.2.2
    rw [h5] at h
    exact h
  refine va_getN (D := gl_D Y) (ci := ci) (v := .ref (gl_b Y + r)) (C := Cn) (T := T) (N := N) C.1 C.2.1 C.2.2.2.2.1 h4 C.2.2.2.1 C.2.2.2.2.2.1 hP k (g_wsO hk hc h100) h1 j h2 (va_Nw.use rfl hO) (fun _ h => h) ?_ hdg (kk H lo la hz hP hS hl hR)
  rw [g_rangeAt _ (by rw [h3]; exact h2)]
  unfold g_fv
  rw [hc, if_neg (by omega), if_pos hf, hr]
  rfl
theorem va_S.sz {A : Nat → Prop} {H0 H H1 : Heap} {lo lo1 : List Loc} (_ : va_S A H0 H lo) (h1 : va_S A H0 H1 lo1) : H0.size ≤ H1.size := h1.1
/-- putfield, with the heap's size -/
theorem g_put (C : CX Y X own nm cc nL ret d mc ms) {idx ci j k : Nat} {fin : Bool} {ty : FieldType} {v : Value} {rv' : RVt} {iv' : IVt} (F : FLk own idx ci j fin ty) (hfin : fin = false) (hk : k < n) (hc : kc k = ci) (h100 : ci < 100) (hn : narrow ty v = v) (hfit : fits ty v = true)
    (hv : g_fv Y rv' iv' k j = v) (ho : ∀ i, i ≠ j → g_fv Y rv' iv' k i = g_fv Y rv iv k i) (hor : ∀ i, i ≠ k → rv' i = rv i) (hoi : ∀ i, i ≠ k → iv' i = iv i) (hR' : Rng iv av → Rng iv' av) (hdg : decode cc pc = .ok (.putfield idx, 3)) (hq : pc + 3 = pc')
    (kk : Wa Y X nL Q ce sl pc' ls st rv' iv' av n) : Wa Y X nL Q ce sl pc ls (v :: .ref (gl_b Y + k) :: st) rv iv av n := by
  subst hq
  intro H lo la hz hP hS hl hR
  obtain ⟨Cn, T, N, tys, h1, h2, h3, h4, h5, h6, h7, h8, h9, -⟩ := F
  have hap := va_apart (own := own) C.2.2.2.2.1 h4 tys h6 h7 C.2.2.2.2.2.1 h1
  obtain ⟨r, g1, cell, q1, q2, q3, q4⟩ := hP k _ (g_wsO hk hc h100)
  have hr : r = (Cn, T, N) := Option.some.inj (g1.symm.trans h1)
  subst hr
  obtain ⟨hSl, hfc, kC, hkC, hkind⟩ := C.2.2.2.2.2.1.1 ci _ h1
  obtain ⟨cf, kf, fi, f, hi, hsl⟩ := hSl j h2
  have hlay := C.2.2.2.2.1 _ (h4 _ (u_in_lay h2))
  unfold u_lay at hlay
  rw [if_neg (by rw [h8, hfin]; decide)] at hlay
  have hst := (u_facts hfc hkC (u_lays C.2.2.2.2.1 h4 h2) hi).1
  have hst6 := u_store hfc hkC hkind hlay hi h9 hn hfit
  refine W.putK C.1 C.2.1 (f := f) ⟨C.2.2.2.1, C.2.2.2.2.1 _ h5, ⟨_, _, _, hi⟩, hst⟩ (by rw [q2]; exact hst6) q1 q3 (by rw [hsl]; exact k2_hasslot (q4 j h2)) rfl rfl hdg fun H' e1 e2 e3 => ?_
  rw [hsl] at e1 ⊢
  have hP' := va_P.set hP g_wsD (g_wsO hk hc h100) (e := .inr (ci, ((List.range (g_nf ci)).map fun j => g_fv Y rv iv k j).set j v)) (H1 := H') ⟨_, h1, t_OB.to (V := updV (vp_V ((List.range (g_nf ci)).map fun j => g_fv Y rv iv k j)) j v) ⟨_, e1, q2, q3, t_set q4 hap h2 v⟩ (fun i _ => vp_updV_set (by simpa [h3] using h2) v i)⟩ e3
  rw [g_wsSet (rv' := rv') (iv' := iv') (av' := av) hk (by rw [g_cellO (by omega), hc, ← g_fsSet (f' := fun j => g_fv Y rv' iv' k j) (f := fun j => g_fv Y rv iv k j) hv ho]) (fun i hi2 => g_cellNeI (hoi i hi2) (hor i hi2))] at hP'
  exact kk H' _ la (by rw [e2]; exact hz) hP' (hS.put e2 e3 (Nat.le_add_right _ _)) hl (hR' hR)
theorem g_putF (C : CX Y X own nm cc nL ret d mc ms) {idx ci j k : Nat} {ty : FieldType} {v : Value} {rv' : RVt} {iv' : IVt} (F : FLk own idx ci j true ty) (hnm : nm = "<init>") (hown : ∀ (Cn : String) (T : u_T) (N : Nat), vwCl[ci]? = some (Cn, T, N) → (T j).1 = own) (hk : k < n) (hc : kc k = ci) (h100 : ci < 100) (hn : narrow ty v = v) (hfit : fits ty v = true)
    (hv : g_fv Y rv' iv' k j = v) (ho : ∀ i, i ≠ j → g_fv Y rv' iv' k i = g_fv Y rv iv k i) (hor : ∀ i, i ≠ k → rv' i = rv i) (hoi : ∀ i, i ≠ k → iv' i = iv i) (hR' : Rng iv av → Rng iv' av) (hdg : decode cc pc = .ok (.putfield idx, 3)) (hq : pc + 3 = pc')
    (kk : Wa Y X nL Q ce sl pc' ls st rv' iv' av n) : Wa Y X nL Q ce sl pc ls (v :: .ref (gl_b Y + k) :: st) rv iv av n := by
  subst hq
  intro H lo la hz hP hS hl hR
  obtain ⟨Cn, T, N, tys, h1, h2, h3, h4, h5, h6, h7, h8, h9, -⟩ := F
  have hap := va_apart (own := own) C.2.2.2.2.1 h4 tys h6 h7 C.2.2.2.2.2.1 h1
  obtain ⟨r, g1, cell, q1, q2, q3, q4⟩ := hP k _ (g_wsO hk hc h100)
  have hr : r = (Cn, T, N) := Option.some.inj (g1.symm.trans h1)
  subst hr
  obtain ⟨hSl, hfc, kC, hkC, hkind⟩ := C.2.2.2.2.2.1.1 ci _ h1
  obtain ⟨cf, kf, fi, f, hi, hsl⟩ := hSl j h2
  have hlay := C.2.2.2.2.1 _ (h4 _ (u_in_lay h2))
  unfold u_lay at hlay
  rw [if_pos h8] at hlay
  have hst := (u_facts hfc hkC (u_lays C.2.2.2.2.1 h4 h2) hi).1
  have hcf : (cx_m X).cls = cf := by
    obtain ⟨_, _, c', _, _, _, -, -, hf', -, -, -, hown2, -⟩ := Cond.laysFinal_spec hlay
    have e1 : c' = cf := by have := hi.symm.trans hf'; simp at this; exact this.1.symm
    rw [hown _ _ _ h1] at hown2
    rw [← e1]; exact Option.some.inj (C.2.2.2.1.symm.trans hown2)
  have hst6 := u_fits hfc hkC hkind (Or.inr hlay) hi h9 hn hfit
  refine W.putFinK C.1 C.2.1 C.2.2.2.1 (C.2.2.2.2.1 _ h5) hi hst hcf (by rw [C.2.2.2.2.2.2.2.2.2.2.1, hnm]) (by rw [q2]; exact hst6) q1 q3 (by rw [hsl]; exact k2_hasslot (q4 j h2)) rfl rfl hdg fun H' e1 e2 e3 => ?_
  rw [hsl] at e1 ⊢
  have hP' := va_P.set hP g_wsD (g_wsO hk hc h100) (e := .inr (ci, ((List.range (g_nf ci)).map fun j => g_fv Y rv iv k j).set j v)) (H1 := H') ⟨_, h1, t_OB.to (V := updV (vp_V ((List.range (g_nf ci)).map fun j => g_fv Y rv iv k j)) j v) ⟨_, e1, q2, q3, t_set q4 hap h2 v⟩ (fun i _ => vp_updV_set (by simpa [h3] using h2) v i)⟩ e3
  rw [g_wsSet (rv' := rv') (iv' := iv') (av' := av) hk (by rw [g_cellO (by omega), hc, ← g_fsSet (f' := fun j => g_fv Y rv' iv' k j) (f := fun j => g_fv Y rv iv k j) hv ho]) (fun i hi2 => g_cellNeI (hoi i hi2) (hor i hi2))] at hP'
  exact kk H' _ la (by rw [e2]; exact hz) hP' (hS.put e2 e3 (Nat.le_add_right _ _)) hl (hR' hR)
theorem g_fvI {k j i : Nat} {v : Int} (h : i ≠ j) : g_fv Y rv (up2 iv k j v) k i = g_fv Y rv iv k i := by
  unfold g_fv
  rw [up2_nj h]
theorem g_fvR {k j i : Nat} {v : Nat} (h : i ≠ j) : g_fv Y (upR rv k j v) iv k i = g_fv Y rv iv k i := by
  unfold g_fv
  rw [upR_nj h]
theorem r_puti (C : CX Y X own nm cc nL ret d mc ms) {idx ci j k : Nat} {v : Int} (F : FLk own idx ci j false .int) (hk : k < n) (hc : kc k = ci) (h100 : ci < 100) (hf : g_fr ci j = 0) (hv : InR v) (hdg : decode cc pc = .ok (.putfield idx, 3)) (hq : pc + 3 = pc')
    (kk : Wa Y X nL Q ce sl pc' ls st rv (up2 iv k j v) av n) : Wa Y X nL Q ce sl pc ls (.int (i32 v) :: .ref (gl_b Y + k) :: st) rv iv av n :=
  g_put C F rfl hk hc h100 rfl rfl (by unfold g_fv; rw [hc, if_pos hf, up2_eq]) (fun i hi => g_fvI hi) (fun _ _ => rfl) (fun i hi => up2_ne hi) (fun hR => hR.putI hv) hdg hq kk
theorem r_putz (C : CX Y X own nm cc nL ret d mc ms) {idx ci j k : Nat} {v : Int} (F : FLk own idx ci j false .boolean) (hk : k < n) (hc : kc k = ci) (h100 : ci < 100) (hf : g_fr ci j = 0) (hv : 0 ≤ v ∧ v ≤ 1) (hdg : decode cc pc = .ok (.putfield idx, 3)) (hq : pc + 3 = pc')
    (kk : Wa Y X nL Q ce sl pc' ls st rv (up2 iv k j v) av n) : Wa Y X nL Q ce sl pc ls (.int (i32 v) :: .ref (gl_b Y + k) :: st) rv iv av n :=
  g_put C F rfl hk hc h100 (by rcases (show v = 0 ∨ v = 1 by omega) with rfl | rfl <;> rfl) (by rcases (show v = 0 ∨ v = 1 by omega) with rfl | rfl <;> rfl) (by unfold g_fv; rw [hc, if_pos hf, up2_eq]) (fun i hi => g_fvI hi) (fun _ _ => rfl) (fun i hi => up2_ne hi) (fun hR => hR.putI (by omega)) hdg hq kk
theorem r_putq (C : CX Y X own nm cc nL ret d mc ms) {idx ci j k r : Nat} {ty : FieldType} (F : FLk own idx ci j false ty) (hk : k < n) (hc : kc k = ci) (h100 : ci < 100) (hf : g_fr ci j = 2) (hr : r < 1000) (hn : ∀ a : Nat, narrow ty (.ref a) = .ref a ∧ fits ty (.ref a) = true) (hdg : decode cc pc = .ok (.putfield idx, 3)) (hq : pc + 3 = pc')
    (kk : Wa Y X nL Q ce sl pc' ls st rv (up2 iv k j ((r + 1 : Nat) : Int)) av n) : Wa Y X nL Q ce sl pc ls (.ref (gl_b Y + r) :: .ref (gl_b Y + k) :: st) rv iv av n :=
  g_put C F rfl hk hc h100 (hn _).1 (hn _).2 (by unfold g_fv; rw [hc, if_neg (by omega), if_neg (by omega), up2_eq]; rfl) (fun i hi => g_fvI hi) (fun _ _ => rfl) (fun i hi => up2_ne hi) (fun hR => hR.putI (by omega)) hdg hq kk
theorem r_putr (C : CX Y X own nm cc nL ret d mc ms) {idx ci j k r : Nat} {ty : FieldType} (F : FLk own idx ci j true ty) (hnm : nm = "<init>") (hown : ∀ (Cn : String) (T : u_T) (N : Nat), vwCl[ci]? = some (Cn, T, N) → (T j).1 = own) (hk : k < n) (hc : kc k = ci) (h100 : ci < 100) (hf : g_fr ci j = 1) (hn : ∀ a : Nat, narrow ty (.ref a) = .ref a ∧ fits ty (.ref a) = true) (hdg : decode cc pc = .ok (.putfield idx, 3)) (hq : pc + 3 = pc')
    (kk : Wa Y X nL Q ce sl pc' ls st (upR rv k j (r + 1)) iv av n) : Wa Y X nL Q ce sl pc ls (.ref (gl_b Y + r) :: .ref (gl_b Y + k) :: st) rv iv av n :=
  g_putF C F hnm hown hk hc h100 (hn _).1 (hn _).2 (by unfold g_fv; rw [hc, if_neg (by omega), if_pos hf, upR_eq]; rfl) (fun i hi => g_fvR hi) (fun i hi => upR_ne hi) (fun _ _ => rfl) (fun hR => hR) hdg hq kk
/-! arrays -/
theorem r_alen (C : CX Y X own nm cc nL ret d mc ms) {k c : Nat} {v : Int} (hk : k < n) (hc : kc k = c) (h100 : 100 ≤ c) (hv : (kl k : Int) = v) (hdg : decode cc pc = .ok (.arraylength, 1)) (hq : pc + 1 = pc')
    (kk : Wa Y X nL Q ce sl pc' ls (.int (i32 v) :: st) rv iv av n) : Wa Y X nL Q ce sl pc ls (.ref (gl_b Y + k) :: st) rv iv av n := by
  subst hq; subst hv
  intro H lo la hz hP hS hl hR
  have ht : ∃ (t0 : Nat) (ty : FieldType), (g_tys Y)[t0]? = some (g_ac Y c, ty) := by
    unfold g_ac
    by_cases h1 : c = 101
    · exact ⟨1, .byte, by simp [h1]⟩
    · by_cases h2 : c = 102
      · exact ⟨2, .boolean, by simp [h2]⟩
      · exact ⟨0, .int, by simp [h1, h2]⟩
  obtain ⟨t0, ty, ht⟩ := ht
  exact va_alen C.1 C.2.1 C.2.2.2.2.2.1 hP k t0 (g_wsA hk hc h100) ht (v := i32 (kl k : Int)) (by show Int32.ofNat (kl k) = Int32.ofInt _; rw [Int32.ofInt_eq_ofNat]) hdg (kk H lo la hz hP hS hl hR)
theorem g_idx {k : Nat} {i : Int} (hi : 0 ≤ i ∧ i < kl k) : InR i := by
  have := kl_le k
  omega
theorem g_vin {k : Nat} {i : Int} (hi : 0 ≤ i ∧ i < kl k) : vp_in (i32 i) (kl k) := by
  have hR := g_idx hi
  unfold vp_in
  rw [i32_idx hR, i32_0, i32_lt hR inR0]
  omega
theorem r_iald (C : CX Y X own nm cc nL ret d mc ms) {k : Nat} {i : Int} (hk : k < n) (hc : kc k = 100) (hi : 0 ≤ i ∧ i < kl k) (hdg : decode cc pc = .ok (.iaload, 1)) (hq : pc + 1 = pc')
    (kk : InR (av k i.toNat) → Wa Y X nL Q ce sl pc' ls (.int (i32 (av k i.toNat)) :: st) rv iv av n) : Wa Y X nL Q ce sl pc ls (.int (i32 i) :: .ref (gl_b Y + k) :: st) rv iv av n := by
  subst hq
  intro H lo la hz hP hS hl hR
  refine va_iald C.1 C.2.1 C.2.2.2.2.2.1 hP k 0 (g_wsA hk hc (by omega)) rfl (g_vin hi) hdg ?_
  rw [i32_idx (g_idx hi)]
  exact kk (hR.av k i.toNat) H lo la hz hP hS hl hR
theorem r_bald (C : CX Y X own nm cc nL ret d mc ms) {k : Nat} {i : Int} (hk : k < n) (hc : kc k = 101) (hi : 0 ≤ i ∧ i < kl k) (hdg : decode cc pc = .ok (.baload, 1)) (hq : pc + 1 = pc')
    (kk : (-128 ≤ av k i.toNat ∧ av k i.toNat ≤ 127) → Wa Y X nL Q ce sl pc' ls (.int (i32 (av k i.toNat)) :: st) rv iv av n) : Wa Y X nL Q ce sl pc ls (.int (i32 i) :: .ref (gl_b Y + k) :: st) rv iv av n := by
  subst hq
  intro H lo la hz hP hS hl hR
  refine va_bald C.1 C.2.1 C.2.2.2.2.2.1 hP k 1 (g_wsA hk hc (by omega)) rfl (g_vin hi) hdg ?_
  rw [i32_idx (g_idx hi)]
  refine kk ?_ H lo la hz hP hS hl hR
  have h := hR.2 k i.toNat
  unfold tyR at h
  rwa [hc, if_pos rfl] at h
theorem r_zald (C : CX Y X own nm cc nL ret d mc ms) {k : Nat} {i : Int} (hk : k < n) (hc : kc k = 102) (hi : 0 ≤ i ∧ i < kl k) (hdg : decode cc pc = .ok (.baload, 1)) (hq : pc + 1 = pc')
    (kk : (0 ≤ av k i.toNat ∧ av k i.toNat ≤ 1) → Wa Y X nL Q ce sl pc' ls (.int (i32 (av k i.toNat)) :: st) rv iv av n) : Wa Y X nL Q ce sl pc ls (.int (i32 i) :: .ref (gl_b Y + k) :: st) rv iv av n := by
  subst hq
  intro H lo la hz hP hS hl hR
  refine va_zald C.1 C.2.1 C.2.2.2.2.2.1 hP k 2 (g_wsA hk hc (by omega)) rfl (g_vin hi) hdg ?_
  rw [i32_idx (g_idx hi)]
  refine kk ?_ H lo la hz hP hS hl hR
  have h := hR.2 k i.toNat
  unfold tyR at h
  rwa [hc, if_neg (by decide), if_pos rfl] at h
theorem r_iast (C : CX Y X own nm cc nL ret d mc ms) {k : Nat} {i v : Int} (hk : k < n) (hc : kc k = 100) (hi : 0 ≤ i ∧ i < kl k) (hv : InR v) (hdg : decode cc pc = .ok (.iastore, 1)) (hq : pc + 1 = pc')
    (kk : Wa Y X nL Q ce sl pc' ls st rv iv (up2 av k i.toNat v) n) : Wa Y X nL Q ce sl pc ls (.int (i32 v) :: .int (i32 i) :: .ref (gl_b Y + k) :: st) rv iv av n := by
  subst hq
  intro H lo la hz hP hS hl hR
  refine W.iast C.1 C.2.1 (hP k _ (g_wsA hk hc (by omega))) ((C.2.2.2.2.2.1.2 0 _ rfl).1 (kl k) (fun j => .int (i32 (av k j)))) (fun q => by cases q) (by have := g_vin hi; unfold vp_in at this; show ¬ (_ ∨ (arrV _ _ _).slots.size ≤ _); rw [arrV_size]; exact this) rfl rfl hdg fun H1 e z oq => ?_
  refine kk H1 _ la (by rw [z]; exact hz) ?_ (hS.put z oq (Nat.le_add_right _ _)) hl (hR.putA (by unfold tyR; rw [hc, if_neg (by decide), if_neg (by decide)]; exact hv))
  rw [← g_wsSet (rv := rv) (iv := iv) (av := av) (rv' := rv) (iv' := iv) (av' := up2 av k i.toNat v) hk rfl (fun j hj => g_cellNeA (up2_ne hj))]
  refine va_P.set hP g_wsD (g_wsAt hk) ?_ oq
  rw [g_cellUpA (by omega)]
  show H1[gl_b Y + k]? = some (vp_cell _ _)
  rw [e, i32_idx (g_idx hi)]
  show some ((arrV (g_ac Y 100) (kl k) _).setSlot _ _) = _
  rw [vp_cell_i, arrV_store, hc]
  congr 2
  funext q
  by_cases hq : q = i.toNat
  · subst hq
    simp [updV, upd]
  · simp [updV, upd, hq]
theorem r_bast (C : CX Y X own nm cc nL ret d mc ms) {k : Nat} {i v : Int} (hk : k < n) (hc : kc k = 101) (hi : 0 ≤ i ∧ i < kl k) (hdg : decode cc pc = .ok (.bastore, 1)) (hq : pc + 1 = pc')
    (kk : Wa Y X nL Q ce sl pc' ls st rv iv (up2 av k i.toNat (bm8 v)) n) : Wa Y X nL Q ce sl pc ls (.int (i32 v) :: .int (i32 i) :: .ref (gl_b Y + k) :: st) rv iv av n := by
  subst hq
  intro H lo la hz hP hS hl hR
  refine W.bast C.1 C.2.1 (hP k _ (g_wsA hk hc (by omega))) ((C.2.2.2.2.2.1.2 1 _ rfl).1 (kl k) (fun j => .int (i32 (av k j)))) (fun q => by cases q) (by have := g_vin hi; unfold vp_in at this; show ¬ (_ ∨ (arrV _ _ _).slots.size ≤ _); rw [arrV_size]; exact this) rfl rfl hdg fun H1 e z oq => ?_
  refine kk H1 _ la (by rw [z]; exact hz) ?_ (hS.put z oq (Nat.le_add_right _ _)) hl (hR.putA (by unfold tyR; rw [hc, if_pos rfl]; exact bm8_in v))
  rw [← g_wsSet (rv := rv) (iv := iv) (av := av) (rv' := rv) (iv' := iv) (av' := up2 av k i.toNat (bm8 v)) hk rfl (fun j hj => g_cellNeA (up2_ne hj))]
  refine va_P.set hP g_wsD (g_wsAt hk) ?_ oq
  rw [g_cellUpA (by omega)]
  show H1[gl_b Y + k]? = some (vp_cell _ _)
  rw [e, i32_idx (g_idx hi), ← i32_nar8 v]
  show some ((arrV (g_ac Y 101) (kl k) _).setSlot _ _) = _
  rw [vp_cell_i, arrV_store, hc]
  congr 2
  funext q
  by_cases hq : q = i.toNat
  · subst hq
    simp [updV, upd, vp_nar]
    try rfl
  · simp [updV, upd, hq]
theorem r_zast (C : CX Y X own nm cc nL ret d mc ms) {k : Nat} {i v : Int} (hk : k < n) (hc : kc k = 102) (hi : 0 ≤ i ∧ i < kl k) (hv : 0 ≤ v ∧ v ≤ 1) (hdg : decode cc pc = .ok (.bastore, 1)) (hq : pc + 1 = pc')
    (kk : Wa Y X nL Q ce sl pc' ls st rv iv (up2 av k i.toNat v) n) : Wa Y X nL Q ce sl pc ls (.int (i32 v) :: .int (i32 i) :: .ref (gl_b Y + k) :: st) rv iv av n := by
  subst hq
  intro H lo la hz hP hS hl hR
  refine W.zast C.1 C.2.1 (hP k _ (g_wsA hk hc (by omega))) ((C.2.2.2.2.2.1.2 2 _ rfl).1 (kl k) (fun j => .int (i32 (av k j)))) (fun q => by cases q) (by have := g_vin hi; unfold vp_in at this; show ¬ (_ ∨ (arrV _ _ _).slots.size ≤ _); rw [arrV_size]; exact this) rfl rfl hdg fun H1 e z oq => ?_
  refine kk H1 _ la (by rw [z]; exact hz) ?_ (hS.put z oq (Nat.le_add_right _ _)) hl (hR.putA (by unfold tyR; rw [hc, if_neg (by decide), if_pos rfl]; exact hv))
  rw [← g_wsSet (rv := rv) (iv := iv) (av := av) (rv' := rv) (iv' := iv) (av' := up2 av k i.toNat v) hk rfl (fun j hj => g_cellNeA (up2_ne hj))]
  refine va_P.set hP g_wsD (g_wsAt hk) ?_ oq
  rw [g_cellUpA (by omega)]
  show H1[gl_b Y + k]? = some (vp_cell _ _)
  have hnz : narrow .boolean (.int (i32 v)) = .int (i32 v) := by rcases (show v = 0 ∨ v = 1 by omega) with rfl | rfl <;> rfl
  rw [e, i32_idx (g_idx hi), hnz]
  show some ((arrV (g_ac Y 102) (kl k) _).setSlot _ _) = _
  rw [vp_cell_i, arrV_store, hc]
  congr 2
  funext q
  by_cases hq : q = i.toNat
  · subst hq
    simp [updV, upd, vp_nar]
    try rfl
  · simp [updV, upd, hq]
/-! returns -/
theorem g_mkQ {κ : Nat} {P : PT} {s t : State} {H : Heap} {lo : List Loc} {r : Int} {as : Array Value} (hz : H.size = gl_b Y + n) (hP : va_P (gl_D Y) vwCl (g_ws Y rv iv av n) H) (hS : va_S (g_A Y) s.heap H lo) (hR : Rng iv av) (hr : g_rr κ r) (hp : P r rv iv av n) (ht : t.heap = H) : g_Q Y κ P as s (.returned (g_rv Y κ r)) t :=
  ⟨⟨r, rv, iv, av, n, rfl, hr, hp, hR, by rw [ht]; exact hz, by rw [ht]; exact hP⟩, hS.F ht⟩
theorem r_vret (C : CX Y X own nm cc nL none d mc ms) {P : PT} (hp : P 0 rv iv av n) (hdg : decode cc pc = .ok (.return_, 1)) : Wa Y X nL (g_MQ Y X 0 P ce sl) ce sl pc ls [] rv iv av n := by
  intro H lo la hz hP hS hl hR
  have hlocks := C.2.2.2.2.2.2.2.2.1
  exact W.vret C.1 C.2.1 C.2.2.2.2.2.2.2.2.2.1 (fun t ht hW => g_mkQ (κ := 0) (r := 0) hz hP hS hR trivial hp ht) hS.2.2 hdg
theorem r_iret (C : CX Y X own nm cc nL (some .int) d mc ms) {P : PT} {v : Int} (hv : InR v) (hp : P v rv iv av n) (hdg : decode cc pc = .ok (.ireturn, 1)) : Wa Y X nL (g_MQ Y X 1 P ce sl) ce sl pc ls [.int (i32 v)] rv iv av n := by
  intro H lo la hz hP hS hl hR
  have hlocks := C.2.2.2.2.2.2.2.2.1
  exact W.iret C.1 C.2.1 C.2.2.2.2.2.2.2.2.2.1 (fun t ht hW => g_mkQ (κ := 1) (r := v) hz hP hS hR hv hp ht) hS.2.2 hdg
theorem r_zret (C : CX Y X own nm cc nL (some .boolean) d mc ms) {P : PT} {v : Int} (hv : 0 ≤ v ∧ v ≤ 1) (hp : P v rv iv av n) (hdg : decode cc pc = .ok (.ireturn, 1)) : Wa Y X nL (g_MQ Y X 1 P ce sl) ce sl pc ls [.int (i32 v)] rv iv av n := by
  intro H lo la hz hP hS hl hR
  have hlocks := C.2.2.2.2.2.2.2.2.1
  exact W.zret C.1 C.2.1 C.2.2.2.2.2.2.2.2.2.1 (by rcases (show v = 0 ∨ v = 1 by omega) with rfl | rfl <;> rfl) (fun t ht hW => g_mkQ (κ := 1) (r := v) hz hP hS hR (by show InR v; omega) hp ht) hS.2.2 hdg
theorem r_lret (C : CX Y X own nm cc nL (some .long) d mc ms) {P : PT} {v : Int} (hv : InL v) (hp : P v rv iv av n) (hdg : decode cc pc = .ok (.lreturn, 1)) : Wa Y X nL (g_MQ Y X 2 P ce sl) ce sl pc ls [.long (i64 v)] rv iv av n := by
  intro H lo la hz hP hS hl hR
  have hlocks := C.2.2.2.2.2.2.2.2.1
  exact W.lret C.1 C.2.1 C.2.2.2.2.2.2.2.2.2.1 (fun t ht hW => g_mkQ (κ := 2) (r := v) hz hP hS hR hv hp ht) hS.2.2 hdg
theorem r_aret {rt : FieldType} (C : CX Y X own nm cc nL (some rt) d mc ms) (hrt : (∃ q, rt = .object q) ∨ ∃ t, rt = .array t) {P : PT} {k : Nat} (hp : P (k : Int) rv iv av n) (hdg : decode cc pc = .ok (.areturn, 1)) : Wa Y X nL (g_MQ Y X 3 P ce sl) ce sl pc ls [.ref (gl_b Y + k)] rv iv av n := by
  intro H lo la hz hP hS hl hR
  have hlocks := C.2.2.2.2.2.2.2.2.1
  exact W.aret C.1 C.2.1 C.2.2.2.2.2.2.2.2.2.1 hrt (Or.inr ⟨_, rfl⟩) (fun t ht hW => g_mkQ (κ := 3) (r := (k : Int)) hz hP hS hR trivial hp ht) hS.2.2 hdg
end Rows3
