/-! The law from its entry: the tables, the two constructors, the loop. -/
/-! THE CLAIM OUT OF ONE WALK OF THE LAW'S BODY. Your part is whole_start (and what it stands on); all else here is the same for every law, but numbers. -/
def R_law : String := "SharedBlocksLaw"
def lw_P (b : Addr) (xs : List Int32) (args : Array Value) (s : State) : Prop := args = #[.ref b] ∧ s.IntsAt b xs ∧ xs.length ≤ 320 ∧ (Jvm.Cond.and given_1 narrow_1).before args s = true
def lw_Q (_ : Array Value) (s : State) (o : Outcome) (t : State) : Prop := o = .returned (some (.int 1)) ∧ Framed s o t [] 600000 7302250
def lw_Z (below : List Frame) (a : Array Value) (s : State) : State → Prop := fun t => ∃ o, t.status = .running ∧ Ended t below o ∧ lw_Q a s o t
/-- the law's own end, with 1 on the stack, nothing written that was there before, its room as the claim has it -/
theorem lw_ret {p : Program} {l : Launch} {e : Env} {s : State} {m : MethodId} {below : List Frame} {meth : Method} {c : Code} {b : Nat} (hx : p.tables.exec = Jvm.exec) (hb : c.code = code) (hr : meth.sig.returnType = ret) (hlocks : meth.locks = false) {pc : Nat} {H : Heap} {ls : Array Slot} (hdg : decode code pc = .ok (.ireturn, 1)) : W p l e room_1 s m #[Value.ref b] below meth c H [] 600000 7302250 (lw_Z below #[Value.ref b] s) (F0 m pc ls [.int 1]) := by
  intro T hT X
  obtain ⟨fs, hret, hrun, hended, hW, hframe⟩ := X.leave (v := some (.int 1)) (hlocks := hlocks) (fun h => by rw [hr] at h; cases h)
  have hmeth' : T.vm.method? m = some meth := X.method'
  refine ⟨T.setFrames fs, ?_, .returned (some (.int 1)), hrun, hended, rfl, ⟨_, rfl⟩, hW, hframe⟩
  jvm_step X.here [X.here.top, hx, hb, hdg, hmeth', hr, ret, narrow_b1]
  (try refine ⟨rfl, ?_⟩); (try refine ⟨rfl, ?_⟩)
  first | (intro acts; rw [hret _ acts rfl rfl rfl]) | rw [hret _ _ rfl rfl rfl]
  exact Steps.refl _
/-- what holds at the law's entry: the machine, the code, the tables' words (any of lw_tbl by 'hts w (by decide +kernel)'), the script of L ints xs at the cell b, what the Statement gives of the start (any of its parts by flat_of_before) -/
def lw_At (p : Program) (s : State) (m : MethodId) (meth : Method) (c : Code) (b L : Nat) (xs : Nat → Int32) : Prop :=
  p.tables.exec = Jvm.exec ∧ c.code = code ∧ meth.sig.returnType = ret ∧ c.maxLocals = 4 ∧ s.vm.findClass R_law = some m.cls ∧ (∀ w ∈ lw_tbl, w.before #[Value.ref b] s = true) ∧ va_X b L xs s s.heap ∧ b < s.heap.size ∧ meth.locks = false ∧ (Jvm.Cond.and given_1 narrow_1).before #[Value.ref b] s = true
theorem ord_el {args : Array Value} {s : State} (hgv : (Jvm.Cond.and given_1 narrow_1).before args s = true) : ∀ j : Nat, j < 19 → (Term.elem (Term.static "SharedBlocks" "ORDER" "[I") (.int (Int32.ofNat j))).eval args s none [] s = some (.int (i32 (g_ordL.getD j 0))) := by
  have hs := flat_of_before _ hgv
  intro j hj
  match j, hj with
  | 0, _ => exact va_eqt (hs _ (by decide +kernel))
  | 1, _ => exact va_eqt (hs _ (by decide +kernel))
  | 2, _ => exact va_eqt (hs _ (by decide +kernel))
  | 3, _ => exact va_eqt (hs _ (by decide +kernel))
  | 4, _ => exact va_eqt (hs _ (by decide +kernel))
  | 5, _ => exact va_eqt (hs _ (by decide +kernel))
  | 6, _ => exact va_eqt (hs _ (by decide +kernel))
  | 7, _ => exact va_eqt (hs _ (by decide +kernel))
  | 8, _ => exact va_eqt (hs _ (by decide +kernel))
  | 9, _ => exact va_eqt (hs _ (by decide +kernel))
  | 10, _ => exact va_eqt (hs _ (by decide +kernel))
  | 11, _ => exact va_eqt (hs _ (by decide +kernel))
  | 12, _ => exact va_eqt (hs _ (by decide +kernel))
  | 13, _ => exact va_eqt (hs _ (by decide +kernel))
  | 14, _ => exact va_eqt (hs _ (by decide +kernel))
  | 15, _ => exact va_eqt (hs _ (by decide +kernel))
  | 16, _ => exact va_eqt (hs _ (by decide +kernel))
  | 17, _ => exact va_eqt (hs _ (by decide +kernel))
  | 18, _ => exact va_eqt (hs _ (by decide +kernel))
  | j + 19, hj => exact absurd hj (by omega)
theorem ord_at {args : Array Value} {s : State} {A : Nat → Prop} (hts : ∀ w ∈ lw_tbl, w.before args s = true) (hgv : (Jvm.Cond.and given_1 narrow_1).before args s = true) (hA : ∀ a : Nat, a < s.heap.size → ¬ A a) : ∃ t : Nat, va_Z "SharedBlocks" "ORDER" "[I" (.ref t) A s s.heap ∧ va_T .int t 19 (fun j => .int (i32 (g_ordL.getD j 0))) A s s.heap := by
  have hs := flat_of_before _ hgv
  obtain ⟨t, h1, h2⟩ := va_Tof (tm := Term.static "SharedBlocks" "ORDER" "[I") (ty := .int) (N := 19) (f := fun j => .int (i32 (g_ordL.getD j 0))) (A := A) (by decide) (hs _ (by decide +kernel)) (va_eqt (hs _ (by decide +kernel))) (ord_el hgv) hA
  exact ⟨t, va_Zref (hts _ wd_lays) (hts _ wd_ini) h1 hA, h2⟩
theorem rng0 : Rng zI zI := ⟨fun _ _ => by unfold zI; omega, fun k i => by
  unfold zI tyR
  split
  · omega
  · split <;> omega⟩
theorem rv11_hi {k j : Nat} (h : 73 ≤ k) : RV11 zR k j = 0 := by
  unfold RV11 RV8
  repeat rw [upR_ne (by omega)]
  rfl
set_option maxHeartbeats 4000000 in
set_option maxRecDepth 100000 in
theorem whole_walk {Y : Gl} {X : Cx} {nm : String} {Q : State → Prop} {b L : Nat} {xs : Nat → Int32} (C : CX Y X RL nm code 4 ret 100 600000 7302250) (hX : va_X b L xs (cx_s X) (cx_s X).heap) (hbl : b < (cx_s X).heap.size) (hbA : b < gl_b Y) (hL : L ≤ 320) (hend : ∀ (i : Int) iv av, Wa Y X 4 Q 600000 7302250 651 [(0, .ref b), (1, .ref (gl_b Y + 0)), (2, .ref (gl_b Y + 73)), (3, .int (i32 i))] [.int (i32 1)] RV iv av 116) : Wa Y X 4 Q 0 0 0 [(0, .ref b)] [] zR zI zI 0 := by
  refine r_new (pc' := 3) C nwL_7 rfl kc_0 (by decide) (fun _ => rfl) (fun _ => rfl) (by decide) (by decide) dL_0 rfl ?_
  refine r_dup (pc' := 4) C rfl dL_3 rfl ?_
  refine r_callI (np := 0) (as := []) (st := [.ref (gl_b Y + 0)]) (k := 0) C (k_X11_init (e := 0) (fun _ _ _ => rfl) (fun _ _ _ => rfl) (fun _ _ _ => rfl) rfl) cl_X11_init rfl mlL_9 im_X11_init (by decide) (by decide) (by decide) rfl rfl (Nat.le_of_ble_eq_true rfl) dL_4 ?_
  rintro r rv1 iv1 av1 n1 ⟨rfl, rfl, ⟨o1, f6, g47, g51⟩, rfl⟩
  refine r_astore_n (pc' := 8) (ls' := [(0, .ref b), (1, .ref (gl_b Y + 0))]) C (by decide) rfl rfl dL_7 rfl ?_
  refine r_new (pc' := 11) C nwL_10 rfl kc_73 (by decide) (fun j => rv11_hi (by omega)) (fun j => ?_) (by decide) (by decide) dL_8 rfl ?_
  · repeat rw [up2_ne (by omega)]
    rfl
  refine r_dup (pc' := 12) C rfl dL_11 rfl ?_
  refine r_callI (np := 0) (as := []) (st := [.ref (gl_b Y + 73)]) (k := 73) C (k_X13_init (e := 0) (fun k hk j => rv11_hi (by omega)) (fun k hk j => ?_) (fun k hk j => ?_)) cl_X13_init rfl mlL_12 im_X13_init (by decide) (by decide) (by decide) rfl rfl (Nat.le_of_ble_eq_true rfl) dL_12 ?_
  · repeat rw [up2_ne (by omega)]
    rfl
  · rw [o1 k (by simp; omega)]
    rfl
  rintro r rv2 iv2 av2 n2 ⟨rfl, rfl, ⟨o2, f82⟩, rfl⟩
  refine r_astore_n (pc' := 16) (ls' := [(0, .ref b), (1, .ref (gl_b Y + 0)), (2, .ref (gl_b Y + 73))]) C (by decide) rfl rfl dL_15 rfl ?_
  refine r_iconst (pc' := 17) C dL_16 rfl ?_
  refine r_istore_n (pc' := 18) (ls' := [(0, .ref b), (1, .ref (gl_b Y + 0)), (2, .ref (gl_b Y + 73)), (3, .int (i32 ((5 * 0 : Nat) : Int)))]) C (by decide) rfl rfl dL_17 rfl ?_
  refine Wa.wide (ce' := 600000) (sl' := 7302250) (by decide) (by decide) ?_
  rw [rvEq]
  have h := law_loop C (Nat.le_refl _) (Nat.le_refl _) hX hbl hbA hL hend 64 0 iv00 av2 (by omega) (by omega) (inv0 o1 f6 g47 g51 o2 f82)
  exact h
set_option maxHeartbeats 4000000 in
theorem whole_start {p : Program} {e : Env} {s : State} {m : MethodId} {below : List Frame} {meth : Method} {c : Code} (l : Launch) (hflags : l.flags = flags0) {b L : Nat} {xs : Nat → Int32} (hL : L ≤ 320) (C0 : lw_At p s m meth c b L xs) : W p l e room_1 s m #[Value.ref b] below meth c s.heap [] 0 0 (lw_Z below #[Value.ref b] s) (entryFrame m ([Value.ref b] : List Value).toArray 4) := by
  obtain ⟨hx, hb, hr, hml, hown, hts, hX, hbl, hlocks, hgv⟩ := C0
  have hts' : ∀ w ∈ g_WS, w.before #[Value.ref b] s = true := fun w hw => hts w (List.mem_filter.mp hw).1
  obtain ⟨D, hD⟩ := all_kn hts' m.cls
  obtain ⟨cI, hI⟩ := arr_kn (hts _ wl_int) (fun _ h => by cases h)
  obtain ⟨cB, hB⟩ := arr_kn (hts _ wl_byte) (fun _ h => by cases h)
  obtain ⟨cZ, hZ⟩ := arr_kn (hts _ wl_boolean) (fun _ h => by cases h)
  obtain ⟨t, hz, hT⟩ := ord_at (A := fun q => s.heap.size ≤ q) hts hgv (fun a h => Nat.not_le.mpr h)
  have hK : va_K D vwCl [(cI, .int), (cB, .byte), (cZ, .boolean)] s := ⟨hD, fun k q hq => by
    match k, hq with
    | 0, hq => cases hq; exact hI
    | 1, hq => cases hq; exact hB
    | 2, hq => cases hq; exact hZ
    | k + 3, hq => simp at hq⟩
  have C : CX ((l, D, s.heap.size, (cI, cB, cZ), t) : Gl) ((p, e, room_1, s, m, #[.ref b], below, meth, c) : Cx) RL meth.name code 4 ret 100 600000 7302250 :=
    ⟨hx, hb, hml, hown, hts', hK, Nat.le_refl _, ⟨hz, hT, fun q hq => va_Nw.of rfl (hts _ (nm_all q hq)), va_Nw.of rfl (hts _ nfw)⟩, hlocks, hr, rfl, Nat.le_of_ble_eq_true rfl, Nat.le_of_ble_eq_true rfl, Nat.le_of_ble_eq_true rfl, Nat.le_of_ble_eq_true rfl⟩
  have h := whole_walk (Q := lw_Z below #[Value.ref b] s) C hX hbl hbl hL ?_
  · have hl := lv_entry [Value.ref b] (n := 4) (Nat.le_of_ble_eq_true rfl)
    rw [lg_entry_eq]
    exact h s.heap [] _ rfl (fun k q hq => by simp [g_ws] at hq) va_S.rf hl rng0
  · intro i iv av H lo la hz hP hS hl hR
    refine va_forget (fun q hq => hS.2.2 q hq) ?_
    rw [show i32 1 = 1 by decide +kernel]
    exact lw_ret hx hb hr hlocks dL_651
