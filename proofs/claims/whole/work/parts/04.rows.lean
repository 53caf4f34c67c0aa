/-! The judgement over the plain world, and its rows. -/
def g_WS : List Cond := lw_tbl.filter goodWord
theorem g_mem {w : Cond} (h : w ∈ lw_tbl) (hg : goodWord w = true) : w ∈ g_WS := List.mem_filter.mpr ⟨h, hg⟩
theorem g_tb {i : Nat} {w : Cond} (h : tables_1[i]? = some w) (hg : goodWord w = true) : w ∈ g_WS := g_mem (List.mem_append_right _ (List.mem_of_getElem? h)) hg
theorem g_sl {i : Nat} {w : Cond} (h : (k2_sels lw_privs)[i]? = some w) (hg : goodWord w = true) : w ∈ g_WS := g_mem (List.mem_append_left _ (List.mem_of_getElem? h)) hg
def g_NM : List (String × Nat × MethodName × String) := [("SharedBlocks", 9, ⟨"SharedBlocks$Files", "<init>", "()V"⟩, "SharedBlocks"),
  ("SharedBlocks$Packer", 11, ⟨"SharedBlocks$Matcher", "<init>", "()V"⟩, "SharedBlocks"),
  ("SharedBlocks$Packer", 20, ⟨"SharedBlocks$LengthMaker", "<init>", "()V"⟩, "SharedBlocks"),
  ("SharedBlocks$Packer", 68, ⟨"SharedBlocks", "fixedLength", "(I)I"⟩, "SharedBlocks"),
  ("SharedBlocks$Unpacker", 11, ⟨"SharedBlocks$ReadCode", "<init>", "()V"⟩, "SharedBlocks"),
  ("SharedBlocks$Packer", 149, ⟨"SharedBlocks", "lengthSymbol", "(I)I"⟩, "SharedBlocks"),
  ("SharedBlocks$Packer", 152, ⟨"SharedBlocks", "distanceSymbol", "(I)I"⟩, "SharedBlocks"),
  ("SharedBlocks$Packer", 170, ⟨"SharedBlocks", "lengthBits", "(I)I"⟩, "SharedBlocks"),
  ("SharedBlocks$Packer", 173, ⟨"SharedBlocks", "distanceBits", "(I)I"⟩, "SharedBlocks"),
  ("SharedBlocks$Packer", 186, ⟨"SharedBlocks", "ordered", "(I)I"⟩, "SharedBlocks"),
  ("SharedBlocks$Packer", 211, ⟨"SharedBlocks", "sizeBits", "(I)I"⟩, "SharedBlocks"),
  ("SharedBlocks$Packer", 221, ⟨"SharedBlocks", "lengthBase", "(I)I"⟩, "SharedBlocks"),
  ("SharedBlocks$Packer", 224, ⟨"SharedBlocks", "distanceBase", "(I)I"⟩, "SharedBlocks"),
  ("SharedBlocks$Packer", 118, ⟨"SharedBlocks", "checkOf", "(LSharedBlocks$Bytes;II)I"⟩, "SharedBlocks"),
  ("SharedBlocks$Unpacker", 112, ⟨"SharedBlocks", "fixedLength", "(I)I"⟩, "SharedBlocks"),
  ("SharedBlocks$Unpacker", 135, ⟨"SharedBlocks", "lengthBase", "(I)I"⟩, "SharedBlocks"),
  ("SharedBlocks$Unpacker", 138, ⟨"SharedBlocks", "lengthBits", "(I)I"⟩, "SharedBlocks"),
  ("SharedBlocks$Unpacker", 141, ⟨"SharedBlocks", "distanceBase", "(I)I"⟩, "SharedBlocks"),
  ("SharedBlocks$Unpacker", 144, ⟨"SharedBlocks", "distanceBits", "(I)I"⟩, "SharedBlocks"),
  ("SharedBlocks$Unpacker", 125, ⟨"SharedBlocks", "ordered", "(I)I"⟩, "SharedBlocks"),
  ("SharedBlocks$Unpacker", 132, ⟨"SharedBlocks", "sizeBits", "(I)I"⟩, "SharedBlocks"),
  ("SharedBlocks$Unpacker", 104, ⟨"SharedBlocks", "checkOf", "(LSharedBlocks$Bytes;II)I"⟩, "SharedBlocks"),
  ("SharedBlocksModel", 125, ⟨"SharedBlocksModel$Tree", "<init>", "()V"⟩, "SharedBlocksModel")]
abbrev g_NF : String × Nat × String × String × String × String := ("SharedBlocksModel", 289, "SharedBlocksModel$Tree", "next", "[I", "SharedBlocksModel")
def g_ordL : List Int := [16, 17, 18, 0, 8, 7, 9, 6, 10, 5, 11, 4, 12, 3, 13, 2, 14, 1, 15]
/-- what lies below the base and stays: the class's static row, and the tables' words of nest mates -/
def g_ord (Y : Gl) (U : State) : Prop :=
  va_Z "SharedBlocks" "ORDER" "[I" (.ref (gl_o Y)) (g_A Y) U U.heap ∧ va_T .int (gl_o Y) 19 (fun j => .int (i32 (g_ordL.getD j 0))) (g_A Y) U U.heap ∧
  (∀ q ∈ g_NM, va_Nw (.methodLinkNest q.1 q.2.1 q.2.2.1 q.2.2.2) U) ∧ va_Nw (.fieldLinkNest g_NF.1 g_NF.2.1 g_NF.2.2.1 g_NF.2.2.2.1 g_NF.2.2.2.2.1 g_NF.2.2.2.2.2) U
def g_room (d mc ms : Nat) : Room := { frames := d, cells := mc, slots := ms, locals := 64 * d }
def g_rv (Y : Gl) (κ : Nat) (r : Int) : Option Value := match κ with
  | 0 => none
  | 1 => some (.int (i32 r))
  | 2 => some (.long (i64 r))
  | _ => some (.ref (gl_b Y + r.toNat))
def g_rr (κ : Nat) (r : Int) : Prop := match κ with
  | 1 => InR r
  | 2 => InL r
  | _ => True
abbrev PT : Type := Int → RVt → IVt → IVt → Nat → Prop
def g_P (Y : Gl) (as : List Value) (rv : RVt) (iv av : IVt) (n : Nat) : Array Value → State → Prop := fun a U =>
  a = as.toArray ∧ U.heap.size = gl_b Y + n ∧ va_P (gl_D Y) vwCl (g_ws Y rv iv av n) U.heap ∧ va_K (gl_D Y) vwCl (g_tys Y) U ∧ g_ord Y U
def g_Q (Y : Gl) (κ : Nat) (P : PT) : Array Value → State → Outcome → State → Prop := fun _ st oc t =>
  (∃ (r : Int) (rv : RVt) (iv av : IVt) (n : Nat), oc = .returned (g_rv Y κ r) ∧ g_rr κ r ∧ P r rv iv av n ∧ Rng iv av ∧ t.heap.size = gl_b Y + n ∧ va_P (gl_D Y) vwCl (g_ws Y rv iv av n) t.heap) ∧ va_F (g_A Y) st t
abbrev MT : Type := MethodName × ByteArray × Nat × Option FieldType × Nat
/-- a method's contract over the plain world -/
def OkW (Y : Gl) (d mc ms : Nat) (mt : MT) (as : List Value) (rv : RVt) (iv av : IVt) (n : Nat) (P : PT) : Prop :=
  Rng iv av → Met (gl_l Y) mt.1 (Cond.code mt.1 mt.2.1 mt.2.2.1 mt.2.2.2.1 :: g_WS) (g_room d mc ms) (g_P Y as rv iv av n) (g_Q Y mt.2.2.2.2 P) mc ms (g_A Y)
/-- what is known where a method is walked -/
abbrev CX (Y : Gl) (X : Cx) (own nm : String) (cc : ByteArray) (nL : Nat) (ret : Option FieldType) (d mc ms : Nat) : Prop :=
  (cx_p X).tables.exec = Jvm.exec ∧ (cx_c X).code = cc ∧ (cx_c X).maxLocals = nL ∧ (cx_s X).vm.findClass own = some (cx_m X).cls ∧ (∀ w ∈ g_WS, w.before (cx_a X) (cx_s X) = true) ∧ va_K (gl_D Y) vwCl (g_tys Y) (cx_s X) ∧
  gl_b Y ≤ (cx_s X).heap.size ∧ g_ord Y (cx_s X) ∧ (cx_h X).locks = false ∧ (cx_h X).sig.returnType = ret ∧ (cx_h X).name = nm ∧ d ≤ (cx_R X).frames ∧ 64 * d ≤ (cx_R X).locals ∧ mc ≤ (cx_R X).cells ∧ ms ≤ (cx_R X).slots
def Wa (Y : Gl) (X : Cx) (nL : Nat) (Q : State → Prop) (ce sl pc : Nat) (ls : List (Nat × Value)) (st : List Value) (rv : RVt) (iv av : IVt) (n : Nat) : Prop :=
  ∀ (H : Heap) (locs : List Loc) (la : Array Slot), H.size = gl_b Y + n → va_P (gl_D Y) vwCl (g_ws Y rv iv av n) H → va_S (g_A Y) (cx_s X).heap H locs → lv_has la nL ls → Rng iv av →
    W (cx_p X) (gl_l Y) (cx_e X) (cx_R X) (cx_s X) (cx_m X) (cx_a X) (cx_b X) (cx_h X) (cx_c X) H locs ce sl Q (F0 (cx_m X) pc la st)
def g_MQ (Y : Gl) (X : Cx) (κ : Nat) (P : PT) (mc ms : Nat) : State → Prop := MQ (cx_b X) (g_Q Y κ P) (cx_a X) (cx_s X) mc ms (g_A Y)
section Rows
variable {Y : Gl} {X : Cx} {own nm : String} {cc : ByteArray} {nL d mc ms : Nat} {ret : Option FieldType} {Q : State → Prop} {ce sl pc pc' : Nat} {ls ls' : List (Nat × Value)} {st : List Value} {rv : RVt} {iv av : IVt} {n : Nat}
/-! the world's list -/
theorem g_wsAt {k : Nat} (hk : k < n) : (g_ws Y rv iv av n)[k]? = some (gl_b Y + k, g_cell Y rv iv av k) := by
  simp [g_ws, List.getElem?_map, List.getElem?_range hk]
theorem g_wsLt {k : Nat} {q : Nat × va_E} (h : (g_ws Y rv iv av n)[k]? = some q) : k < n ∧ q = (gl_b Y + k, g_cell Y rv iv av k) := by
  have hl := (List.getElem?_eq_some_iff.mp h).1
  have hk : k < n := by simpa [g_ws] using hl
  rw [g_wsAt hk] at h
  exact ⟨hk, (Option.some.inj h).symm⟩
theorem g_wsD : va_D (g_A Y) (g_ws Y rv iv av n) := by
  refine ⟨fun i j p q hi hj hpq => ?_, fun k q hk => ?_⟩
  · have h1 := (g_wsLt hi).2
    have h2 := (g_wsLt hj).2
    rw [h1, h2] at hpq
    exact Nat.add_left_cancel hpq
  · rw [(g_wsLt hk).2]
    exact Nat.le_add_right _ _
theorem g_wsSet {k : Nat} {e : va_E} {rv' : RVt} {iv' av' : IVt} (hk : k < n) (he : g_cell Y rv' iv' av' k = e) (ho : ∀ j, j ≠ k → g_cell Y rv' iv' av' j = g_cell Y rv iv av j) :
    (g_ws Y rv iv av n).set k (gl_b Y + k, e) = g_ws Y rv' iv' av' n := by
  apply List.ext_getElem?
  intro j
  by_cases hjk : j = k
  · subst hjk
    rw [List.getElem?_set_self (by simpa [g_ws] using hk), g_wsAt hk, he]
  · rw [List.getElem?_set_ne (Ne.symm hjk)]
    by_cases hj : j < n
    · rw [g_wsAt hj, g_wsAt hj, ho j hjk]
    · rw [List.getElem?_eq_none (by simpa [g_ws] using hj), List.getElem?_eq_none (by simpa [g_ws] using hj)]
theorem g_cellA {k : Nat} (h : 100 ≤ kc k) : g_cell Y rv iv av k = .inl (g_ac Y (kc k), kl k, .inl (fun i => i32 (av k i))) := by
  unfold g_cell
  rw [if_neg (by omega)]
theorem g_cellO {k : Nat} (h : kc k < 100) : g_cell Y rv iv av k = .inr (kc k, (List.range (g_nf (kc k))).map fun j => g_fv Y rv iv k j) := by
  unfold g_cell
  rw [if_pos h]
/-! entry, cuts -/
theorem OkW.of {mt : MT} {as : List Value} {P : PT} (hy : plainName mt.1.cls = true) (hl : (lg_sl as).length ≤ mt.2.2.1)
    (body : ∀ X : Cx, CX Y X mt.1.cls mt.1.name mt.2.1 mt.2.2.1 mt.2.2.2.1 d mc ms → Rng iv av → Wa Y X mt.2.2.1 (g_MQ Y X mt.2.2.2.2 P mc ms) 0 0 0 (lv_args 0 as) [] rv iv av n) : OkW Y d mc ms mt as rv iv av n P := by
  intro hR
  refine Met.ofW (cc := mt.2.1) (maxL := mt.2.2.1) (ret := mt.2.2.2.1) hy rfl ?_
  intro p e s m args below meth c s₁ B hml hv
  obtain ⟨rfl, hsz, hP, hK, hO⟩ := hv
  have hts := atoms_spec (ws := Cond.code mt.1 mt.2.1 mt.2.2.1 mt.2.2.2.1 :: g_WS) B.pre
  have hown : s.vm.findClass mt.1.cls = some m.cls := findClass_of_methodNamed B.named
  have hl0 := lv_entry as (n := mt.2.2.1) hl
  rw [lg_entry_eq]
  refine body (p, e, (headSpec (Cond.code mt.1 mt.2.1 mt.2.2.1 mt.2.2.2.1 :: g_WS) (g_room d mc ms)).room, s, m, as.toArray, below, meth, c)
    ⟨B.exec, B.bytes, hml, hown, fun w hw => hts w (List.mem_cons_of_mem _ hw), hK, by rw [hsz]; exact Nat.le_add_right _ _, hO, B.notSynchronized, B.returns, (name_of_methodNamed B.named B.method).1, Nat.le_refl _, Nat.le_refl _, Nat.le_refl _, Nat.le_refl _⟩ hR s.heap [] _ hsz hP va_S.rf hl0 hR
theorem OkW.mono {mt : MT} {as : List Value} {P P' : PT} (h : OkW Y d mc ms mt as rv iv av n P) (hP : ∀ r rv' iv' av' n', Rng iv' av' → P r rv' iv' av' n' → P' r rv' iv' av' n') : OkW Y d mc ms mt as rv iv av n P' := by
  intro hR p e ha hc hk s m args below hf hfit hheap happ
  obtain ⟨t, o, h1, h2, h3, hQ, hF⟩ := h hR p e ha hc hk s m args below hf hfit hheap happ
  obtain ⟨⟨r, rv', iv', av', n', g1, g2, g3, g4, g5⟩, g6⟩ := hQ
  exact ⟨t, o, h1, h2, h3, ⟨⟨r, rv', iv', av', n', g1, g2, hP _ _ _ _ _ g4 g3, g4, g5⟩, g6⟩, hF⟩
theorem OkW.rng {mt : MT} {as : List Value} {P : PT} (h : Rng iv av → OkW Y d mc ms mt as rv iv av n P) : OkW Y d mc ms mt as rv iv av n P := fun hR => h hR hR
theorem Wa.rng (k : Rng iv av → Wa Y X nL Q ce sl pc ls st rv iv av n) : Wa Y X nL Q ce sl pc ls st rv iv av n := fun H lo la hz hP hS hl hR => k hR H lo la hz hP hS hl hR
theorem Wa.sub (ks : List Nat) (hs : lv_pick ls ks = ls') (k : Wa Y X nL Q ce sl pc ls' st rv iv av n) : Wa Y X nL Q ce sl pc ls st rv iv av n := fun H lo la hz hP hS hl hR => k H lo la hz hP hS (lv_sub hl ks hs) hR
theorem Wa.wide {ce' sl' : Nat} (h1 : ce ≤ ce') (h2 : sl ≤ sl') (k : Wa Y X nL Q ce' sl' pc ls st rv iv av n) : Wa Y X nL Q ce sl pc ls st rv iv av n := fun H lo la hz hP hS hl hR => W.widen h1 h2 (k H lo la hz hP hS hl hR)
theorem Wa.topi {x y : Int} (h : i32 x = i32 y) (k : Wa Y X nL Q ce sl pc ls (.int (i32 y) :: st) rv iv av n) : Wa Y X nL Q ce sl pc ls (.int (i32 x) :: st) rv iv av n := by rw [h]; exact k
/-! the stack -/
theorem r_iconst (C : CX Y X own nm cc nL ret d mc ms) {v : Int} (hdg : decode cc pc = .ok (.iconst v, 1)) (hq : pc + 1 = pc') (k : Wa Y X nL Q ce sl pc' ls (.int (i32 v) :: st) rv iv av n) : Wa Y X nL Q ce sl pc ls st rv iv av n := by
  subst hq; exact fun H lo la hz hP hS hl hR => lv_iconst C.1 C.2.1 hdg rfl (k H lo la hz hP hS hl hR)
theorem r_bipush (C : CX Y X own nm cc nL ret d mc ms) {v : Int} (hdg : decode cc pc = .ok (.bipush v, 2)) (hv : (Int8.ofInt v).toInt32 = i32 v) (hq : pc + 2 = pc') (k : Wa Y X nL Q ce sl pc' ls (.int (i32 v) :: st) rv iv av n) : Wa Y X nL Q ce sl pc ls st rv iv av n := by
  subst hq; exact fun H lo la hz hP hS hl hR => lv_bipush C.1 C.2.1 hdg hv (k H lo la hz hP hS hl hR)
theorem r_sipush (C : CX Y X own nm cc nL ret d mc ms) {v : Int} (hdg : decode cc pc = .ok (.sipush v, 3)) (hv : (Int16.ofInt v).toInt32 = i32 v) (hq : pc + 3 = pc') (k : Wa Y X nL Q ce sl pc' ls (.int (i32 v) :: st) rv iv av n) : Wa Y X nL Q ce sl pc ls st rv iv av n := by
  subst hq; exact fun H lo la hz hP hS hl hR => lv_sipush C.1 C.2.1 hdg hv (k H lo la hz hP hS hl hR)
theorem r_lconst (C : CX Y X own nm cc nL ret d mc ms) {v : Fin 2} {x : Int} (hdg : decode cc pc = .ok (.lconst v, 1)) (hv : Int64.ofNat (v : Nat) = i64 x) (hq : pc + 1 = pc') (k : Wa Y X nL Q ce sl pc' ls (.long (i64 x) :: st) rv iv av n) : Wa Y X nL Q ce sl pc ls st rv iv av n := by
  subst hq; exact fun H lo la hz hP hS hl hR => lv_lconst C.1 C.2.1 hdg hv (k H lo la hz hP hS hl hR)
theorem r_ldc (C : CX Y X own nm cc nL ret d mc ms) {i : Nat} {v : Int32} {x : Int} (hw : Cond.constant own i v ∈ g_WS) (hv : v = i32 x) (hdg : decode cc pc = .ok (.ldc i, 2)) (hq : pc + 2 = pc') (k : Wa Y X nL Q ce sl pc' ls (.int (i32 x) :: st) rv iv av n) : Wa Y X nL Q ce sl pc ls st rv iv av n := by
  subst hq; subst hv; exact fun H lo la hz hP hS hl hR => lv_ldc C.1 C.2.1 C.2.2.2.1 (C.2.2.2.2.1 _ hw) hdg (k H lo la hz hP hS hl hR)
theorem r_ldcw (C : CX Y X own nm cc nL ret d mc ms) {i : Nat} {v : Int32} {x : Int} (hw : Cond.constant own i v ∈ g_WS) (hv : v = i32 x) (hdg : decode cc pc = .ok (.ldc_w i, 3)) (hq : pc + 3 = pc') (k : Wa Y X nL Q ce sl pc' ls (.int (i32 x) :: st) rv iv av n) : Wa Y X nL Q ce sl pc ls st rv iv av n := by
  subst hq; subst hv; exact fun H lo la hz hP hS hl hR => lv_ldcw C.1 C.2.1 C.2.2.2.1 (C.2.2.2.2.1 _ hw) hdg (k H lo la hz hP hS hl hR)
theorem r_ldc2 (C : CX Y X own nm cc nL ret d mc ms) {i : Nat} {v : Int64} {x : Int} (hw : Cond.constantLong own i v ∈ g_WS) (hv : v = i64 x) (hdg : decode cc pc = .ok (.ldc2_w i, 3)) (hq : pc + 3 = pc') (k : Wa Y X nL Q ce sl pc' ls (.long (i64 x) :: st) rv iv av n) : Wa Y X nL Q ce sl pc ls st rv iv av n := by
  subst hq; subst hv; exact fun H lo la hz hP hS hl hR => lv_ldc2 C.1 C.2.1 C.2.2.2.1 (C.2.2.2.2.1 _ hw) hdg (k H lo la hz hP hS hl hR)
theorem r_dup (C : CX Y X own nm cc nL ret d mc ms) {v : Value} (hv : v.category = 1) (hdg : decode cc pc = .ok (.dup, 1)) (hq : pc + 1 = pc') (k : Wa Y X nL Q ce sl pc' ls (v :: v :: st) rv iv av n) : Wa Y X nL Q ce sl pc ls (v :: st) rv iv av n := by
  subst hq; exact fun H lo la hz hP hS hl hR => lv_dup C.1 C.2.1 hdg hv (k H lo la hz hP hS hl hR)
theorem r_dup2 (C : CX Y X own nm cc nL ret d mc ms) {v u : Value} (hv : v.category = 1) (hu : u.category = 1) (hdg : decode cc pc = .ok (.dup2, 1)) (hq : pc + 1 = pc') (k : Wa Y X nL Q ce sl pc' ls (v :: u :: v :: u :: st) rv iv av n) : Wa Y X nL Q ce sl pc ls (v :: u :: st) rv iv av n := by
  subst hq; exact fun H lo la hz hP hS hl hR => lv_dup2_11 C.1 C.2.1 hdg hv hu (k H lo la hz hP hS hl hR)
/-! locals -/
theorem r_iload (C : CX Y X own nm cc nL ret d mc ms) (i : Nat) {j : Nat} {x : Int} (hl0 : ls[i]? = some (j, .int (i32 x))) (hdg : decode cc pc = .ok (.iload j, 2)) (hq : pc + 2 = pc') (k : Wa Y X nL Q ce sl pc' ls (.int (i32 x) :: st) rv iv av n) : Wa Y X nL Q ce sl pc ls st rv iv av n := by
  subst hq; exact fun H lo la hz hP hS hl hR => lv_iload C.1 C.2.1 hdg (lv_at hl i hl0) (k H lo la hz hP hS hl hR)
theorem r_iload_n (C : CX Y X own nm cc nL ret d mc ms) (i : Nat) {f : Fin 4} {j : Nat} {x : Int} (hl0 : ls[i]? = some (j, .int (i32 x))) (hf : (f : Nat) = j) (hdg : decode cc pc = .ok (.iload_n f, 1)) (hq : pc + 1 = pc') (k : Wa Y X nL Q ce sl pc' ls (.int (i32 x) :: st) rv iv av n) : Wa Y X nL Q ce sl pc ls st rv iv av n := by
  subst hq; exact fun H lo la hz hP hS hl hR => lv_iload_n C.1 C.2.1 hdg hf (lv_at hl i hl0) (k H lo la hz hP hS hl hR)
theorem r_lload (C : CX Y X own nm cc nL ret d mc ms) (i : Nat) {j : Nat} {x : Int} (hl0 : ls[i]? = some (j, .long (i64 x))) (hdg : decode cc pc = .ok (.lload j, 2)) (hq : pc + 2 = pc') (k : Wa Y X nL Q ce sl pc' ls (.long (i64 x) :: st) rv iv av n) : Wa Y X nL Q ce sl pc ls st rv iv av n := by
  subst hq; exact fun H lo la hz hP hS hl hR => lv_lload C.1 C.2.1 hdg (lv_at hl i hl0) (k H lo la hz hP hS hl hR)
theorem r_lload_n (C : CX Y X own nm cc nL ret d mc ms) (i : Nat) {f : Fin 4} {j : Nat} {x : Int} (hl0 : ls[i]? = some (j, .long (i64 x))) (hf : (f : Nat) = j) (hdg : decode cc pc = .ok (.lload_n f, 1)) (hq : pc + 1 = pc') (k : Wa Y X nL Q ce sl pc' ls (.long (i64 x) :: st) rv iv av n) : Wa Y X nL Q ce sl pc ls st rv iv av n := by
  subst hq; exact fun H lo la hz hP hS hl hR => lv_lload_n C.1 C.2.1 hdg hf (lv_at hl i hl0) (k H lo la hz hP hS hl hR)
theorem r_aload (C : CX Y X own nm cc nL ret d mc ms) (i : Nat) {j : Nat} {x : Nat} (hl0 : ls[i]? = some (j, .ref x)) (hdg : decode cc pc = .ok (.aload j, 2)) (hq : pc + 2 = pc') (k : Wa Y X nL Q ce sl pc' ls (.ref x :: st) rv iv av n) : Wa Y X nL Q ce sl pc ls st rv iv av n := by
  subst hq; exact fun H lo la hz hP hS hl hR => lv_aload C.1 C.2.1 hdg (lv_at hl i hl0) (k H lo la hz hP hS hl hR)
theorem r_aload_n (C : CX Y X own nm cc nL ret d mc ms) (i : Nat) {f : Fin 4} {j : Nat} {x : Nat} (hl0 : ls[i]? = some (j, .ref x)) (hf : (f : Nat) = j) (hdg : decode cc pc = .ok (.aload_n f, 1)) (hq : pc + 1 = pc') (k : Wa Y X nL Q ce sl pc' ls (.ref x :: st) rv iv av n) : Wa Y X nL Q ce sl pc ls st rv iv av n := by
  subst hq; exact fun H lo la hz hP hS hl hR => lv_aload_n C.1 C.2.1 hdg hf (lv_at hl i hl0) (k H lo la hz hP hS hl hR)
/-- the locals behind a store, by their numbers -/
def g_st (ls : List (Nat × Value)) (i : Nat) (v : Value) : List (Nat × Value) :=
  ls.filter (fun q => Nat.blt q.1 i && !(Nat.beq (q.1 + 1) i && Nat.beq q.2.category 2)) ++ (i, v) :: ls.filter (fun q => Nat.blt i q.1 && !(Nat.beq v.category 2 && Nat.beq q.1 (i + 1)))
theorem g_stHas1 {la : Array Slot} {nL i : Nat} {v : Value} {ls : List (Nat × Value)} (hv : v.category = 1) (h : lv_has la nL ((i, v) :: ls.filter (fun q => !(q.1 == i) && !(q.1 + 1 == i && q.2.category == 2)))) : lv_has la nL (g_st ls i v) := by
  refine ⟨h.1, h.2.1, fun q hq => h.2.2 q ?_⟩
  simp only [g_st, List.mem_append, List.mem_cons, List.mem_filter, Bool.and_eq_true, Nat.blt_eq, Bool.not_eq_true', Bool.and_eq_false_iff, Nat.beq_eq_true_eq] at hq
  rcases hq with ⟨h1, h2, h3⟩ | rfl | ⟨h1, h2, h3⟩
  · refine List.mem_cons_of_mem _ (List.mem_filter.mpr ⟨h1, ?_⟩)
    have h4 : (q.1 == i) = false := by simpa using (show q.1 ≠ i by omega)
    rcases h3 with h3 | h3
    · have h5 : (q.1 + 1 == i) = false := by simpa using Nat.ne_of_beq_eq_false h3
      simp [h4, h5]
    · have h5 : (q.2.category == 2) = false := by simpa using Nat.ne_of_beq_eq_false h3
      simp [h4, h5]
  · exact List.mem_cons_self
  · refine List.mem_cons_of_mem _ (List.mem_filter.mpr ⟨h1, ?_⟩)
    have h4 : (q.1 == i) = false := by simpa using (show q.1 ≠ i by omega)
    have h5 : (q.1 + 1 == i) = false := by simpa using (show q.1 + 1 ≠ i by omega)
    simp [h4, h5]
theorem g_stHas2 {la : Array Slot} {nL i : Nat} {v : Value} {ls : List (Nat × Value)} (hv : v.category = 2) (h : lv_has la nL ((i, v) :: ls.filter (fun q => !(q.1 == i) && (!(q.1 == i + 1) && !(q.1 + 1 == i && q.2.category == 2))))) : lv_has la nL (g_st ls i v) := by
  refine ⟨h.1, h.2.1, fun q hq => h.2.2 q ?_⟩
  simp only [g_st, List.mem_append, List.mem_cons, List.mem_filter, Bool.and_eq_true, Nat.blt_eq, Bool.not_eq_true', Bool.and_eq_false_iff, Nat.beq_eq_true_eq] at hq
  rcases hq with ⟨h1, h2, h3⟩ | rfl | ⟨h1, h2, h3⟩
  · refine List.mem_cons_of_mem _ (List.mem_filter.mpr ⟨h1, ?_⟩)
    have h4 : (q.1 == i) = false := by simpa using (show q.1 ≠ i by omega)
    have h6 : (q.1 == i + 1) = false := by simpa using (show q.1 ≠ i + 1 by omega)
    rcases h3 with h3 | h3
    · have h5 : (q.1 + 1 == i) = false := by simpa using Nat.ne_of_beq_eq_false h3
      simp [h4, h5, h6]
    · have h5 : (q.2.category == 2) = false := by simpa using Nat.ne_of_beq_eq_false h3
      simp [h4, h5, h6]
  · exact List.mem_cons_self
  · refine List.mem_cons_of_mem _ (List.mem_filter.mpr ⟨h1, ?_⟩)
    have h4 : (q.1 == i) = false := by simpa using (show q.1 ≠ i by omega)
    have h5 : (q.1 + 1 == i) = false := by simpa using (show q.1 + 1 ≠ i by omega)
    have h6 : (q.1 == i + 1) = false := by
      rcases h3 with h3 | h3
      · rw [hv] at h3; cases h3
      · simpa using Nat.ne_of_beq_eq_false h3
    simp [h4, h5, h6]
theorem r_istore (C : CX Y X own nm cc nL ret d mc ms) {j : Nat} {x : Int} (hj : j < nL) (hs : g_st ls j (.int (i32 x)) = ls') (hdg : decode cc pc = .ok (.istore j, 2)) (hq : pc + 2 = pc') (k : Wa Y X nL Q ce sl pc' ls' st rv iv av n) : Wa Y X nL Q ce sl pc ls (.int (i32 x) :: st) rv iv av n := by
  subst hq; subst hs; exact fun H lo la hz hP hS hl hR => lv_istore C.1 C.2.1 hdg hl hj rfl fun la' hl' => k H lo la' hz hP hS (g_stHas1 rfl hl') hR
theorem r_istore_n (C : CX Y X own nm cc nL ret d mc ms) {f : Fin 4} {j : Nat} {x : Int} (hj : j < nL) (hf : (f : Nat) = j) (hs : g_st ls j (.int (i32 x)) = ls') (hdg : decode cc pc = .ok (.istore_n f, 1)) (hq : pc + 1 = pc') (k : Wa Y X nL Q ce sl pc' ls' st rv iv av n) : Wa Y X nL Q ce sl pc ls (.int (i32 x) :: st) rv iv av n := by
  subst hq; subst hs; exact fun H lo la hz hP hS hl hR => lv_istore_n C.1 C.2.1 hdg hf hl hj rfl fun la' hl' => k H lo la' hz hP hS (g_stHas1 rfl hl') hR
theorem r_astore_n (C : CX Y X own nm cc nL ret d mc ms) {f : Fin 4} {j : Nat} {x : Nat} (hj : j < nL) (hf : (f : Nat) = j) (hs : g_st ls j (.ref x) = ls') (hdg : decode cc pc = .ok (.astore_n f, 1)) (hq : pc + 1 = pc') (k : Wa Y X nL Q ce sl pc' ls' st rv iv av n) : Wa Y X nL Q ce sl pc ls (.ref x :: st) rv iv av n := by
  subst hq; subst hs; exact fun H lo la hz hP hS hl hR => lv_astore_n C.1 C.2.1 hdg hf hl hj rfl fun la' hl' => k H lo la' hz hP hS (g_stHas1 rfl hl') hR
theorem r_lstore (C : CX Y X own nm cc nL ret d mc ms) {j : Nat} {x : Int} (hj : j + 1 < nL) (hs : g_st ls j (.long (i64 x)) = ls') (hdg : decode cc pc = .ok (.lstore j, 2)) (hq : pc + 2 = pc') (k : Wa Y X nL Q ce sl pc' ls' st rv iv av n) : Wa Y X nL Q ce sl pc ls (.long (i64 x) :: st) rv iv av n := by
  subst hq; subst hs; exact fun H lo la hz hP hS hl hR => lv_lstore C.1 C.2.1 hdg hl hj rfl fun la' hl' => k H lo la' hz hP hS (g_stHas2 rfl hl') hR
theorem r_lstore_n (C : CX Y X own nm cc nL ret d mc ms) {f : Fin 4} {j : Nat} {x : Int} (hj : j + 1 < nL) (hf : (f : Nat) = j) (hs : g_st ls j (.long (i64 x)) = ls') (hdg : decode cc pc = .ok (.lstore_n f, 1)) (hq : pc + 1 = pc') (k : Wa Y X nL Q ce sl pc' ls' st rv iv av n) : Wa Y X nL Q ce sl pc ls (.long (i64 x) :: st) rv iv av n := by
  subst hq; subst hs; exact fun H lo la hz hP hS hl hR => lv_lstore_n C.1 C.2.1 hdg hf hl hj rfl fun la' hl' => k H lo la' hz hP hS (g_stHas2 rfl hl') hR
theorem r_iinc (C : CX Y X own nm cc nL ret d mc ms) (i : Nat) {j : Nat} {x v : Int} (hl0 : ls[i]? = some (j, .int (i32 x))) (hj : j < nL) (hs : g_st ls j (.int (i32 (x + v))) = ls') (hdg : decode cc pc = .ok (.iinc j v, 3)) (hq : pc + 3 = pc') (k : Wa Y X nL Q ce sl pc' ls' st rv iv av n) : Wa Y X nL Q ce sl pc ls st rv iv av n := by
  subst hq; subst hs; exact fun H lo la hz hP hS hl hR => lv_iinc C.1 C.2.1 hdg hl hl0 (i32_add x v) hj rfl fun la' hl' => k H lo la' hz hP hS (g_stHas1 rfl hl') hR
end Rows
