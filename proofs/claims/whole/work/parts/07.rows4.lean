/-! Rows: calls, JDK members, new cells. -/
theorem g_good {ws : List Cond} (h : ∀ w ∈ ws, w ∈ g_WS) : GoodIn g_WS ws := fun w hw => ⟨h w hw, good_of_word (List.mem_filter.mp (h w hw)).2⟩
theorem g_ordBlind {Y : Gl} {U : State} {g : JFrame} {mk : MethodId} {a : Array Value} (h : g_ord Y U) : g_ord Y (U.calling g mk a) :=
  ⟨va_Z.moved (U := U.calling g mk a) (Vm.Alike.refl U.vm) h.1, va_T.moved (U := U.calling g mk a) (Vm.Alike.refl U.vm) h.2.1, fun q hq => va_Nw.same (U := U.calling g mk a) rfl rfl (h.2.2.1 q hq), va_Nw.same (U := U.calling g mk a) rfl rfl h.2.2.2⟩
theorem g_ordMv {Y : Gl} {s U : State} {lo : List Loc} (h : g_ord Y s) (hW : s.WarmedH U.vm) (hS : va_S (g_A Y) s.heap U.heap lo) : g_ord Y U :=
  ⟨(va_Z.moved (U := U) hW.alike h.1).kept hS.2.1, (va_T.moved (U := U) hW.alike h.2.1).kept hS.2.1, fun q hq => va_Nw.warmM hW (h.2.2.1 q hq), va_Nw.warmF hW h.2.2.2⟩
theorem g_blind {Y : Gl} {as : List Value} {rv : RVt} {iv av : IVt} {n : Nat} : FrameBlind (g_P Y as rv iv av n) := fun a U g mk q =>
  ⟨q.1, q.2.1, q.2.2.1, va_K.moved (u := U) (U := U.calling g mk a) (Vm.Alike.refl U.vm) q.2.2.2.1, g_ordBlind q.2.2.2.2⟩
/-- what a call needs of its callee, whoever calls -/
def CLk (mt : MT) (np : Nat) : Prop := Cond.code mt.1 mt.2.1 mt.2.2.1 mt.2.2.2.1 ∈ g_WS ∧ Cond.initialized mt.1.cls ∈ g_WS ∧ (mt.1.cls ≠ "java/lang/invoke/MethodHandle" ∧ mt.1.cls ≠ "java/lang/invoke/VarHandle" ∧ (parseMethodDescriptor mt.1.desc).map (fun d => d.parameters.length) = some np) ∧ mt.2.2.1 ≤ 40
section Rows4
variable {Y : Gl} {X : Cx} {own nm : String} {cc : ByteArray} {nL d mc ms : Nat} {ret : Option FieldType} {Q : State → Prop} {ce sl pc pc' : Nat} {ls ls' : List (Nat × Value)} {st : List Value} {rv : RVt} {iv av : IVt} {n : Nat}
theorem g_preS (C : CX Y X own nm cc nL ret d mc ms) {H : Heap} {lo : List Loc} (hz : H.size = gl_b Y + n) (hP : va_P (gl_D Y) vwCl (g_ws Y rv iv av n) H) (hS : va_S (g_A Y) (cx_s X).heap H lo) (as : List Value) : PreS (cx_s X) H (g_P Y as rv iv av n) as :=
  ⟨g_blind, fun U hU hW => ⟨rfl, by rw [hU]; exact hz, by rw [hU]; exact hP, va_K.moved hW.alike C.2.2.2.2.2.1, g_ordMv C.2.2.2.2.2.2.2.1 hW (by rw [hU]; exact hS)⟩⟩
theorem g_preV (C : CX Y X own nm cc nL ret d mc ms) {H : Heap} {lo : List Loc} (hz : H.size = gl_b Y + n) (hP : va_P (gl_D Y) vwCl (g_ws Y rv iv av n) H) (hS : va_S (g_A Y) (cx_s X).heap H lo) (as : List Value) {k ci : Nat} {q : vw_C} (hk : k < n) (hc : kc k = ci) (h100 : ci < 100) (hcl : vwCl[ci]? = some q) : PreV (cx_s X) H q.1 (gl_b Y + k) (g_P Y (.ref (gl_b Y + k) :: as) rv iv av n) as :=
  ⟨g_blind, va_recv C.2.2.2.2.2.1 hP hcl (g_wsO hk hc h100), fun U hU hW => (g_preS C hz hP hS _).2 U hU hW⟩
theorem g_tail {H : Heap} {lo : List Loc} {la : Array Slot} {κ mc' ms' : Nat} {P : PT} {as' : Array Value} {stk : List Value} (hS : va_S (g_A Y) (cx_s X).heap H lo) (hl : lv_has la nL ls)
    (hrun : va_Run (cx_p X) (gl_l Y) (cx_e X) (cx_R X) (cx_s X) (cx_m X) (cx_a X) (cx_b X) (cx_h X) (cx_c X) H lo ce sl mc' ms' (F0 (cx_m X) pc la stk) st (g_Q Y κ P as') (g_A Y))
    (kk : ∀ (r : Int) (rv' : RVt) (iv' av' : IVt) (n' : Nat), g_rr κ r → P r rv' iv' av' n' → Wa Y X nL Q (ce + mc') (sl + ms') (pc + 3) ls ((g_rv Y κ r).toList ++ st) rv' iv' av' n') :
    W (cx_p X) (gl_l Y) (cx_e X) (cx_R X) (cx_s X) (cx_m X) (cx_a X) (cx_b X) (cx_h X) (cx_c X) H lo ce sl Q (F0 (cx_m X) pc la stk) := by
  intro T hT X0
  obtain ⟨v, st₀, t, T', L, h0, X', hL, e1, e2, ⟨⟨r, rv', iv', av', n', ho, hrr, hp, hR', hz', hP'⟩, hz2, hk2⟩, stp⟩ := hrun T hT X0
  cases ho
  rw [h0] at hz2 hk2
  obtain ⟨t2, a1, b1⟩ := kk r rv' iv' av' n' hrr hp T'.heap (lo ++ L) la (by rw [e1]; exact hz') (by rw [e1]; exact hP')
    ⟨Nat.le_trans hS.1 (by rw [e1]; exact hz2), fun q h1 h2 => by rw [e1, hk2 q (Nat.lt_of_lt_of_le h1 hS.1) h2]; exact hS.2.1 q h1 h2, fun q hq => by
      rcases List.mem_append.mp hq with h | h
      · exact hS.2.2 q h
      · exact hL q h⟩ hl hR' T' rfl X'
  exact ⟨t2, stp t2 a1, b1⟩
theorem g_roomOk (C : CX Y X own nm cc nL ret d mc ms) {d' mc' ms' mL : Nat} (hd : d' + 1 ≤ d) (hm : mL ≤ 40) : (g_room d' mc' ms').frames + 1 ≤ (cx_R X).frames ∧ 8 + (mL + 11) + (g_room d' mc' ms').locals ≤ (cx_R X).locals := by
  have h1 := C.2.2.2.2.2.2.2.2.2.2.2.1
  have h2 := C.2.2.2.2.2.2.2.2.2.2.2.2.1
  refine ⟨?_, ?_⟩
  · show d' + 1 ≤ _
    omega
  · show 8 + (mL + 11) + 64 * d' ≤ _
    omega
theorem r_callV (C : CX Y X own nm cc nL ret d mc ms) {mt : MT} {np idx d' mc' ms' k ci : Nat} {q : vw_C} {as stk : List Value} {P : PT} (hM : OkW Y d' mc' ms' mt (.ref (gl_b Y + k) :: as) rv iv av n P) (hc : CLk mt np) (hl0 : Cond.methodLink own idx mt.1 ∈ g_WS) (hi : Cond.instanceMethod mt.1 ∈ g_WS) (hs : Cond.selects mt.1.cls mt.1 mt.1 ∈ g_WS)
    (hd : d' + 1 ≤ d) (hmc : ce + mc' ≤ mc) (hms : sl + ms' ≤ ms) (hn : as.length = np) (hk : k < n) (hkc : kc k = ci) (h100 : ci < 100) (hcl : vwCl[ci]? = some q) (hq1 : q.1 = mt.1.cls) (hst : stk = as.reverse ++ .ref (gl_b Y + k) :: st) (hsum : (st.map fun v => v.category).sum ≤ 8) (hdg : decode cc pc = .ok (.invokevirtual idx, 3))
    (kk : ∀ (r : Int) (rv' : RVt) (iv' av' : IVt) (n' : Nat), g_rr mt.2.2.2.2 r → P r rv' iv' av' n' → Wa Y X nL Q (ce + mc') (sl + ms') (pc + 3) ls ((g_rv Y mt.2.2.2.2 r).toList ++ st) rv' iv' av' n') : Wa Y X nL Q ce sl pc ls stk rv iv av n := by
  intro H lo la hz hP hS hl hR
  obtain ⟨c1, c2, c3, c4⟩ := hc
  have hpre := g_preV C hz hP hS as hk hkc h100 hcl
  rw [hq1] at hpre
  refine g_tail hS hl (va_runV (Ts := g_WS) (As := as) (rest := st) ⟨C.1, C.2.1, C.2.2.1, C.2.2.2.1, C.2.2.2.2.1⟩ (hM hR) (cwV (C := mt.1.cls) np C.2.2.2.2.1 (g_good (fun w hw => ?_)) rfl rfl rfl ⟨rfl, c3⟩ (g_roomOk C hd c4)) hpre rfl hn hl.1 hst (lv_room hsum) hdg ⟨by have := C.2.2.2.2.2.2.2.2.2.2.2.2.2.1; omega, by have := C.2.2.2.2.2.2.2.2.2.2.2.2.2.2; omega⟩) kk
  simp only [wsV, List.mem_append, List.mem_cons, List.not_mem_nil, or_false] at hw
  rcases hw with (rfl | rfl | rfl | rfl) | rfl | hw
  · exact hl0
  · exact hi
  · exact hs
  · exact c2
  · exact c1
  · exact hw
theorem g_cn (C : CX Y X own nm cc nL ret d mc ms) {mt : MT} {np idx d' mc' ms' : Nat} {host : String} (hc : CLk mt np) (hl0 : (own, idx, mt.1, host) ∈ g_NM) (hd : d' + 1 ≤ d) : va_CN (cx_R X) (cx_s X) (cx_a X) own idx mt.1 host mt.2.1 mt.2.2.1 mt.2.2.2.1 (Cond.code mt.1 mt.2.1 mt.2.2.1 mt.2.2.2.1 :: g_WS) (g_room d' mc' ms') mc' ms' np := by
  obtain ⟨c1, c2, c3, c4⟩ := hc
  refine va_cnB np C.2.2.2.2.1 (g_good (fun w hw => ?_)) rfl rfl rfl (C.2.2.2.2.2.2.2.1.2.2.1 _ hl0) (C.2.2.2.2.1 _ c2) c3 (g_roomOk C hd c4)
  rcases List.mem_cons.mp hw with rfl | hw
  · exact c1
  · exact hw
theorem r_callVN (C : CX Y X own nm cc nL ret d mc ms) {mt : MT} {np idx d' mc' ms' k ci : Nat} {host : String} {q : vw_C} {as stk : List Value} {P : PT} (hM : OkW Y d' mc' ms' mt (.ref (gl_b Y + k) :: as) rv iv av n P) (hc : CLk mt np) (hl0 : (own, idx, mt.1, host) ∈ g_NM) (hi : Cond.instanceMethod mt.1 ∈ g_WS) (hs : Cond.selects mt.1.cls mt.1 mt.1 ∈ g_WS)
    (hd : d' + 1 ≤ d) (hmc : ce + mc' ≤ mc) (hms : sl + ms' ≤ ms) (hn : as.length = np) (hk : k < n) (hkc : kc k = ci) (h100 : ci < 100) (hcl : vwCl[ci]? = some q) (hq1 : q.1 = mt.1.cls) (hst : stk = as.reverse ++ .ref (gl_b Y + k) :: st) (hsum : (st.map fun v => v.category).sum ≤ 8) (hdg : decode cc pc = .ok (.invokevirtual idx, 3))
    (kk : ∀ (r : Int) (rv' : RVt) (iv' av' : IVt) (n' : Nat), g_rr mt.2.2.2.2 r → P r rv' iv' av' n' → Wa Y X nL Q (ce + mc') (sl + ms') (pc + 3) ls ((g_rv Y mt.2.2.2.2 r).toList ++ st) rv' iv' av' n') : Wa Y X nL Q ce sl pc ls stk rv iv av n := by
  intro H lo la hz hP hS hl hR
  have hpre := g_preV C hz hP hS as hk hkc h100 hcl
  rw [hq1] at hpre
  exact g_tail hS hl (va_runVN (Ts := g_WS) (As := as) (rest := st) ⟨C.1, C.2.1, C.2.2.1, C.2.2.2.1, C.2.2.2.2.1⟩ (hM hR) ⟨g_cn C hc hl0 hd, C.2.2.2.2.1 _ hi, C.2.2.2.2.1 _ hs⟩ hpre rfl hn hl.1 hst (lv_room hsum) hdg ⟨by have := C.2.2.2.2.2.2.2.2.2.2.2.2.2.1; omega, by have := C.2.2.2.2.2.2.2.2.2.2.2.2.2.2; omega⟩) kk
theorem r_callS (C : CX Y X own nm cc nL ret d mc ms) {mt : MT} {np idx d' mc' ms' : Nat} {as stk : List Value} {P : PT} (hM : OkW Y d' mc' ms' mt as rv iv av n P) (hc : CLk mt np) (hl0 : Cond.methodLink own idx mt.1 ∈ g_WS) (hi : Cond.static mt.1 ∈ g_WS)
    (hd : d' + 1 ≤ d) (hmc : ce + mc' ≤ mc) (hms : sl + ms' ≤ ms) (hn : as.length = np) (hst : stk = as.reverse ++ st) (hsum : (st.map fun v => v.category).sum ≤ 8) (hdg : decode cc pc = .ok (.invokestatic idx, 3))
    (kk : ∀ (r : Int) (rv' : RVt) (iv' av' : IVt) (n' : Nat), g_rr mt.2.2.2.2 r → P r rv' iv' av' n' → Wa Y X nL Q (ce + mc') (sl + ms') (pc + 3) ls ((g_rv Y mt.2.2.2.2 r).toList ++ st) rv' iv' av' n') : Wa Y X nL Q ce sl pc ls stk rv iv av n := by
  intro H lo la hz hP hS hl hR
  obtain ⟨c1, c2, c3, c4⟩ := hc
  refine g_tail hS hl (va_runS (Ts := g_WS) (As := as) (rest := st) ⟨C.1, C.2.1, C.2.2.1, C.2.2.2.1, C.2.2.2.2.1⟩ (hM hR) (va_cwS np C.2.2.2.2.1 (g_good (fun w hw => ?_)) rfl rfl rfl c3 (g_roomOk C hd c4)) (g_preS C hz hP hS as) rfl hn hl.1 hst (lv_room hsum) hdg ⟨by have := C.2.2.2.2.2.2.2.2.2.2.2.2.2.1; omega, by have := C.2.2.2.2.2.2.2.2.2.2.2.2.2.2; omega⟩) kk
  simp only [va_wsS, List.mem_append, List.mem_cons, List.not_mem_nil, or_false] at hw
  rcases hw with (rfl | rfl | rfl) | rfl | hw
  · exact hl0
  · exact hi
  · exact c2
  · exact c1
  · exact hw
theorem r_callSN (C : CX Y X own nm cc nL ret d mc ms) {mt : MT} {np idx d' mc' ms' : Nat} {host : String} {as stk : List Value} {P : PT} (hM : OkW Y d' mc' ms' mt as rv iv av n P) (hc : CLk mt np) (hl0 : (own, idx, mt.1, host) ∈ g_NM) (hi : Cond.static mt.1 ∈ g_WS)
    (hd : d' + 1 ≤ d) (hmc : ce + mc' ≤ mc) (hms : sl + ms' ≤ ms) (hn : as.length = np) (hst : stk = as.reverse ++ st) (hsum : (st.map fun v => v.category).sum ≤ 8) (hdg : decode cc pc = .ok (.invokestatic idx, 3))
    (kk : ∀ (r : Int) (rv' : RVt) (iv' av' : IVt) (n' : Nat), g_rr mt.2.2.2.2 r → P r rv' iv' av' n' → Wa Y X nL Q (ce + mc') (sl + ms') (pc + 3) ls ((g_rv Y mt.2.2.2.2 r).toList ++ st) rv' iv' av' n') : Wa Y X nL Q ce sl pc ls stk rv iv av n := by
  intro H lo la hz hP hS hl hR
  exact g_tail hS hl (va_runSN (Ts := g_WS) (As := as) (rest := st) ⟨C.1, C.2.1, C.2.2.1, C.2.2.2.1, C.2.2.2.2.1⟩ (hM hR) ⟨g_cn C hc hl0 hd, C.2.2.2.2.1 _ hi, trivial⟩ (g_preS C hz hP hS as) rfl hn hl.1 hst (lv_room hsum) hdg ⟨by have := C.2.2.2.2.2.2.2.2.2.2.2.2.2.1; omega, by have := C.2.2.2.2.2.2.2.2.2.2.2.2.2.2; omega⟩) kk
theorem r_callI (C : CX Y X own nm cc nL ret d mc ms) {y : MethodName} {cb : ByteArray} {mL : Nat} {np idx d' mc' ms' k : Nat} {as stk : List Value} {P : PT} (hM : OkW Y d' mc' ms' (y, cb, mL, none, 0) (.ref (gl_b Y + k) :: as) rv iv av n P) (hc : CLk (y, cb, mL, none, 0) np) (hy : y.name = "<init>") (hl0 : Cond.methodLink own idx y ∈ g_WS) (hi : Cond.instanceMethod y ∈ g_WS)
    (hd : d' + 1 ≤ d) (hmc : ce + mc' ≤ mc) (hms : sl + ms' ≤ ms) (hn : as.length = np) (hst : stk = as.reverse ++ .ref (gl_b Y + k) :: st) (hsum : (st.map fun v => v.category).sum ≤ 8) (hdg : decode cc pc = .ok (.invokespecial idx, 3))
    (kk : ∀ (r : Int) (rv' : RVt) (iv' av' : IVt) (n' : Nat), P r rv' iv' av' n' → Wa Y X nL Q (ce + mc') (sl + ms') (pc + 3) ls st rv' iv' av' n') : Wa Y X nL Q ce sl pc ls stk rv iv av n := by
  intro H lo la hz hP hS hl hR
  obtain ⟨c1, c2, c3, c4⟩ := hc
  refine g_tail (κ := 0) hS hl (va_runI (Ts := g_WS) (As := as) (rest := st) ⟨C.1, C.2.1, C.2.2.1, C.2.2.2.1, C.2.2.2.2.1⟩ (hM hR) (cwI np C.2.2.2.2.1 (g_good (fun w hw => ?_)) rfl rfl rfl (C.2.2.2.2.1 _ c2) (C.2.2.2.2.1 _ hl0) (C.2.2.2.2.1 _ hi) hy c3 (g_roomOk C hd c4)) (g_preS C hz hP hS _) rfl hn hl.1 hst (lv_room hsum) hdg ⟨by have := C.2.2.2.2.2.2.2.2.2.2.2.2.2.1; omega, by have := C.2.2.2.2.2.2.2.2.2.2.2.2.2.2; omega⟩) (fun r rv' iv' av' n' _ hp => kk r rv' iv' av' n' hp)
  rcases List.mem_cons.mp hw with rfl | hw
  · exact c1
  · exact hw
theorem r_callIN (C : CX Y X own nm cc nL ret d mc ms) {y : MethodName} {cb : ByteArray} {mL : Nat} {host : String} {np idx d' mc' ms' k : Nat} {as stk : List Value} {P : PT} (hM : OkW Y d' mc' ms' (y, cb, mL, none, 0) (.ref (gl_b Y + k) :: as) rv iv av n P) (hc : CLk (y, cb, mL, none, 0) np) (hy : y.name = "<init>") (hl0 : (own, idx, y, host) ∈ g_NM) (hi : Cond.instanceMethod y ∈ g_WS)
    (hd : d' + 1 ≤ d) (hmc : ce + mc' ≤ mc) (hms : sl + ms' ≤ ms) (hn : as.length = np) (hst : stk = as.reverse ++ .ref (gl_b Y + k) :: st) (hsum : (st.map fun v => v.category).sum ≤ 8) (hdg : decode cc pc = .ok (.invokespecial idx, 3))
    (kk : ∀ (r : Int) (rv' : RVt) (iv' av' : IVt) (n' : Nat), P r rv' iv' av' n' → Wa Y X nL Q (ce + mc') (sl + ms') (pc + 3) ls st rv' iv' av' n') : Wa Y X nL Q ce sl pc ls stk rv iv av n := by
  intro H lo la hz hP hS hl hR
  exact g_tail (κ := 0) hS hl (va_runIN (Ts := g_WS) (As := as) (rest := st) ⟨C.1, C.2.1, C.2.2.1, C.2.2.2.1, C.2.2.2.2.1⟩ (hM hR) ⟨g_cn C hc hl0 hd, hy, C.2.2.2.2.1 _ hi⟩ (g_preS C hz hP hS _) rfl hn hl.1 hst (lv_room hsum) hdg ⟨by have := C.2.2.2.2.2.2.2.2.2.2.2.2.2.1; omega, by have := C.2.2.2.2.2.2.2.2.2.2.2.2.2.2; omega⟩) (fun r rv' iv' av' n' _ hp => kk r rv' iv' av' n' hp)
/-! JDK members -/
theorem r_max (C : CX Y X own nm cc nL ret d mc ms) {idx : Nat} {x y : Int} (hl0 : Cond.methodLink own idx Lib.Math.max.name ∈ g_WS) (hs : Cond.static Lib.Math.max.name ∈ g_WS) (hi : Cond.initialized "java/lang/Math" ∈ g_WS) (hco : Cond.code Lib.Math.max.name Lib.Math.max.code 2 (some .int) ∈ g_WS) (hd : 1 ≤ d) (hsum : (st.map fun v => v.category).sum ≤ 8) (hce : ce ≤ mc) (hsl : sl ≤ ms) (hx : InR x) (hy : InR y) (hdg : decode cc pc = .ok (.invokestatic idx, 3)) (hq : pc + 3 = pc')
    (kk : Wa Y X nL Q ce sl pc' ls (.int (i32 (max x y)) :: st) rv iv av n) : Wa Y X nL Q ce sl pc ls (.int (i32 y) :: .int (i32 x) :: st) rv iv av n := by
  subst hq
  intro H lo la hz hP hS hl hR
  have h1 := C.2.2.2.2.2.2.2.2.2.2.2.1
  have h2 := C.2.2.2.2.2.2.2.2.2.2.2.2.1
  have h3 := C.2.2.2.2.2.2.2.2.2.2.2.2.2.1
  have h4 := C.2.2.2.2.2.2.2.2.2.2.2.2.2.2
  refine va_mmax C.1 C.2.1 (C.2.2.1.trans hl.1.symm) C.2.2.2.1 (C.2.2.2.2.1 _ hl0) (C.2.2.2.2.1 _ hs) (C.2.2.2.2.1 _ hi) (C.2.2.2.2.1 _ hco) (by omega) (by omega) (by omega) (by omega) hdg ?_
  have e : (if i32 x < i32 y then i32 y else i32 x) = i32 (max x y) := by
    simp only [i32_lt hx hy]
    split
    · congr 1; omega
    · congr 1; omega
  rw [e]
  exact kk H lo la hz hP hS hl hR
theorem r_min (C : CX Y X own nm cc nL ret d mc ms) {idx : Nat} {x y : Int} (hl0 : Cond.methodLink own idx Lib.Math.min.name ∈ g_WS) (hs : Cond.static Lib.Math.min.name ∈ g_WS) (hi : Cond.initialized "java/lang/Math" ∈ g_WS) (hco : Cond.code Lib.Math.min.name Lib.Math.min.code 2 (some .int) ∈ g_WS) (hd : 1 ≤ d) (hsum : (st.map fun v => v.category).sum ≤ 8) (hce : ce ≤ mc) (hsl : sl ≤ ms) (hx : InR x) (hy : InR y) (hdg : decode cc pc = .ok (.invokestatic idx, 3)) (hq : pc + 3 = pc')
    (kk : Wa Y X nL Q ce sl pc' ls (.int (i32 (min x y)) :: st) rv iv av n) : Wa Y X nL Q ce sl pc ls (.int (i32 y) :: .int (i32 x) :: st) rv iv av n := by
  subst hq
  intro H lo la hz hP hS hl hR
  have h1 := C.2.2.2.2.2.2.2.2.2.2.2.1
  have h2 := C.2.2.2.2.2.2.2.2.2.2.2.2.1
  have h3 := C.2.2.2.2.2.2.2.2.2.2.2.2.2.1
  have h4 := C.2.2.2.2.2.2.2.2.2.2.2.2.2.2
  refine va_mmin C.1 C.2.1 (C.2.2.1.trans hl.1.symm) C.2.2.2.1 (C.2.2.2.2.1 _ hl0) (C.2.2.2.2.1 _ hs) (C.2.2.2.2.1 _ hi) (C.2.2.2.2.1 _ hco) (by omega) (by omega) (by omega) (by omega) hdg ?_
  have e : (if i32 y < i32 x then i32 y else i32 x) = i32 (min x y) := by
    simp only [i32_lt hy hx]
    split
    · congr 1; omega
    · congr 1; omega
  rw [e]
  exact kk H lo la hz hP hS hl hR
theorem r_minL (C : CX Y X own nm cc nL ret d mc ms) {idx : Nat} {x y : Int} (hl0 : Cond.methodLink own idx Lib.MathLoose.min_long.x ∈ g_WS) (hs : Cond.static Lib.MathLoose.min_long.x ∈ g_WS) (hi : Cond.initialized "java/lang/Math" ∈ g_WS) (hco : Cond.code Lib.MathLoose.min_long.x Lib.MathLoose.min_long.code 4 (some .long) ∈ g_WS) (hd : 1 ≤ d) (hsum : (st.map fun v => v.category).sum ≤ 8) (hce : ce ≤ mc) (hsl : sl ≤ ms) (hx : InL x) (hy : InL y) (hdg : decode cc pc = .ok (.invokestatic idx, 3)) (hq : pc + 3 = pc')
    (kk : Wa Y X nL Q ce sl pc' ls (.long (i64 (min x y)) :: st) rv iv av n) : Wa Y X nL Q ce sl pc ls (.long (i64 y) :: .long (i64 x) :: st) rv iv av n := by
  subst hq
  intro H lo la hz hP hS hl hR
  have h1 := C.2.2.2.2.2.2.2.2.2.2.2.1
  have h2 := C.2.2.2.2.2.2.2.2.2.2.2.2.1
  have h3 := C.2.2.2.2.2.2.2.2.2.2.2.2.2.1
  have h4 := C.2.2.2.2.2.2.2.2.2.2.2.2.2.2
  refine va_mmin_long C.1 C.2.1 (C.2.2.1.trans hl.1.symm) C.2.2.2.1 (C.2.2.2.2.1 _ hl0) (C.2.2.2.2.1 _ hs) (C.2.2.2.2.1 _ hi) (C.2.2.2.2.1 _ hco) (by omega) (by omega) (by omega) (by omega) hdg ?_
  have e : (if i64 y < i64 x then i64 y else i64 x) = i64 (min x y) := by
    simp only [i64_lt hy hx]
    split
    · congr 1; omega
    · congr 1; omega
  rw [e]
  exact kk H lo la hz hP hS hl hR
theorem g_nfw : nativeFrameWords "java/lang/System" "arraycopy" 5 + 11 ≤ 50 := by decide +kernel
theorem i32_cpy {f g : Nat → Int} {sp dp m : Nat} : va_cpy (fun i => i32 (f i)) (fun i => i32 (g i)) sp dp m = fun i => i32 (va_cpy f g sp dp m i) := by
  funext i
  unfold va_cpy
  split <;> rfl
/-- System.arraycopy of bytes -/
theorem r_copy (C : CX Y X own nm cc nL ret d mc ms) {idx k0 k1 : Nat} {sp dp m : Int} (hl0 : Cond.methodLink own idx arraycopyName ∈ g_WS) (hna : Cond.native arraycopyName ∈ g_WS) (hs : Cond.static arraycopyName ∈ g_WS) (hi : Cond.initialized "java/lang/System" ∈ g_WS) (hd : 1 ≤ d) (hsum : (st.map fun v => v.category).sum ≤ 8)
    (hk0 : k0 < n) (hc0 : kc k0 = 101) (hk1 : k1 < n) (hc1 : kc k1 = 101) (h1 : 0 ≤ sp) (h2 : 0 ≤ dp) (h3 : 0 ≤ m) (h4 : sp + m ≤ kl k0) (h5 : dp + m ≤ kl k1) (hdg : decode cc pc = .ok (.invokestatic idx, 3)) (hq : pc + 3 = pc')
    (kk : Wa Y X nL Q ce sl pc' ls st rv iv (upA av k1 (va_cpy (av k0) (av k1) sp.toNat dp.toNat m.toNat)) n) : Wa Y X nL Q ce sl pc ls (.int (i32 m) :: .int (i32 dp) :: .ref (gl_b Y + k1) :: .int (i32 sp) :: .ref (gl_b Y + k0) :: st) rv iv av n := by
  subst hq
  intro H lo la hz hP hS hl hR
  have hkl0 := kl_le k0
  have hkl1 := kl_le k1
  have r1 : InR sp := by omega
  have r2 : InR dp := by omega
  have r3 : InR m := by omega
  have g1 := C.2.2.2.2.2.2.2.2.2.2.2.1
  have g2 := C.2.2.2.2.2.2.2.2.2.2.2.2.1
  have hnf := g_nfw
  have hbk0 : ∀ i, -128 ≤ av k0 i ∧ av k0 i ≤ 127 := fun i => by
    have h := hR.2 k0 i
    unfold tyR at h
    rwa [hc0, if_pos rfl] at h
  have hav : Rng iv (upA av k1 (va_cpy (av k0) (av k1) sp.toNat dp.toNat m.toNat)) := by
    refine ⟨hR.1, fun k' i' => ?_⟩
    by_cases hk' : k' = k1
    · subst hk'
      rw [upA_eq]
      unfold va_cpy
      split
      · have h := hR.2 k0 (sp.toNat + (i' - dp.toNat))
        rw [hc0] at h
        rw [hc1]
        exact h
      · exact hR.2 _ _
    · rw [upA_ne hk']
      exact hR.2 _ _
  intro T hT X0
  have e0 : H[gl_b Y + k0]? = some (vp_cell (g_ac Y 101) (kl k0, .inl (fun i => i32 (av k0 i)))) := hP k0 _ (g_wsA hk0 hc0 (by omega))
  have e1 : H[gl_b Y + k1]? = some (vp_cell (g_ac Y 101) (kl k1, .inl (fun i => i32 (av k1 i)))) := hP k1 _ (g_wsA hk1 hc1 (by omega))
  obtain ⟨-, kA, hkA, cm, hkk⟩ := (C.2.2.2.2.2.1.2 1 _ rfl).1 (kl k0) (fun j => .int (i32 (av k0 j)))
  have hge : ∀ k : Nat, ((arrV (g_ac Y 101) (kl k) (fun j => .int (i32 (av k j)))).slots.size : Int) = kl k := fun k => by rw [arrV_size]
  obtain ⟨vm', X', step⟩ := X0.arraycopy C.1 C.2.2.2.1 (C.2.2.2.2.1 _ hl0) (C.2.2.2.2.1 _ hna) (C.2.2.2.2.1 _ hs) (C.2.2.2.2.1 _ hi) (src := gl_b Y + k0) (dst := gl_b Y + k1) (cs := vp_cell (g_ac Y 101) (kl k0, .inl (fun i => i32 (av k0 i)))) (cd := vp_cell (g_ac Y 101) (kl k1, .inl (fun i => i32 (av k1 i)))) (srcPos := i32 sp) (destPos := i32 dp) (n := i32 m)
    (by rw [hT]; exact e0) (by rw [hT]; exact e1) (fun _ h => by cases h) (fun _ h => by cases h) (fun h => by cases h) (fun h => by cases h) hkA hkA hkk hkk (by rfl)
    (by rw [i32_0, i32_lt r1 inR0]; omega) (by rw [i32_0, i32_lt r2 inR0]; omega) (by rw [i32_0, i32_lt r3 inR0]; omega)
    (by rw [i32_toInt r1, i32_toInt r3]; have := hge k0; show ¬ _ > ((arrV (g_ac Y 101) (kl k0) (fun j => .int (i32 (av k0 j)))).slots.size : Int); omega)
    (by rw [i32_toInt r2, i32_toInt r3]; have := hge k1; show ¬ _ > ((arrV (g_ac Y 101) (kl k1) (fun j => .int (i32 (av k1 j)))).slots.size : Int); omega)
    (fun vm₁ _ i hi2 => by
      rw [i32_idx r3] at hi2
      have e : (vp_cell (g_ac Y 101) (kl k0, .inl (fun i => i32 (av k0 i)))).slots.getD ((i32 sp).toNatClampNeg + i) .null = .int (i32 (av k0 ((i32 sp).toNatClampNeg + i))) := by
        show (arrV (g_ac Y 101) (kl k0) (fun j => .int (i32 (av k0 j)))).slots.getD _ _ = _
        rw [Array.getD_eq_getD_getElem?, arrV_read _ _ (by rw [i32_idx r1]; omega)]
        rfl
      have hb := hbk0 ((i32 sp).toNatClampNeg + i)
      refine ⟨?_, ?_⟩
      · rw [e]
        show (decide (_ ≤ _) && decide (_ ≤ _)) = true
        rw [Bool.and_eq_true, decide_eq_true_eq, decide_eq_true_eq, show (-128 : Int32) = i32 (-128) from rfl, show (127 : Int32) = i32 127 from rfl, i32_le (by omega) (by omega), i32_le (by omega) (by omega)]
        exact hb
      · rw [e]
        exact trivial)
    (g := F0 (cx_m X) pc la (.int (i32 m) :: .int (i32 dp) :: .ref (gl_b Y + k1) :: .int (i32 sp) :: .ref (gl_b Y + k0) :: st)) rfl (by rw [C.2.2.1]; exact hl.1) (rest := st) rfl (by rw [C.2.1]; exact hdg) (by omega) (by show 2 * 0 + _ + _ ≤ _; omega)
  have hle : (i32 sp).toNatClampNeg + (i32 m).toNatClampNeg ≤ kl k0 := by rw [i32_idx r1, i32_idx r3]; omega
  have ec : copied (vp_cell (g_ac Y 101) (kl k0, .inl (fun i => i32 (av k0 i)))) (vp_cell (g_ac Y 101) (kl k1, .inl (fun i => i32 (av k1 i)))) (i32 sp) (i32 dp) (i32 m) = vp_cell (g_ac Y 101) (kl k1, .inl (va_cpy (fun i => i32 (av k0 i)) (fun i => i32 (av k1 i)) (i32 sp).toNatClampNeg (i32 dp).toNatClampNeg (i32 m).toNatClampNeg)) := va_copied (fun z => .int z) (g_ac Y 101) (g_ac Y 101) (fun i => i32 (av k0 i)) (fun i => i32 (av k1 i)) hle
  rw [ec, i32_idx r1, i32_idx r2, i32_idx r3, i32_cpy] at X' step
  have hlt : gl_b Y + k1 < H.size := by omega
  have oq : ∀ q : Nat, q ≠ gl_b Y + k1 → (H.setIfInBounds (gl_b Y + k1) (vp_cell (g_ac Y 101) (kl k1, .inl (fun i => i32 (va_cpy (av k0) (av k1) sp.toNat dp.toNat m.toNat i)))))[q]? = H[q]? := fun q hq => by simp [Array.getElem?_setIfInBounds, Ne.symm hq]
  have hP1 := va_P.set hP g_wsD (g_wsA hk1 hc1 (by omega)) (e := .inl (g_ac Y 101, kl k1, .inl (fun i => i32 (va_cpy (av k0) (av k1) sp.toNat dp.toNat m.toNat i)))) (H1 := H.setIfInBounds (gl_b Y + k1) (vp_cell (g_ac Y 101) (kl k1, .inl (fun i => i32 (va_cpy (av k0) (av k1) sp.toNat dp.toNat m.toNat i))))) (show (H.setIfInBounds _ _)[_]? = some _ by simp [Array.getElem?_setIfInBounds, hlt]) oq
  rw [g_wsSet (rv' := rv) (iv' := iv) (av' := upA av k1 (va_cpy (av k0) (av k1) sp.toNat dp.toNat m.toNat)) hk1 (by rw [g_cellA (by omega), hc1, upA_eq]) (fun j hj => g_cellNeA (upA_ne hj))] at hP1
  obtain ⟨t, a1, b1⟩ := kk _ _ la (by rw [Array.size_setIfInBounds]; exact hz) hP1 ⟨by rw [Array.size_setIfInBounds]; exact hS.1, fun q g1 g2 => by
      rw [oq q (fun e => g2 (by rw [e]; exact Nat.le_add_right _ _))]
      exact hS.2.1 q g1 g2, fun q hq => by
      rcases List.mem_append.mp hq with h | h
      · exact hS.2.2 q h
      · obtain ⟨z, -, hz2⟩ := List.mem_map.mp h
        rw [← hz2]
        exact Nat.le_add_right _ _⟩ hl hav _ (by rw [← hT]; rfl) X'
  exact ⟨t, step t a1, b1⟩
/-! the class's static row -/
theorem r_getst (C : CX Y X own nm cc nL ret d mc ms) {idx : Nat} (hlk : Cond.fieldLink own idx "SharedBlocks" "ORDER" "[I" ∈ g_WS) (hdg : decode cc pc = .ok (.getstatic idx, 3)) (hq : pc + 3 = pc')
    (kk : Wa Y X nL Q ce sl pc' ls (.ref (gl_o Y) :: st) rv iv av n) : Wa Y X nL Q ce sl pc ls st rv iv av n := by
  subst hq
  exact fun H lo la hz hP hS hl hR => va_gets C.1 C.2.1 C.2.2.2.2.2.2.2.1.1 hS C.2.2.2.1 (C.2.2.2.2.1 _ hlk) (fun _ h => h) hdg (kk H lo la hz hP hS hl hR)
theorem r_tlen (C : CX Y X own nm cc nL ret d mc ms) (hdg : decode cc pc = .ok (.arraylength, 1)) (hq : pc + 1 = pc')
    (kk : Wa Y X nL Q ce sl pc' ls (.int (i32 19) :: st) rv iv av n) : Wa Y X nL Q ce sl pc ls (.ref (gl_o Y) :: st) rv iv av n := by
  subst hq
  exact fun H lo la hz hP hS hl hR => va_tlen C.1 C.2.1 C.2.2.2.2.2.2.2.1.2.1 hS (by rfl) hdg (kk H lo la hz hP hS hl hR)
theorem r_tld (C : CX Y X own nm cc nL ret d mc ms) {i : Int} (hi : 0 ≤ i ∧ i < 19) (hdg : decode cc pc = .ok (.iaload, 1)) (hq : pc + 1 = pc')
    (kk : Wa Y X nL Q ce sl pc' ls (.int (i32 (g_ordL.getD i.toNat 0)) :: st) rv iv av n) : Wa Y X nL Q ce sl pc ls (.int (i32 i) :: .ref (gl_o Y) :: st) rv iv av n := by
  subst hq
  have r1 : InR i := by omega
  exact fun H lo la hz hP hS hl hR => va_ti C.1 C.2.1 C.2.2.2.2.2.2.2.1.2.1 hS (by unfold vp_in; rw [i32_idx r1, i32_0, i32_lt r1 inR0]; omega) (by rw [i32_idx r1]) hdg (kk H lo la hz hP hS hl hR)
/-! new cells -/
theorem r_objInit (C : CX Y X own nm cc nL ret d mc ms) {idx a : Nat} (hl0 : Cond.methodLink own idx Lib.objectInit ∈ g_WS) (hi : Cond.instanceMethod Lib.objectInit ∈ g_WS) (hco : Cond.code Lib.objectInit ⟨#[0xb1]⟩ 1 none ∈ g_WS) (hd : 1 ≤ d) (hsum : (st.map fun v => v.category).sum ≤ 8) (hdg : decode cc pc = .ok (.invokespecial idx, 3)) (hq : pc + 3 = pc')
    (kk : Wa Y X nL Q ce sl pc' ls st rv iv av n) : Wa Y X nL Q ce sl pc ls (.ref a :: st) rv iv av n := by
  subst hq
  have g1 := C.2.2.2.2.2.2.2.2.2.2.2.1
  have g2 := C.2.2.2.2.2.2.2.2.2.2.2.2.1
  exact fun H lo la hz hP hS hl hR => W.objInit C.1 C.2.1 C.2.2.2.1 (C.2.2.2.2.1 _ hl0) (C.2.2.2.2.1 _ hi) (C.2.2.2.2.1 _ hco) rfl (hl.1.trans C.2.2.1.symm) rfl hdg (by omega) (by show 2 * 0 + _ + 12 ≤ _; omega) (kk H lo la hz hP hS hl hR)
theorem g_wsPush {e : va_E} {rv' : RVt} {iv' av' : IVt} (he : g_cell Y rv' iv' av' n = e) (ho : ∀ j, j < n → g_cell Y rv' iv' av' j = g_cell Y rv iv av j) : g_ws Y rv iv av n ++ [(gl_b Y + n, e)] = g_ws Y rv' iv' av' (n + 1) := by
  unfold g_ws
  rw [List.range_succ, List.map_append]
  congr 1
  · apply List.map_congr_left
    intro j hj
    rw [ho j (List.mem_range.mp hj)]
  · simp [he]
/-- the class of a new object: its fields start as nothing -/
def NWk (own : String) (idx ci : Nat) : Prop := ∃ (Cn : String) (T : u_T) (N : Nat) (tys : Nat → FieldType), vwCl[ci]? = some (Cn, T, N) ∧ g_nf ci = N ∧ (∀ w ∈ u_ws Cn T N, w ∈ g_WS) ∧ (∀ k, k < N → parseFieldDescriptor (T k).2.2.1 = some (tys k)) ∧
  Cond.classLink own idx Cn ∈ g_WS ∧ Cond.instantiable Cn N ∈ g_WS ∧ Cond.initialized Cn ∈ g_WS ∧ ∀ j, j < N → defaultValue (tys j) = if g_fr ci j = 0 then .int 0 else .null
theorem r_new (C : CX Y X own nm cc nL ret d mc ms) {idx ci N0 : Nat} (F : NWk own idx ci) (hN0 : g_nf ci = N0) (hc : kc n = ci) (h100 : ci < 100) (hzr : ∀ j, rv n j = 0) (hzi : ∀ j, iv n j = 0) (hce : ce + 1 ≤ mc) (hsl : sl + N0 ≤ ms) (hdg : decode cc pc = .ok (.new idx, 3)) (hq : pc + 3 = pc')
    (kk : Wa Y X nL Q (ce + 1) (sl + N0) pc' ls (.ref (gl_b Y + n) :: st) rv iv av (n + 1)) : Wa Y X nL Q ce sl pc ls st rv iv av n := by
  subst hq
  intro H lo la hz hP hS hl hR
  obtain ⟨Cn, T, N, tys, h1, h2, h3, h4, h5, h6, h7, h8⟩ := F
  have hNN : N0 = N := hN0.symm.trans h2
  subst hNN
  have g3 := C.2.2.2.2.2.2.2.2.2.2.2.2.2.1
  have g4 := C.2.2.2.2.2.2.2.2.2.2.2.2.2.2
  have hKn := C.2.2.2.2.2.1.1 ci _ h1
  refine W.newcK C.1 C.2.1 C.2.2.2.1 (C.2.2.2.2.1 _ h5) (C.2.2.2.2.1 _ h6) (C.2.2.2.2.1 _ h7) rfl hdg (by omega) (by omega) hKn.2.1 hz fun H1 kC hkC e1 z1 o1 => ?_
  have hk : ∀ (k : Nat) (x : Nat × va_E), (g_ws Y rv iv av n)[k]? = some x → H1[x.1]? = H[x.1]? := fun k x hx => o1 x.1 (by have := (hP k x hx).lt; omega)
  have hP1 : va_P (gl_D Y) vwCl (g_ws Y rv iv av (n + 1)) H1 := by
    rw [← g_wsPush (rv := rv) (iv := iv) (av := av) rfl (fun _ _ => rfl)]
    refine (hP.kept hk).app (fun k x hx => ?_)
    have hk0 : k < 1 := (List.getElem?_eq_some_iff.mp hx).1
    rw [show k = 0 by omega] at hx
    cases hx
    rw [g_cellO (by omega), hc]
    refine ⟨_, h1, (u_born tys C.2.2.2.2.1 h3 hKn hkC e1 h4).to (fun j hj => ?_)⟩
    show _ = vp_V _ j
    unfold vp_V
    rw [h8 j hj, List.getD_eq_getElem?_getD, g_rangeAt _ (by rw [h2]; exact hj)]
    show _ = g_fv Y rv iv n j
    unfold g_fv
    rw [hc, hzr, hzi]
    split
    · rfl
    · split <;> rfl
  exact kk H1 lo la (by omega) hP1 ⟨Nat.le_trans hS.1 (by omega), fun x g1 g2 => (o1 x (by have := hS.1; omega)).trans (hS.2.1 x g1 g2), hS.2.2⟩ hl hR
theorem g_newarr (C : CX Y X own nm cc nL ret d mc ms) {atype : ArrayType} {ty : FieldType} {c t0 : Nat} {m : Int} (harr : Cond.arrayClass ty ∈ g_WS) (hty : newarray.typeOf atype = ty) (ht : (g_tys Y)[t0]? = some (g_ac Y c, ty)) (hnm : "[" ++ ty.toString = "[" ++ (newarray.typeOf atype).toString) (hra : va_RA (cx_s X) (g_ac Y c) ty → (cx_s X).vm.findClass ("[" ++ ty.toString) = some (g_ac Y c)) (hdv : defaultValue ty = .int 0) (hcb : componentBytes ty ≤ 4)
    (hc : kc n = c) (h100 : 100 ≤ c) (hm : m = kl n) (hzi : ∀ j, av n j = 0) (hce : ce + 1 ≤ mc) (hsl : sl + kl n ≤ ms) (hdg : decode cc pc = .ok (.newarray atype, 2)) (hq : pc + 2 = pc')
    (kk : Wa Y X nL Q (ce + 1) (sl + kl n) pc' ls (.ref (gl_b Y + n) :: st) rv iv av (n + 1)) : Wa Y X nL Q ce sl pc ls (.int (i32 m) :: st) rv iv av n := by
  subst hq; subst hty
  intro H lo la hz hP hS hl hR
  have hkl := kl_le n
  have r1 : InR m := by omega
  have g3 := C.2.2.2.2.2.2.2.2.2.2.2.2.2.1
  have g4 := C.2.2.2.2.2.2.2.2.2.2.2.2.2.2
  refine va_newaK C.1 C.2.1 (C.2.2.2.2.1 _ harr) rfl hdg rfl (by rw [i32_0, i32_lt r1 inR0]; omega) (N := kl n) (by rw [i32_idx r1]; omega) (Nat.le_trans (Nat.mul_le_mul_left _ hcb) (by omega)) (by omega) (by omega) hz fun H1 cA e1 z1 o1 hAr hNm => ?_
  have hcA : cA = g_ac Y c := by
    have h := hra (C.2.2.2.2.2.1.2 t0 _ ht).2
    rw [hNm] at h
    exact Option.some.inj h
  subst hcA
  have hk : ∀ (k : Nat) (x : Nat × va_E), (g_ws Y rv iv av n)[k]? = some x → H1[x.1]? = H[x.1]? := fun k x hx => o1 x.1 (by have := (hP k x hx).lt; omega)
  have hP1 : va_P (gl_D Y) vwCl (g_ws Y rv iv av (n + 1)) H1 := by
    rw [← g_wsPush (rv := rv) (iv := iv) (av := av) rfl (fun _ _ => rfl)]
    refine (hP.kept hk).app (fun k x hx => ?_)
    have hk0 : k < 1 := (List.getElem?_eq_some_iff.mp hx).1
    rw [show k = 0 by omega] at hx
    cases hx
    rw [g_cellA (by omega), hc]
    show H1[gl_b Y + n]? = some (vp_cell _ _)
    rw [vp_cell_i, e1, hdv]
    congr 2
    funext j
    rw [hzi]
    rfl
  exact kk H1 lo la (by omega) hP1 ⟨Nat.le_trans hS.1 (by omega), fun x g1 g2 => (o1 x (by have := hS.1; omega)).trans (hS.2.1 x g1 g2), hS.2.2⟩ hl hR
theorem r_newI (C : CX Y X own nm cc nL ret d mc ms) {m : Int} (harr : Cond.arrayClass .int ∈ g_WS) (hc : kc n = 100) (hm : m = kl n) (hzi : ∀ j, av n j = 0) (hce : ce + 1 ≤ mc) (hsl : sl + kl n ≤ ms) (hdg : decode cc pc = .ok (.newarray .int, 2)) (hq : pc + 2 = pc')
    (kk : Wa Y X nL Q (ce + 1) (sl + kl n) pc' ls (.ref (gl_b Y + n) :: st) rv iv av (n + 1)) : Wa Y X nL Q ce sl pc ls (.int (i32 m) :: st) rv iv av n :=
  g_newarr C harr rfl (t0 := 0) rfl rfl (fun h => h) rfl (by decide) hc (by omega) hm hzi hce hsl hdg hq kk
theorem r_newB (C : CX Y X own nm cc nL ret d mc ms) {m : Int} (harr : Cond.arrayClass .byte ∈ g_WS) (hc : kc n = 101) (hm : m = kl n) (hzi : ∀ j, av n j = 0) (hce : ce + 1 ≤ mc) (hsl : sl + kl n ≤ ms) (hdg : decode cc pc = .ok (.newarray .byte, 2)) (hq : pc + 2 = pc')
    (kk : Wa Y X nL Q (ce + 1) (sl + kl n) pc' ls (.ref (gl_b Y + n) :: st) rv iv av (n + 1)) : Wa Y X nL Q ce sl pc ls (.int (i32 m) :: st) rv iv av n :=
  g_newarr C harr rfl (t0 := 1) rfl rfl (fun h => h) rfl (by decide) hc (by omega) hm hzi hce hsl hdg hq kk
theorem r_newZ (C : CX Y X own nm cc nL ret d mc ms) {m : Int} (harr : Cond.arrayClass .boolean ∈ g_WS) (hc : kc n = 102) (hm : m = kl n) (hzi : ∀ j, av n j = 0) (hce : ce + 1 ≤ mc) (hsl : sl + kl n ≤ ms) (hdg : decode cc pc = .ok (.newarray .boolean, 2)) (hq : pc + 2 = pc')
    (kk : Wa Y X nL Q (ce + 1) (sl + kl n) pc' ls (.ref (gl_b Y + n) :: st) rv iv av (n + 1)) : Wa Y X nL Q ce sl pc ls (.int (i32 m) :: st) rv iv av n :=
  g_newarr C harr rfl (t0 := 2) rfl rfl (fun h => h) rfl (by decide) hc (by omega) hm hzi hce hsl hdg hq kk
end Rows4
