/-! Bytes: what its methods do. -/
section SBytes
variable {Y : Gl} {e k : Nat} {iv av : IVt}
abbrev Same (iv av : IVt) (r0 : Int) : PN := fun r iv' av' => r = r0 ∧ iv' = iv ∧ av' = av
theorem s_X2_count (K : BytesK k) : OkN Y e mX2_count [.ref (gl_b Y + k)] RV iv av 116 (Same iv av (iv k 1)) := by
  refine o_X2_count K ?_
  intro _
  exact ⟨rfl, rfl, rfl⟩
theorem s_X2_room (K : BytesK k) (h : 0 ≤ iv k 1) : OkN Y e mX2_room [.ref (gl_b Y + k)] RV iv av 116 (Same iv av (kl (k + 1) - iv k 1)) := by
  refine o_X2_room K ?_
  have := kl_le (k + 1)
  grind
def b_at (iv av : IVt) (k : Nat) (i : Int) : Int := if 0 ≤ i ∧ i < iv k 1 ∧ i < kl (k + 1) then av (k + 1) i.toNat % 256 else 0
theorem s_X2_at (K : BytesK k) {x : Int} (hx : InR x) : OkN Y e mX2_at [.ref (gl_b Y + k), .int (i32 x)] RV iv av 116 (Same iv av (b_at iv av k x)) := by
  refine o_X2_at K hx ?_
  unfold b_at
  grind
theorem s_X2_add (K : BytesK k) {x : Int} (h0 : 0 ≤ iv k 1) (h1 : iv k 1 < kl (k + 1)) : OkN Y e mX2_add [.ref (gl_b Y + k), .int (i32 x)] RV iv av 116 (fun r iv' av' => iv' = up2 iv k 1 (iv k 1 + 1) ∧ av' = up2 av (k + 1) (iv k 1).toNat (bm8 x)) := by
  refine o_X2_add K ?_
  have := kl_le (k + 1)
  have hb : bm8 (bm8 x) = bm8 x := by simp [bm8]
  grind
theorem s_X2_keep (K : BytesK k) {x : Int} (hx : InR x) : OkN Y e mX2_keep [.ref (gl_b Y + k), .int (i32 x)] RV iv av 116 (fun r iv' av' => iv' = (if 0 ≤ x ∧ x < iv k 1 then up2 iv k 1 x else iv) ∧ av' = av) := by
  refine o_X2_keep K hx ?_
  grind
end SBytes
