/-! A SMALL MACHINE over the kit's W. A heap is a function from addresses to cells (tag, contents): tags 0 to 12 are the classes of vwCl, 20 to 25 arrays. mm_G: from here the method comes to its told end. mm_Cn: a method's contract at given arguments and heap. -/
theorem mm_in0 : ∀ w ∈ wsX00, w ∈ lw_tbl := by decide +kernel
theorem mm_in1 : ∀ w ∈ wsX10, w ∈ lw_tbl := by decide +kernel
theorem mm_in2 : ∀ w ∈ wsX20, w ∈ lw_tbl := by decide +kernel
theorem mm_in3 : ∀ w ∈ wsX30, w ∈ lw_tbl := by decide +kernel
theorem mm_in4 : ∀ w ∈ wsX40, w ∈ lw_tbl := by decide +kernel
theorem mm_in5 : ∀ w ∈ wsX50, w ∈ lw_tbl := by decide +kernel
theorem mm_in6 : ∀ w ∈ wsX60, w ∈ lw_tbl := by decide +kernel
theorem mm_in7 : ∀ w ∈ wsX70, w ∈ lw_tbl := by decide +kernel
theorem mm_in8 : ∀ w ∈ wsX80, w ∈ lw_tbl := by decide +kernel
theorem mm_in9 : ∀ w ∈ wsX90, w ∈ lw_tbl := by decide +kernel
theorem mm_in10 : ∀ w ∈ wsX100, w ∈ lw_tbl := by decide +kernel
theorem mm_in11 : ∀ w ∈ wsX110, w ∈ lw_tbl := by decide +kernel
theorem mm_in12 : ∀ w ∈ wsX120, w ∈ lw_tbl := by decide +kernel
/-- what the printed tables say of every class -/
def mm_clsok (q : vw_C) : Prop := (∀ w ∈ u_ws q.1 q.2.1 q.2.2, w ∈ lw_tbl) ∧ (∀ a, a < q.2.2 → ∀ b, b < q.2.2 → a ≠ b → (q.2.1 a).2.1 ≠ (q.2.1 b).2.1) ∧ ∃ ty : Nat → FieldType, ∀ k, k < q.2.2 → parseFieldDescriptor (q.2.1 k).2.2.1 = some (ty k)
theorem mm_cls : ∀ (t : Nat) (q : vw_C), vwCl[t]? = some q → mm_clsok q := by
  intro t q h
  match t, h with
  | 0, h => cases h; exact ⟨mm_in0, nmX0, tyX0, tyX0_ok⟩
  | 1, h => cases h; exact ⟨mm_in1, nmX1, tyX1, tyX1_ok⟩
  | 2, h => cases h; exact ⟨mm_in2, nmX2, tyX2, tyX2_ok⟩
  | 3, h => cases h; exact ⟨mm_in3, nmX3, tyX3, tyX3_ok⟩
  | 4, h => cases h; exact ⟨mm_in4, nmX4, tyX4, tyX4_ok⟩
  | 5, h => cases h; exact ⟨mm_in5, nmX5, tyX5, tyX5_ok⟩
  | 6, h => cases h; exact ⟨mm_in6, nmX6, tyX6, tyX6_ok⟩
  | 7, h => cases h; exact ⟨mm_in7, nmX7, tyX7, tyX7_ok⟩
  | 8, h => cases h; exact ⟨mm_in8, nmX8, tyX8, tyX8_ok⟩
  | 9, h => cases h; exact ⟨mm_in9, nmX9, tyX9, tyX9_ok⟩
  | 10, h => cases h; exact ⟨mm_in10, nmX10, tyX10, tyX10_ok⟩
  | 11, h => cases h; exact ⟨mm_in11, nmX11, tyX11, tyX11_ok⟩
  | 12, h => cases h; exact ⟨mm_in12, nmX12, tyX12, tyX12_ok⟩
  | t + 13, h => simp [vwCl] at h
