/-! The law's start: what the start gives of texts, statics and classes, and that it stays. -/
def z_fl : List Cond := flatC (Jvm.Cond.and given_1 narrow_1)
def z_ow (j : Nat) : String × Nat × String × Nat := zsr.getD j ("", 0, "", 0)
def z_tm (j : Nat) : Term := .string (z_ow j).1 (z_ow j).2.1
def z_ps : List Nat := [50, 324, 349, 378, 506, 535, 203, 297, 230, 257, 465, 422, 171, 181, 191, 83, 95, 103, 111, 121, 131, 142, 150, 161, 663, 674, 685, 566, 579, 588, 597, 608, 619, 631, 640, 652]
def z_sL (t : Term) (bs : List Int32) : List Cond := .exactly t "java/lang/String" :: .eq (.field t "java/lang/String" "coder" "B") (.int 0) :: .arrayOf (.field t "java/lang/String" "value" "[B") .byte :: .eq (.length (.field t "java/lang/String" "value" "[B")) (.int (Int32.ofNat bs.length)) :: (List.range bs.length).map (fun j => .eq (.elem (.field t "java/lang/String" "value" "[B") (.int (Int32.ofNat j))) (.int (bs.getD j 0)))
theorem z_sc : ∀ j, j < 36 → (z_fl.drop (z_ps.getD j 0)).take (4 + (zsb j).length) = z_sL (z_tm j) (zsb j) := by decide +kernel
theorem z_sr : ∀ q ∈ zsr, Cond.stringRef q.1 q.2.1 q.2.2.1 ∈ lw_tbl := by decide +kernel
theorem z_sq : ∀ q ∈ zsr, q.2.2.2 < 36 ∧ z_ow q.2.2.2 = q := by decide +kernel
theorem z_sl : ∀ j, j < 36 → (zsb j).length < 2 ^ 31 := by decide +kernel
