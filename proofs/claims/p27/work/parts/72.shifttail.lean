/-! The tail of shift of the class: what is owed for it. -/
theorem w_cshT {X : Scr} {dp : Nat} {h : Hp} {Q : Option Value → Hp → Prop} (t : Int32) (i : Int32) (o : Int32) (j : Int32) (n : Int32) (hs : HS h)
    (vc : (∃ b1 : Nat, (inB t 6 = true ∧ (h.2.2.2 56 t.toNatClampNeg = some b1 ∧ (b1 < 1000 ∧ (∃ b5 : Nat, (inB o 6 = true ∧ (h.2.2.2 56 o.toNatClampNeg = some b5 ∧ (b5 < 1000 ∧ (SHl[b5]? = some (.inl (1, 60)) ∧ (SHl[b1]? = some (.inl (1, 60)) ∧ (b5 < 1000 ∧ (b1 < 1000 ∧ (0 ≤ i.toInt ∧ (0 ≤ j.toInt ∧ (0 ≤ n.toInt ∧ (i.toInt.toNat + n.toInt.toNat ≤ 60 ∧ (j.toInt.toNat + n.toInt.toNat ≤ 60 ∧ Q (some (.int n)) (hpC h b5 b1 i.toInt.toNat j.toInt.toNat n.toInt.toNat))))))))))))))))))) :
    Ends X dp 98 109 [.ref 0, .int t, .int i, .int o, .int j, .int n] [] h Q := by
  have ra : ∀ {a : Nat}, a < 1000 → a ≤ OLDB := fun h => by have := OLDB_eq; omega
  refine e_aload_n (show pAt 98 109 = some (109, .aload_n 0, 1, []) from by decide +kernel) rfl (ra (by decide)) ?_
  refine e_gR (show pAt 98 110 = some (110, .getfield 56, 3, [6, 9, 0, 2031]) from by decide +kernel) (show HS h from hs) rfl (by decide) (hs_ref (show HS h from hs) rfl) ?_
  refine e_gR (show pAt 98 113 = some (113, .getfield 205, 3, [3, 2, 1, 2013]) from by decide +kernel) (show HS h from hs) rfl (by decide) (hs_ref (show HS h from hs) rfl) ?_
  refine e_iload_n (show pAt 98 116 = some (116, .iload_n 1, 1, []) from by decide +kernel) rfl ?_
  obtain ⟨b1, c2, c3, c4, vc⟩ := vc
  refine e_aald (t := 4) (show pAt 98 117 = some (117, .aaload, 1, []) from by decide +kernel) (show HS h from hs) (by decide) c2 c3 c4 ?_
  refine e_iload_n (show pAt 98 118 = some (118, .iload_n 2, 1, []) from by decide +kernel) rfl ?_
  refine e_aload_n (show pAt 98 119 = some (119, .aload_n 0, 1, []) from by decide +kernel) rfl (ra (by decide)) ?_
  refine e_gR (show pAt 98 120 = some (120, .getfield 56, 3, [6, 9, 0, 2031]) from by decide +kernel) (show HS h from hs) rfl (by decide) (hs_ref (show HS h from hs) rfl) ?_
  refine e_gR (show pAt 98 123 = some (123, .getfield 205, 3, [3, 2, 1, 2013]) from by decide +kernel) (show HS h from hs) rfl (by decide) (hs_ref (show HS h from hs) rfl) ?_
  refine e_iload_n (show pAt 98 126 = some (126, .iload_n 3, 1, []) from by decide +kernel) rfl ?_
  obtain ⟨b5, c6, c7, c8, vc⟩ := vc
  refine e_aald (t := 4) (show pAt 98 127 = some (127, .aaload, 1, []) from by decide +kernel) (show HS h from hs) (by decide) c6 c7 c8 ?_
  refine e_iload (show pAt 98 128 = some (128, .iload 4, 2, []) from by decide +kernel) rfl ?_
  refine e_iload (show pAt 98 130 = some (130, .iload 5, 2, []) from by decide +kernel) rfl ?_
  obtain ⟨c9, c10, c11, c12, c13, c14, c15, c16, c17, vc⟩ := vc
  refine e_cpyL (show pAt 98 132 = some (132, .invokestatic 247, 3, [9998, 5, 2, 0, 4116]) from by decide +kernel) (show HS h from hs) c11 c12 c9 c10 c13 c14 c15 c16 c17 ?_
  refine e_iload (show pAt 98 135 = some (135, .iload 5, 2, []) from by decide +kernel) rfl ?_
  exact e_retI (show pAt 98 137 = some (137, .ireturn, 1, []) from by decide +kernel) rfl vc
