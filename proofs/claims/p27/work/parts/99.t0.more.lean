/-! A few more instructions: lengths, the tables ABOVE and BODIES, bytes and shorts. -/
section WALK2
variable {X : Scr} {dp y pc p0 len t : Nat} {o : List Nat} {L st : List Value} {h : Hp} {Q : Option Value → Hp → Prop}
theorem e_alen {a n : Nat} {v : Int32} (he : pAt y pc = some (p0, .arraylength, len, o)) (hs : HS h) (ha : (decide (a < 1000) && (match SHl[a]? with | some (.inl (t, m)) => decide (t < 5) && decide (m = n) | _ => false)) = true) (hv : Int32.ofNat n = v) (e : Ends X dp y (pc + 1) L (.int v :: st) h Q) : Ends X dp y pc L (.ref a :: st) h Q := by
  rw [Bool.and_eq_true, decide_eq_true_eq] at ha
  obtain ⟨ha, hb⟩ := ha
  refine e_pure he rfl rfl ?_ e
  have hB := OLDB_eq
  have h6 : a < OLDB := by omega
  simp only [hstep]
  rw [if_pos h6, hs.1]
  split at hb
  · rename_i t m hm
    rw [hm]
    rw [Bool.and_eq_true, decide_eq_true_eq, decide_eq_true_eq] at hb
    simp only
    rw [if_pos hb.1, hb.2, hv]
  · cases hb
theorem e_alenL {a : Nat} (he : pAt y pc = some (p0, .arraylength, len, o)) (hs : HS h) (ha : (decide (a < 1000) && decide (SHl[a]? = some (.inl (1, 60)))) = true) (e : Ends X dp y (pc + 1) L (.int 60 :: st) h Q) : Ends X dp y pc L (.ref a :: st) h Q := by
  simp only [Bool.and_eq_true, decide_eq_true_eq] at ha
  refine e_alen (n := 60) he hs ?_ rfl e
  rw [ha.2]
  simp [ha.1]
theorem e_gs1 {idx z w : Nat} (he : pAt y pc = some (p0, .getstatic idx, len, [0, z, w])) (e : Ends X dp y (pc + 3) L (.ref (OLDB + 1) :: st) h Q) : Ends X dp y pc L st h Q := e_pure he rfl rfl rfl e
theorem e_gs2 {idx z w : Nat} (he : pAt y pc = some (p0, .getstatic idx, len, [1, z, w])) (e : Ends X dp y (pc + 3) L (.ref (OLDB + 2) :: st) h Q) : Ends X dp y pc L st h Q := e_pure he rfl rfl rfl e
theorem e_i2b {a : Int32} (he : pAt y pc = some (p0, .i2b, len, o)) (e : Ends X dp y (pc + 1) L (.int a.toInt8.toInt32 :: st) h Q) : Ends X dp y pc L (.int a :: st) h Q := e_pure he rfl rfl rfl e
theorem e_i2s {a : Int32} (he : pAt y pc = some (p0, .i2s, len, o)) (e : Ends X dp y (pc + 1) L (.int a.toInt16.toInt32 :: st) h Q) : Ends X dp y pc L (.int a :: st) h Q := e_pure he rfl rfl rfl e
theorem e_so1 {j : Int32} (he : pAt y pc = some (p0, .iaload, len, o)) (hj : inB j 7 = true) (e : Ends X dp y (pc + 1) L (.int (aboveL.getD j.toNatClampNeg 0) :: st) h Q) : Ends X dp y pc L (.int j :: .ref (OLDB + 1) :: st) h Q := by
  refine e_pure he rfl rfl ?_ e
  simp only [hstep]
  have h7 : oldArr X 1 = some (0, 7, fun i => aboveL.getD i 0) := rfl
  have hn : ¬ OLDB + 1 < OLDB := by omega
  rw [if_neg hn, show OLDB + 1 - OLDB = 1 by omega, h7]
  simp only
  rw [if_pos hj]
theorem e_so2 {j : Int32} (he : pAt y pc = some (p0, .iaload, len, o)) (hj : inB j 21 = true) (e : Ends X dp y (pc + 1) L (.int (bodiesL.getD j.toNatClampNeg 0) :: st) h Q) : Ends X dp y pc L (.int j :: .ref (OLDB + 2) :: st) h Q := by
  refine e_pure he rfl rfl ?_ e
  simp only [hstep]
  have h7 : oldArr X 2 = some (0, 21, fun i => bodiesL.getD i 0) := rfl
  have hn : ¬ OLDB + 2 < OLDB := by omega
  rw [if_neg hn, show OLDB + 2 - OLDB = 2 by omega, h7]
  simp only
  rw [if_pos hj]
end WALK2
/-- more depth does no harm -/
theorem run_dp {X : Scr} : ∀ (n dp y pc : Nat) (L st : List Value) (h : Hp) (r : Option Value × Hp), run X n dp y pc L st h = some r → run X n (dp + 1) y pc L st h = some r
  | 0, _, _, _, _, _, _, _, hr => by cases hr
  | n + 1, dp, y, pc, L, st, h, r, hr => by
    rw [run] at hr ⊢
    split at hr
    · cases hr
    · rename_i pc0 i len o he
      try rw [he]
      try simp only
      split at hr
      · rename_i q hq
        try rw [hq]
        exact hr
      · rename_i hq
        try rw [hq]
        try simp only
        split at hr
        · rename_i c na kd hc
          try rw [hc]
          try simp only
          split at hr
          · cases hr
          · rename_i dp'
            obtain ⟨hok, hr⟩ := inv_if hr
            try simp only
            rw [if_pos hok]
            split at hr
            · rename_i rv h1 h1e
              rw [run_dp n _ _ _ _ _ _ _ h1e]
              exact run_dp n _ _ _ _ _ _ _ hr
            · cases hr
        · rename_i hc
          try rw [hc]
          try simp only
          split at hr
          · rename_i pc' L' st' h1 h1e
            try rw [h1e]
            exact run_dp n _ _ _ _ _ _ _ hr
          · cases hr
theorem run_dpl {X : Scr} {n dp dq y pc : Nat} {L st : List Value} {h : Hp} {r : Option Value × Hp} (hd : dp ≤ dq) (hr : run X n dp y pc L st h = some r) : run X n dq y pc L st h = some r := by
  induction hd with
  | refl => exact hr
  | step _ ih => exact run_dp _ _ _ _ _ _ _ _ ih
