theorem run_sound (w : WC) (l : Launch) : ∀ n, RunS w l n
  | 0 => fun dp y pc L st h v h' hr => by cases hr
  | n + 1 => by
    have IH := run_sound w l n
    intro dp y pc L st h v h' hr hy hL p e R s m args below meth c H locs cells slots Q ls n0 s0 M hR hW hl hc hs hcR hsR hK
    rw [run] at hr
    split at hr
    · cases hr
    · rename_i pc0 i len o he
      obtain ⟨rfl, hdec, hlen, hlk⟩ := pAt_ok hy he
      split at hr
      · rename_i r hret
        subst hr
        have e1 := retO_h hret
        subst e1
        exact hK pc0 len i o ls H locs cells slots st hdec hlen hret hW hc hs
      · split at hr
        · rename_i c' na kd hco
          split at hr
          · cases hr
          · rename_i dp'
            obtain ⟨hok, hr⟩ := inv_if hr
            split at hr
            · rename_i rv h1 h1e
              obtain ⟨l1, e1⟩ := run_sh _ _ _ _ _ _ _ _ _ h1e
              obtain ⟨l2, e2⟩ := run_sh _ _ _ _ _ _ _ _ _ hr
              have q1 : h1.1.length = h.1.length + l1.length := by rw [e1, List.length_append]
              have q2 : h'.1.length = h1.1.length + l2.length := by rw [e2, List.length_append]
              have q3 : slotS h1.1 = slotS h.1 + slotS l1 := by rw [e1, slotS_app]
              have q4 : slotS h'.1 = slotS h1.1 + slotS l2 := by rw [e2, slotS_app]
              refine call_sound IH hdec hlen hlk hco hok h1e M hR hW hl (by omega) (by omega) (fun H1 locs1 hW1 hc' => ?_)
              exact IH (dp' + 1) y (pc0 + 3) L (rv.toList ++ st.drop na) h1 v h' hr hy hL p e R s m args below meth c H1 locs1 _ _ Q ls n0 s0 M hR hW1 hl (by omega) (by omega) hcR hsR hK
            · cases hr
        · split at hr
          · rename_i pc' L' st' h1 h1e
            obtain ⟨l1, e1⟩ := hstep_sh h1e
            obtain ⟨l2, e2⟩ := run_sh _ _ _ _ _ _ _ _ _ hr
            have q1 : h1.1.length = h.1.length + l1.length := by rw [e1, List.length_append]
            have q2 : h'.1.length = h1.1.length + l2.length := by rw [e2, List.length_append]
            have q3 : slotS h1.1 = slotS h.1 + slotS l1 := by rw [e1, slotS_app]
            have q4 : slotS h'.1 = slotS h1.1 + slotS l2 := by rw [e2, slotS_app]
            refine hs_sound M hdec hlen hlk hl hL hW ⟨by have := hR.1; omega, by have := hR.2; omega⟩ h1e (by omega) (by omega) (fun ls' H1 locs1 c1 s1 a1 a2 a3 a4 a5 => ?_)
            exact IH dp y pc' L' st' h1 v h' hr hy a2 p e R s m args below meth c H1 locs1 c1 s1 Q ls' n0 s0 M hR a3 a1 (by omega) (by omega) hcR hsR hK
          · cases hr
