theorem ok_codes : ∀ c, 0 < c → c < 223 → Jvm.Cond.code (mName c) (mBytes c) (mMaxL c) (mRet c) ∈ BIGG := sorry
theorem ok_meths : (List.range 223).all (fun c => c == 0 || mOK c) = true := sorry
theorem ok_progs : ∀ y, y < 223 → (progs.getD y []).all (okE y) = true := sorry
