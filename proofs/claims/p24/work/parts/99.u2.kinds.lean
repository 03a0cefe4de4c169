section JN99u2kinds
/-! Every kind of call keeps what holds at the loop. -/
theorem lg_rr {r : Int64} : condB .eq (lg_cmp r r) 0 = false → False := by
  intro e
  have e : ¬ (lg_cmp r r).toInt = 0 := of_decide_eq_false (cI e)
  apply e
  rw [lgc, if_neg (Int.lt_irrefl _), if_pos rfl]
section LAW
variable {X : Scr} {h : Hp} {Q : Option Value → Hp → Prop}
theorem lc_0 (i : Int32) (b1 : inB (i + 1) X.1 = true) (b2 : inB (i + 2) X.1 = true) (b3 : inB (i + 3) X.1 = true) (b4 : inB (i + 4) X.1 = true) (b5 : inB (i + 5) X.1 = true) (hi : INVD h) (hQ : ∀ h', INVD h' → Ends X 1000 0 1297 [.ref OLDB, .ref 0, .ref 93, .int i] [] h' Q) : Ends X 1000 0 192 [.ref OLDB, .ref 0, .ref 93, .int i] [] h Q :=
  w_law0 (dp := 999) i hi.1.1.1.1.hs ⟨b1, b2, b3, b4, b5, per_pairD _ _ _ _ _ hi (K := fun h2 _ _ => Ends X 1000 0 1297 [.ref OLDB, .ref 0, .ref 93, .int i] [] h2 Q) (fun _ h2 i2 => hQ h2 i2) (fun r h1 g1 e => ⟨r, rfl, g1.hs, b1, b2, b3, b4, b5, e⟩)⟩
theorem lc_1 (i : Int32) (b1 : inB (i + 1) X.1 = true) (b2 : inB (i + 2) X.1 = true) (b3 : inB (i + 3) X.1 = true) (b4 : inB (i + 4) X.1 = true) (b5 : inB (i + 5) X.1 = true) (hi : INVD h) (hQ : ∀ h', INVD h' → Ends X 1000 0 1297 [.ref OLDB, .ref 0, .ref 93, .int i] [] h' Q) : Ends X 1000 0 255 [.ref OLDB, .ref 0, .ref 93, .int i] [] h Q :=
  w_law1 (dp := 999) i hi.1.1.1.1.hs ⟨b1, b2, of_pairD _ _ hi (K := fun h2 _ _ => Ends X 1000 0 1297 [.ref OLDB, .ref 0, .ref 93, .int i] [] h2 Q) (fun _ h2 i2 => hQ h2 i2) (fun r h1 g1 e => ⟨r, rfl, g1.hs, b1, b2, e⟩)⟩
theorem lc_2 (i : Int32) (b1 : inB (i + 1) X.1 = true) (b2 : inB (i + 2) X.1 = true) (b3 : inB (i + 3) X.1 = true) (b4 : inB (i + 4) X.1 = true) (b5 : inB (i + 5) X.1 = true) (hi : INVD h) (hQ : ∀ h', INVD h' → Ends X 1000 0 1297 [.ref OLDB, .ref 0, .ref 93, .int i] [] h' Q) : Ends X 1000 0 288 [.ref OLDB, .ref 0, .ref 93, .int i] [] h Q :=
  w_law2 (dp := 999) i hi.1.1.1.1.hs ⟨b1, b2, b3, set_pairD _ _ _ hi (K := fun h2 _ _ => Ends X 1000 0 1297 [.ref OLDB, .ref 0, .ref 93, .int i] [] h2 Q) (fun _ h2 i2 => hQ h2 i2) (fun r h1 g1 e => ⟨r, rfl, g1.hs, b1, b2, b3, e⟩)⟩
theorem lc_3 (i : Int32) (b1 : inB (i + 1) X.1 = true) (b2 : inB (i + 2) X.1 = true) (b3 : inB (i + 3) X.1 = true) (b4 : inB (i + 4) X.1 = true) (b5 : inB (i + 5) X.1 = true) (hi : INVD h) (hQ : ∀ h', INVD h' → Ends X 1000 0 1297 [.ref OLDB, .ref 0, .ref 93, .int i] [] h' Q) : Ends X 1000 0 331 [.ref OLDB, .ref 0, .ref 93, .int i] [] h Q :=
  w_law3 (dp := 999) i hi.1.1.1.1.hs ⟨b1, b2, ⟨fun e => catches_pairD _ _ (by decide) (by decide) hi (K := fun h2 _ _ => Ends X 1000 0 1297 [.ref OLDB, .ref 0, .ref 93, .int i] [] h2 Q) (fun _ h2 i2 => hQ h2 i2) (fun r h1 g1 e1 => ⟨r, rfl, g1.hs, b1, b2, ⟨fun _ => e1, fun e' => absurd (e.symm.trans e') (by decide)⟩⟩), fun e => catches_pairD _ _ (by decide) (by decide) hi (K := fun h2 _ _ => Ends X 1000 0 1297 [.ref OLDB, .ref 0, .ref 93, .int i] [] h2 Q) (fun _ h2 i2 => hQ h2 i2) (fun r h1 g1 e1 => ⟨r, rfl, g1.hs, b1, b2, ⟨fun e' => absurd (e.symm.trans e') (by decide), fun _ => e1⟩⟩)⟩⟩
theorem lc_4 (i : Int32) (b1 : inB (i + 1) X.1 = true) (b2 : inB (i + 2) X.1 = true) (b3 : inB (i + 3) X.1 = true) (b4 : inB (i + 4) X.1 = true) (b5 : inB (i + 5) X.1 = true) (hi : INVD h) (hQ : ∀ h', INVD h' → Ends X 1000 0 1297 [.ref OLDB, .ref 0, .ref 93, .int i] [] h' Q) : Ends X 1000 0 380 [.ref OLDB, .ref 0, .ref 93, .int i] [] h Q :=
  w_law4 (dp := 999) i hi.1.1.1.1.hs ⟨b1, b2, b3, row_pairD _ _ _ hi (K := fun h2 _ _ => Ends X 1000 0 1297 [.ref OLDB, .ref 0, .ref 93, .int i] [] h2 Q) (fun _ h2 i2 => hQ h2 i2) (fun r h1 g1 e => ⟨r, rfl, g1.hs, b1, b2, b3, e⟩)⟩
theorem lc_5 (i : Int32) (b1 : inB (i + 1) X.1 = true) (b2 : inB (i + 2) X.1 = true) (b3 : inB (i + 3) X.1 = true) (b4 : inB (i + 4) X.1 = true) (b5 : inB (i + 5) X.1 = true) (hi : INVD h) (hQ : ∀ h', INVD h' → Ends X 1000 0 1297 [.ref OLDB, .ref 0, .ref 93, .int i] [] h' Q) : Ends X 1000 0 423 [.ref OLDB, .ref 0, .ref 93, .int i] [] h Q :=
  w_law5 (dp := 999) i hi.1.1.1.1.hs ⟨b1, feed_pairD _ hi (K := fun h2 _ _ => Ends X 1000 0 1297 [.ref OLDB, .ref 0, .ref 93, .int i] [] h2 Q) (fun _ h2 i2 => hQ h2 i2) (fun r h1 g1 e => ⟨r, rfl, g1.hs, b1, e⟩)⟩
theorem lc_6 (i : Int32) (b1 : inB (i + 1) X.1 = true) (b2 : inB (i + 2) X.1 = true) (b3 : inB (i + 3) X.1 = true) (b4 : inB (i + 4) X.1 = true) (b5 : inB (i + 5) X.1 = true) (hi : INVD h) (hQ : ∀ h', INVD h' → Ends X 1000 0 1297 [.ref OLDB, .ref 0, .ref 93, .int i] [] h' Q) : Ends X 1000 0 446 [.ref OLDB, .ref 0, .ref 93, .int i] [] h Q :=
  w_law6 (dp := 999) i hi.1.1.1.1.hs (yard_pairD (by decide) hi (K := fun h2 _ _ => Ends X 1000 0 1297 [.ref OLDB, .ref 0, .ref 93, .int i] [] h2 Q) (fun _ h2 i2 => hQ h2 i2) (fun r h1 g1 e => ⟨r, rfl, g1.hs, e⟩))
theorem lc_7 (i : Int32) (b1 : inB (i + 1) X.1 = true) (b2 : inB (i + 2) X.1 = true) (b3 : inB (i + 3) X.1 = true) (b4 : inB (i + 4) X.1 = true) (b5 : inB (i + 5) X.1 = true) (hi : INVD h) (hQ : ∀ h', INVD h' → Ends X 1000 0 1297 [.ref OLDB, .ref 0, .ref 93, .int i] [] h' Q) : Ends X 1000 0 459 [.ref OLDB, .ref 0, .ref 93, .int i] [] h Q :=
  w_law7 (dp := 999) i hi.1.1.1.1.hs ⟨b1, told_pairD _ hi (K := fun h2 _ _ => Ends X 1000 0 1297 [.ref OLDB, .ref 0, .ref 93, .int i] [] h2 Q) (fun _ h2 i2 => hQ h2 i2) (fun r h1 g1 e => ⟨r, rfl, g1.hs, b1, e⟩)⟩
theorem lc_8 (i : Int32) (b1 : inB (i + 1) X.1 = true) (b2 : inB (i + 2) X.1 = true) (b3 : inB (i + 3) X.1 = true) (b4 : inB (i + 4) X.1 = true) (b5 : inB (i + 5) X.1 = true) (hi : INVD h) (hQ : ∀ h', INVD h' → Ends X 1000 0 1297 [.ref OLDB, .ref 0, .ref 93, .int i] [] h' Q) : Ends X 1000 0 482 [.ref OLDB, .ref 0, .ref 93, .int i] [] h Q :=
  w_law8 (dp := 999) i hi.1.1.1.1.hs (shout_pairD hi (K := fun h2 _ _ => Ends X 1000 0 1297 [.ref OLDB, .ref 0, .ref 93, .int i] [] h2 Q) (fun _ h2 i2 => hQ h2 i2) (fun r h1 g1 e => ⟨r, rfl, g1.hs, e⟩))
theorem lc_9 (i : Int32) (b1 : inB (i + 1) X.1 = true) (b2 : inB (i + 2) X.1 = true) (b3 : inB (i + 3) X.1 = true) (b4 : inB (i + 4) X.1 = true) (b5 : inB (i + 5) X.1 = true) (hi : INVD h) (hQ : ∀ h', INVD h' → Ends X 1000 0 1297 [.ref OLDB, .ref 0, .ref 93, .int i] [] h' Q) : Ends X 1000 0 495 [.ref OLDB, .ref 0, .ref 93, .int i] [] h Q :=
  w_law9 (dp := 999) i hi.1.1.1.1.hs ⟨b1, b2, on_pairD _ _ hi (K := fun h2 _ _ => Ends X 1000 0 1297 [.ref OLDB, .ref 0, .ref 93, .int i] [] h2 Q) (fun _ h2 i2 => hQ h2 i2) (fun r h1 g1 e => ⟨r, rfl, g1.hs, b1, b2, e⟩)⟩
theorem lc_10 (i : Int32) (b1 : inB (i + 1) X.1 = true) (b2 : inB (i + 2) X.1 = true) (b3 : inB (i + 3) X.1 = true) (b4 : inB (i + 4) X.1 = true) (b5 : inB (i + 5) X.1 = true) (hi : INVD h) (hQ : ∀ h', INVD h' → Ends X 1000 0 1297 [.ref OLDB, .ref 0, .ref 93, .int i] [] h' Q) : Ends X 1000 0 528 [.ref OLDB, .ref 0, .ref 93, .int i] [] h Q :=
  w_law10 (dp := 999) i hi.1.1.1.1.hs ⟨b1, last_pairD _ hi (K := fun h2 _ _ => Ends X 1000 0 1297 [.ref OLDB, .ref 0, .ref 93, .int i] [] h2 Q) (fun _ h2 i2 => hQ h2 i2) (fun r h1 g1 e => ⟨r, rfl, g1.hs, b1, e⟩)⟩
theorem lc_11 (i : Int32) (b1 : inB (i + 1) X.1 = true) (b2 : inB (i + 2) X.1 = true) (b3 : inB (i + 3) X.1 = true) (b4 : inB (i + 4) X.1 = true) (b5 : inB (i + 5) X.1 = true) (hi : INVD h) (hQ : ∀ h', INVD h' → Ends X 1000 0 1297 [.ref OLDB, .ref 0, .ref 93, .int i] [] h' Q) : Ends X 1000 0 551 [.ref OLDB, .ref 0, .ref 93, .int i] [] h Q :=
  w_law11 (dp := 999) i hi.1.1.1.1.hs ⟨b1, first_pairD _ hi (K := fun h2 _ _ => Ends X 1000 0 1297 [.ref OLDB, .ref 0, .ref 93, .int i] [] h2 Q) (fun _ h2 i2 => hQ h2 i2) (fun r h1 g1 e => ⟨r, rfl, g1.hs, b1, e⟩)⟩
theorem lc_12 (i : Int32) (b1 : inB (i + 1) X.1 = true) (b2 : inB (i + 2) X.1 = true) (b3 : inB (i + 3) X.1 = true) (b4 : inB (i + 4) X.1 = true) (b5 : inB (i + 5) X.1 = true) (hi : INVD h) (hQ : ∀ h', INVD h' → Ends X 1000 0 1297 [.ref OLDB, .ref 0, .ref 93, .int i] [] h' Q) : Ends X 1000 0 574 [.ref OLDB, .ref 0, .ref 93, .int i] [] h Q :=
  w_law12 (dp := 999) i hi.1.1.1.1.hs ⟨b1, b2, stand_pairD _ _ hi (K := fun h2 _ _ => Ends X 1000 0 1297 [.ref OLDB, .ref 0, .ref 93, .int i] [] h2 Q) (fun _ h2 i2 => hQ h2 i2) (fun r h1 g1 e => ⟨r, rfl, g1.hs, b1, b2, e⟩)⟩
theorem lc_13 (i : Int32) (b1 : inB (i + 1) X.1 = true) (b2 : inB (i + 2) X.1 = true) (b3 : inB (i + 3) X.1 = true) (b4 : inB (i + 4) X.1 = true) (b5 : inB (i + 5) X.1 = true) (hi : INVD h) (hQ : ∀ h', INVD h' → Ends X 1000 0 1297 [.ref OLDB, .ref 0, .ref 93, .int i] [] h' Q) : Ends X 1000 0 607 [.ref OLDB, .ref 0, .ref 93, .int i] [] h Q :=
  w_law13 (dp := 999) i hi.1.1.1.1.hs ⟨b1, best_pairD _ hi (K := fun h2 _ _ => Ends X 1000 0 1297 [.ref OLDB, .ref 0, .ref 93, .int i] [] h2 Q) (fun _ h2 i2 => hQ h2 i2) (fun r h1 g1 e => ⟨r, rfl, g1.hs, b1, e⟩)⟩
theorem lc_14 (i : Int32) (b1 : inB (i + 1) X.1 = true) (b2 : inB (i + 2) X.1 = true) (b3 : inB (i + 3) X.1 = true) (b4 : inB (i + 4) X.1 = true) (b5 : inB (i + 5) X.1 = true) (hi : INVD h) (hQ : ∀ h', INVD h' → Ends X 1000 0 1297 [.ref OLDB, .ref 0, .ref 93, .int i] [] h' Q) : Ends X 1000 0 630 [.ref OLDB, .ref 0, .ref 93, .int i] [] h Q :=
  w_law14 (dp := 999) i hi.1.1.1.1.hs ⟨b1, need_pairD _ hi (K := fun h2 _ _ => Ends X 1000 0 1297 [.ref OLDB, .ref 0, .ref 93, .int i] [] h2 Q) (fun _ h2 i2 => hQ h2 i2) (fun r h1 g1 e => ⟨r, rfl, g1.hs, b1, e⟩)⟩
theorem lc_15 (i : Int32) (b1 : inB (i + 1) X.1 = true) (b2 : inB (i + 2) X.1 = true) (b3 : inB (i + 3) X.1 = true) (b4 : inB (i + 4) X.1 = true) (b5 : inB (i + 5) X.1 = true) (hi : INVD h) (hQ : ∀ h', INVD h' → Ends X 1000 0 1297 [.ref OLDB, .ref 0, .ref 93, .int i] [] h' Q) : Ends X 1000 0 653 [.ref OLDB, .ref 0, .ref 93, .int i] [] h Q :=
  w_law15 (dp := 999) i hi.1.1.1.1.hs (hands_pairD hi (K := fun h2 _ _ => Ends X 1000 0 1297 [.ref OLDB, .ref 0, .ref 93, .int i] [] h2 Q) (fun _ h2 i2 => hQ h2 i2) (fun r h1 g1 e => ⟨r, rfl, g1.hs, e⟩))
theorem lc_16 (i : Int32) (b1 : inB (i + 1) X.1 = true) (b2 : inB (i + 2) X.1 = true) (b3 : inB (i + 3) X.1 = true) (b4 : inB (i + 4) X.1 = true) (b5 : inB (i + 5) X.1 = true) (hi : INVD h) (hQ : ∀ h', INVD h' → Ends X 1000 0 1297 [.ref OLDB, .ref 0, .ref 93, .int i] [] h' Q) : Ends X 1000 0 666 [.ref OLDB, .ref 0, .ref 93, .int i] [] h Q :=
  w_law16 (dp := 999) i hi.1.1.1.1.hs ⟨b1, alone_pairD _ hi (K := fun h2 _ _ => Ends X 1000 0 1297 [.ref OLDB, .ref 0, .ref 93, .int i] [] h2 Q) (fun _ h2 i2 => hQ h2 i2) (fun r h1 g1 e => ⟨r, rfl, g1.hs, b1, e⟩)⟩
theorem lc_17 (i : Int32) (b1 : inB (i + 1) X.1 = true) (b2 : inB (i + 2) X.1 = true) (b3 : inB (i + 3) X.1 = true) (b4 : inB (i + 4) X.1 = true) (b5 : inB (i + 5) X.1 = true) (hi : INVD h) (hQ : ∀ h', INVD h' → Ends X 1000 0 1297 [.ref OLDB, .ref 0, .ref 93, .int i] [] h' Q) : Ends X 1000 0 689 [.ref OLDB, .ref 0, .ref 93, .int i] [] h Q :=
  w_law17 (dp := 999) i hi.1.1.1.1.hs ⟨b1, spread_pairD _ hi (K := fun h2 _ _ => Ends X 1000 0 1297 [.ref OLDB, .ref 0, .ref 93, .int i] [] h2 Q) (fun _ h2 i2 => hQ h2 i2) (fun r h1 g1 e => ⟨r, rfl, g1.hs, b1, e⟩)⟩
theorem lc_18 (i : Int32) (b1 : inB (i + 1) X.1 = true) (b2 : inB (i + 2) X.1 = true) (b3 : inB (i + 3) X.1 = true) (b4 : inB (i + 4) X.1 = true) (b5 : inB (i + 5) X.1 = true) (hi : INVD h) (hQ : ∀ h', INVD h' → Ends X 1000 0 1297 [.ref OLDB, .ref 0, .ref 93, .int i] [] h' Q) : Ends X 1000 0 712 [.ref OLDB, .ref 0, .ref 93, .int i] [] h Q :=
  w_law18 (dp := 999) i hi.1.1.1.1.hs ⟨b1, b2, behind_pairD _ _ hi (K := fun h2 _ _ => Ends X 1000 0 1297 [.ref OLDB, .ref 0, .ref 93, .int i] [] h2 Q) (fun _ h2 i2 => hQ h2 i2) (fun r h1 g1 e => ⟨r, rfl, g1.hs, b1, b2, e⟩)⟩
theorem lc_19 (i : Int32) (b1 : inB (i + 1) X.1 = true) (b2 : inB (i + 2) X.1 = true) (b3 : inB (i + 3) X.1 = true) (b4 : inB (i + 4) X.1 = true) (b5 : inB (i + 5) X.1 = true) (hi : INVD h) (hQ : ∀ h', INVD h' → Ends X 1000 0 1297 [.ref OLDB, .ref 0, .ref 93, .int i] [] h' Q) : Ends X 1000 0 745 [.ref OLDB, .ref 0, .ref 93, .int i] [] h Q :=
  w_law19 (dp := 999) i hi.1.1.1.1.hs ⟨b1, see_pairD _ hi (K := fun h2 _ _ => Ends X 1000 0 1297 [.ref OLDB, .ref 0, .ref 93, .int i] [] h2 Q) (fun _ h2 i2 => hQ h2 i2) (fun r h1 g1 e => ⟨r, rfl, g1.hs, b1, e⟩)⟩
theorem lc_20 (i : Int32) (b1 : inB (i + 1) X.1 = true) (b2 : inB (i + 2) X.1 = true) (b3 : inB (i + 3) X.1 = true) (b4 : inB (i + 4) X.1 = true) (b5 : inB (i + 5) X.1 = true) (hi : INVD h) (hQ : ∀ h', INVD h' → Ends X 1000 0 1297 [.ref OLDB, .ref 0, .ref 93, .int i] [] h' Q) : Ends X 1000 0 768 [.ref OLDB, .ref 0, .ref 93, .int i] [] h Q :=
  w_law20 (dp := 999) i hi.1.1.1.1.hs ⟨b1, moved_pairD _ hi (K := fun h2 _ _ => Ends X 1000 0 1297 [.ref OLDB, .ref 0, .ref 93, .int i] [] h2 Q) (fun _ h2 i2 => hQ h2 i2) (fun r h1 g1 e => ⟨r, rfl, g1.hs, b1, e⟩)⟩
theorem lc_21 (i : Int32) (b1 : inB (i + 1) X.1 = true) (b2 : inB (i + 2) X.1 = true) (b3 : inB (i + 3) X.1 = true) (b4 : inB (i + 4) X.1 = true) (b5 : inB (i + 5) X.1 = true) (hi : INVD h) (hQ : ∀ h', INVD h' → Ends X 1000 0 1297 [.ref OLDB, .ref 0, .ref 93, .int i] [] h' Q) : Ends X 1000 0 791 [.ref OLDB, .ref 0, .ref 93, .int i] [] h Q :=
  w_law21 (dp := 999) i hi.1.1.1.1.hs ⟨b1, b2, b3, odds_pairD _ _ _ hi (K := fun h2 _ _ => Ends X 1000 0 1297 [.ref OLDB, .ref 0, .ref 93, .int i] [] h2 Q) (fun _ h2 i2 => hQ h2 i2) (fun r h1 g1 e => ⟨r, rfl, g1.hs, b1, b2, b3, e⟩)⟩
theorem lc_22 (i : Int32) (b1 : inB (i + 1) X.1 = true) (b2 : inB (i + 2) X.1 = true) (b3 : inB (i + 3) X.1 = true) (b4 : inB (i + 4) X.1 = true) (b5 : inB (i + 5) X.1 = true) (hi : INVD h) (hQ : ∀ h', INVD h' → Ends X 1000 0 1297 [.ref OLDB, .ref 0, .ref 93, .int i] [] h' Q) : Ends X 1000 0 834 [.ref OLDB, .ref 0, .ref 93, .int i] [] h Q :=
  w_law22 (dp := 999) i hi.1.1.1.1.hs ⟨b1, b2, mean_pairD _ _ hi (K := fun h2 r r2 => (condB .eq (lg_cmp r r2) 0 = true → Ends X 1000 0 1297 [.ref OLDB, .ref 0, .ref 93, .int i] [] h2 Q) ∧ (condB .eq (lg_cmp r r2) 0 = false → Q (some (.int 0)) h2)) (fun _ h2 i2 => ⟨fun _ => hQ h2 i2, fun e => (lg_rr e).elim⟩) (fun r h1 g1 e => ⟨r, rfl, g1.hs, b1, b2, e⟩)⟩
theorem lc_23 (i : Int32) (b1 : inB (i + 1) X.1 = true) (b2 : inB (i + 2) X.1 = true) (b3 : inB (i + 3) X.1 = true) (b4 : inB (i + 4) X.1 = true) (b5 : inB (i + 5) X.1 = true) (hi : INVD h) (hQ : ∀ h', INVD h' → Ends X 1000 0 1297 [.ref OLDB, .ref 0, .ref 93, .int i] [] h' Q) : Ends X 1000 0 868 [.ref OLDB, .ref 0, .ref 93, .int i] [] h Q :=
  w_law23 (dp := 999) i hi.1.1.1.1.hs ⟨b1, book_pairD _ hi (K := fun h2 _ _ => Ends X 1000 0 1297 [.ref OLDB, .ref 0, .ref 93, .int i] [] h2 Q) (fun _ h2 i2 => hQ h2 i2) (fun r h1 g1 e => ⟨r, rfl, g1.hs, b1, e⟩)⟩
theorem lc_24 (i : Int32) (b1 : inB (i + 1) X.1 = true) (b2 : inB (i + 2) X.1 = true) (b3 : inB (i + 3) X.1 = true) (b4 : inB (i + 4) X.1 = true) (b5 : inB (i + 5) X.1 = true) (hi : INVD h) (hQ : ∀ h', INVD h' → Ends X 1000 0 1297 [.ref OLDB, .ref 0, .ref 93, .int i] [] h' Q) : Ends X 1000 0 891 [.ref OLDB, .ref 0, .ref 93, .int i] [] h Q :=
  w_law24 (dp := 999) i hi.1.1.1.1.hs (looked_pairD hi (K := fun h2 _ _ => Ends X 1000 0 1297 [.ref OLDB, .ref 0, .ref 93, .int i] [] h2 Q) (fun _ _ h2 i2 => hQ h2 i2) (fun r h1 g1 e => ⟨r, rfl, g1.hs, e⟩))
theorem lc_25 (i : Int32) (b1 : inB (i + 1) X.1 = true) (b2 : inB (i + 2) X.1 = true) (b3 : inB (i + 3) X.1 = true) (b4 : inB (i + 4) X.1 = true) (b5 : inB (i + 5) X.1 = true) (hi : INVD h) (hQ : ∀ h', INVD h' → Ends X 1000 0 1297 [.ref OLDB, .ref 0, .ref 93, .int i] [] h' Q) : Ends X 1000 0 904 [.ref OLDB, .ref 0, .ref 93, .int i] [] h Q :=
  w_law25 (dp := 999) i hi.1.1.1.1.hs ⟨b1, b2, judge_pairD _ _ hi (K := fun h2 _ _ => Ends X 1000 0 1297 [.ref OLDB, .ref 0, .ref 93, .int i] [] h2 Q) (fun _ _ h2 i2 => hQ h2 i2) (fun r h1 g1 e => ⟨r, rfl, g1.hs, b1, b2, e⟩)⟩
theorem lc_26 (i : Int32) (b1 : inB (i + 1) X.1 = true) (b2 : inB (i + 2) X.1 = true) (b3 : inB (i + 3) X.1 = true) (b4 : inB (i + 4) X.1 = true) (b5 : inB (i + 5) X.1 = true) (hi : INVD h) (hQ : ∀ h', INVD h' → Ends X 1000 0 1297 [.ref OLDB, .ref 0, .ref 93, .int i] [] h' Q) : Ends X 1000 0 937 [.ref OLDB, .ref 0, .ref 93, .int i] [] h Q :=
  w_law26 (dp := 999) i hi.1.1.1.1.hs (img_pairD hi (K := fun h2 _ _ => Ends X 1000 0 1297 [.ref OLDB, .ref 0, .ref 93, .int i] [] h2 Q) (fun _ h2 i2 => hQ h2 i2) (fun r h1 g1 e => ⟨r, rfl, g1.hs, e⟩))
theorem lc_27 (i : Int32) (b1 : inB (i + 1) X.1 = true) (b2 : inB (i + 2) X.1 = true) (b3 : inB (i + 3) X.1 = true) (b4 : inB (i + 4) X.1 = true) (b5 : inB (i + 5) X.1 = true) (hi : INVD h) (hQ : ∀ h', INVD h' → Ends X 1000 0 1297 [.ref OLDB, .ref 0, .ref 93, .int i] [] h' Q) : Ends X 1000 0 950 [.ref OLDB, .ref 0, .ref 93, .int i] [] h Q :=
  w_law27 (dp := 999) i hi.1.1.1.1.hs (und_pairD hi (K := fun h2 _ _ => Ends X 1000 0 1297 [.ref OLDB, .ref 0, .ref 93, .int i] [] h2 Q) (fun _ h2 i2 => hQ h2 i2) (fun r h1 g1 e => ⟨r, rfl, g1.hs, e⟩))
theorem lc_28 (i : Int32) (b1 : inB (i + 1) X.1 = true) (b2 : inB (i + 2) X.1 = true) (b3 : inB (i + 3) X.1 = true) (b4 : inB (i + 4) X.1 = true) (b5 : inB (i + 5) X.1 = true) (hi : INVD h) (hQ : ∀ h', INVD h' → Ends X 1000 0 1297 [.ref OLDB, .ref 0, .ref 93, .int i] [] h' Q) : Ends X 1000 0 963 [.ref OLDB, .ref 0, .ref 93, .int i] [] h Q :=
  w_law28 (dp := 999) i hi.1.1.1.1.hs ⟨b1, b2, b3, act_pairD _ _ _ (by decide) hi (K := fun h2 _ _ => Ends X 1000 0 1297 [.ref OLDB, .ref 0, .ref 93, .int i] [] h2 Q) (fun _ h2 i2 => hQ h2 i2) (fun r h1 g1 e => ⟨r, rfl, g1.hs, b1, b2, b3, e⟩)⟩
theorem lc_29 (i : Int32) (b1 : inB (i + 1) X.1 = true) (b2 : inB (i + 2) X.1 = true) (b3 : inB (i + 3) X.1 = true) (b4 : inB (i + 4) X.1 = true) (b5 : inB (i + 5) X.1 = true) (hi : INVD h) (hQ : ∀ h', INVD h' → Ends X 1000 0 1297 [.ref OLDB, .ref 0, .ref 93, .int i] [] h' Q) : Ends X 1000 0 1006 [.ref OLDB, .ref 0, .ref 93, .int i] [] h Q :=
  w_law29 (dp := 999) i hi.1.1.1.1.hs ⟨b1, trace_pairD _ hi (K := fun h2 _ _ => Ends X 1000 0 1297 [.ref OLDB, .ref 0, .ref 93, .int i] [] h2 Q) (fun _ h2 i2 => hQ h2 i2) (fun r h1 g1 e => ⟨r, rfl, g1.hs, b1, e⟩)⟩
theorem lc_30 (i : Int32) (b1 : inB (i + 1) X.1 = true) (b2 : inB (i + 2) X.1 = true) (b3 : inB (i + 3) X.1 = true) (b4 : inB (i + 4) X.1 = true) (b5 : inB (i + 5) X.1 = true) (hi : INVD h) (hQ : ∀ h', INVD h' → Ends X 1000 0 1297 [.ref OLDB, .ref 0, .ref 93, .int i] [] h' Q) : Ends X 1000 0 1029 [.ref OLDB, .ref 0, .ref 93, .int i] [] h Q :=
  w_law30 (dp := 999) i hi.1.1.1.1.hs ⟨b1, b2, taken_pairD _ _ hi (K := fun h2 _ _ => Ends X 1000 0 1297 [.ref OLDB, .ref 0, .ref 93, .int i] [] h2 Q) (fun _ h2 i2 => hQ h2 i2) (fun r h1 g1 e => ⟨r, rfl, g1.hs, b1, b2, e⟩)⟩
theorem lc_31 (i : Int32) (b1 : inB (i + 1) X.1 = true) (b2 : inB (i + 2) X.1 = true) (b3 : inB (i + 3) X.1 = true) (b4 : inB (i + 4) X.1 = true) (b5 : inB (i + 5) X.1 = true) (hi : INVD h) (hQ : ∀ h', INVD h' → Ends X 1000 0 1297 [.ref OLDB, .ref 0, .ref 93, .int i] [] h' Q) : Ends X 1000 0 1062 [.ref OLDB, .ref 0, .ref 93, .int i] [] h Q :=
  w_law31 (dp := 999) i hi.1.1.1.1.hs ⟨b1, count_pairD _ hi (K := fun h2 _ _ => Ends X 1000 0 1297 [.ref OLDB, .ref 0, .ref 93, .int i] [] h2 Q) (fun _ h2 i2 => hQ h2 i2) (fun r h1 g1 e => ⟨r, rfl, g1.hs, b1, e⟩)⟩
theorem lc_32 (i : Int32) (b1 : inB (i + 1) X.1 = true) (b2 : inB (i + 2) X.1 = true) (b3 : inB (i + 3) X.1 = true) (b4 : inB (i + 4) X.1 = true) (b5 : inB (i + 5) X.1 = true) (hi : INVD h) (hQ : ∀ h', INVD h' → Ends X 1000 0 1297 [.ref OLDB, .ref 0, .ref 93, .int i] [] h' Q) : Ends X 1000 0 1085 [.ref OLDB, .ref 0, .ref 93, .int i] [] h Q :=
  w_law32 (dp := 999) i hi.1.1.1.1.hs ⟨b1, b2, b3, tape_pairD _ _ _ hi (K := fun h2 _ _ => Ends X 1000 0 1297 [.ref OLDB, .ref 0, .ref 93, .int i] [] h2 Q) (fun _ h2 i2 => hQ h2 i2) (fun r h1 g1 e => ⟨r, rfl, g1.hs, b1, b2, b3, e⟩)⟩
theorem lc_33 (i : Int32) (b1 : inB (i + 1) X.1 = true) (b2 : inB (i + 2) X.1 = true) (b3 : inB (i + 3) X.1 = true) (b4 : inB (i + 4) X.1 = true) (b5 : inB (i + 5) X.1 = true) (hi : INVD h) (hQ : ∀ h', INVD h' → Ends X 1000 0 1297 [.ref OLDB, .ref 0, .ref 93, .int i] [] h' Q) : Ends X 1000 0 1128 [.ref OLDB, .ref 0, .ref 93, .int i] [] h Q :=
  w_law33 (dp := 999) i hi.1.1.1.1.hs ⟨b1, b2, b3, b4, item_pairD _ _ _ hi (K := fun h2 _ _ => Ends X 1000 0 1297 [.ref OLDB, .ref 0, .ref 93, .int i] [] h2 Q) (fun _ h2 i2 => hQ h2 i2) (fun r h1 g1 e => ⟨r, rfl, g1.hs, b1, b2, b3, b4, e⟩)⟩
theorem lc_34 (i : Int32) (b1 : inB (i + 1) X.1 = true) (b2 : inB (i + 2) X.1 = true) (b3 : inB (i + 3) X.1 = true) (b4 : inB (i + 4) X.1 = true) (b5 : inB (i + 5) X.1 = true) (hi : INVD h) (hQ : ∀ h', INVD h' → Ends X 1000 0 1297 [.ref OLDB, .ref 0, .ref 93, .int i] [] h' Q) : Ends X 1000 0 1201 [.ref OLDB, .ref 0, .ref 93, .int i] [] h Q :=
  w_law34 (dp := 999) i hi.1.1.1.1.hs ⟨b1, b2, read_pairD _ _ hi (K := fun h2 _ _ => Ends X 1000 0 1297 [.ref OLDB, .ref 0, .ref 93, .int i] [] h2 Q) (fun _ h2 i2 => hQ h2 i2) (fun r h1 g1 e => ⟨r, rfl, g1.hs, b1, b2, e⟩)⟩
theorem lc_35 (i : Int32) (b1 : inB (i + 1) X.1 = true) (b2 : inB (i + 2) X.1 = true) (b3 : inB (i + 3) X.1 = true) (b4 : inB (i + 4) X.1 = true) (b5 : inB (i + 5) X.1 = true) (hi : INVD h) (hQ : ∀ h', INVD h' → Ends X 1000 0 1297 [.ref OLDB, .ref 0, .ref 93, .int i] [] h' Q) : Ends X 1000 0 1234 [.ref OLDB, .ref 0, .ref 93, .int i] [] h Q :=
  w_law35 (dp := 999) i hi.1.1.1.1.hs ⟨b1, b2, b3, b4, b5, shift_pairD _ _ _ _ _ hi (K := fun h2 _ _ => Ends X 1000 0 1297 [.ref OLDB, .ref 0, .ref 93, .int i] [] h2 Q) (fun _ h2 i2 => hQ h2 i2) (fun r h1 g1 e => ⟨r, rfl, g1.hs, b1, b2, b3, b4, b5, e⟩)⟩
end LAW
end JN99u2kinds
section JN99u3loop
/-! The law's loop, its entry, and its walk. -/
theorem inB_law {X : Scr} {i c : Int32} (hX : X.1 ≤ 3072) (h0 : 0 ≤ i.toInt) (h6 : i.toInt + 6 ≤ X.1) (c1 : 1 ≤ c.toInt) (c2 : c.toInt ≤ 5) : inB (i + c) X.1 = true := by
  have e : (i + c).toInt = i.toInt + c.toInt := i_add (by omega) (by omega)
  exact inB_iff (by omega) (by omega)
theorem law_step {X : Scr} {h : Hp} {Q : Option Value → Hp → Prop} (hX : X.1 ≤ 3072) (i : Int32) (hi : INVD h) (h0 : 0 ≤ i.toInt) (q1 : Q (some (.int 1)) h) (nx : i.toInt + 6 ≤ X.1 → ∀ h', INVD h' → Ends X 1000 0 1297 [.ref OLDB, .ref 0, .ref 93, .int i] [] h' Q) : Ends X 1000 0 18 [.ref OLDB, .ref 0, .ref 93, .int i] [] h Q := by
  have eL : (Int32.ofNat X.1).toInt = X.1 := Int32.toInt_ofNat_of_lt (by omega)
  have i6 : (6 : Int32).toInt = 6 := rfl
  have e6 : (Int32.ofNat X.1 - 6).toInt = X.1 - 6 := by rw [i_sub (by rw [eL, i6]; omega) (by rw [eL, i6]; omega), eL, i6]
  refine w_law i hi.1.1.1.1.hs ⟨fun _ => q1, fun e => ?_⟩
  have e := cI e
  rw [e6] at e
  simp only [cndI, decide_eq_false_iff_not] at e
  have hx : i.toInt + 6 ≤ X.1 := by omega
  have b1 := inB_law (c := 1) hX h0 hx (by decide) (by decide)
  have b2 := inB_law (c := 2) hX h0 hx (by decide) (by decide)
  have b3 := inB_law (c := 3) hX h0 hx (by decide) (by decide)
  have b4 := inB_law (c := 4) hX h0 hx (by decide) (by decide)
  have b5 := inB_law (c := 5) hX h0 hx (by decide) (by decide)
  have n := nx hx
  exact ⟨inB_iff h0 (by omega), fun _ => n h hi, fun _ => lc_0 i b1 b2 b3 b4 b5 hi n, fun _ => lc_1 i b1 b2 b3 b4 b5 hi n, fun _ => lc_2 i b1 b2 b3 b4 b5 hi n, fun _ => lc_3 i b1 b2 b3 b4 b5 hi n, fun _ => lc_4 i b1 b2 b3 b4 b5 hi n, fun _ => lc_5 i b1 b2 b3 b4 b5 hi n, fun _ => lc_6 i b1 b2 b3 b4 b5 hi n, fun _ => lc_7 i b1 b2 b3 b4 b5 hi n, fun _ => lc_8 i b1 b2 b3 b4 b5 hi n, fun _ => lc_9 i b1 b2 b3 b4 b5 hi n, fun _ => lc_10 i b1 b2 b3 b4 b5 hi n, fun _ => lc_11 i b1 b2 b3 b4 b5 hi n, fun _ => lc_12 i b1 b2 b3 b4 b5 hi n, fun _ => lc_13 i b1 b2 b3 b4 b5 hi n, fun _ => lc_14 i b1 b2 b3 b4 b5 hi n, fun _ => lc_15 i b1 b2 b3 b4 b5 hi n, fun _ => lc_16 i b1 b2 b3 b4 b5 hi n, fun _ => lc_17 i b1 b2 b3 b4 b5 hi n, fun _ => lc_18 i b1 b2 b3 b4 b5 hi n, fun _ => lc_19 i b1 b2 b3 b4 b5 hi n, fun _ => lc_20 i b1 b2 b3 b4 b5 hi n, fun _ => lc_21 i b1 b2 b3 b4 b5 hi n, fun _ => lc_22 i b1 b2 b3 b4 b5 hi n, fun _ => lc_23 i b1 b2 b3 b4 b5 hi n, fun _ => lc_24 i b1 b2 b3 b4 b5 hi n, fun _ => lc_25 i b1 b2 b3 b4 b5 hi n, fun _ => lc_26 i b1 b2 b3 b4 b5 hi n, fun _ => lc_27 i b1 b2 b3 b4 b5 hi n, fun _ => lc_28 i b1 b2 b3 b4 b5 hi n, fun _ => lc_29 i b1 b2 b3 b4 b5 hi n, fun _ => lc_30 i b1 b2 b3 b4 b5 hi n, fun _ => lc_31 i b1 b2 b3 b4 b5 hi n, fun _ => lc_32 i b1 b2 b3 b4 b5 hi n, fun _ => lc_33 i b1 b2 b3 b4 b5 hi n, fun _ => lc_34 i b1 b2 b3 b4 b5 hi n, fun _ => lc_35 i b1 b2 b3 b4 b5 hi n⟩
theorem law_go {X : Scr} (hX : X.1 ≤ 3072) (n : Nat) : ∀ (i : Int32) (h : Hp), INVD h → 0 ≤ i.toInt → (X.1 : Int) < i.toInt + 6 * n + 6 → Ends X 1000 0 18 [.ref OLDB, .ref 0, .ref 93, .int i] [] h (fun v h' => v = some (.int 1) ∧ INVD h') := by
  induction n with
  | zero => exact fun i h hi h0 hm => law_step hX i hi h0 ⟨rfl, hi⟩ (fun hx => by omega)
  | succ n ih =>
    intro i h hi h0 hm
    refine law_step hX i hi h0 ⟨rfl, hi⟩ (fun hx h' hi' => w_lawn i hi'.1.1.1.1.hs ?_)
    have i6 : (6 : Int32).toInt = 6 := rfl
    have e : (i + 6).toInt = i.toInt + 6 := by rw [i_add (by rw [i6]; omega) (by rw [i6]; omega), i6]
    exact ih (i + 6) h' hi' (by omega) (by omega)
theorem e_new {X : Scr} {dp y pc p0 len ci q n : Nat} {k : Nat} {L st : List Value} {h : Hp} {Q : Option Value → Hp → Prop} (he : pAt y pc = some (p0, .new k, len, [ci, q])) (hl : h.1.length = n) (hn : n < 1000) (hci : ci < 8) (e : Ends X dp y (pc + 3) L (.ref n :: st) (objNew h ci) Q) : Ends X dp y pc L st h Q := by
  refine Ends.step he rfl rfl ?_ e
  show (if h.1.length < OLDB ∧ ci < 8 then some (pc + 3, L, Value.ref h.1.length :: st, objNew h ci) else none) = _
  have hB := OLDB_eq
  rw [if_pos ⟨by omega, hci⟩, hl]
theorem mk1_E {X : Scr} : Ends X 999 62 0 (entL (mMaxL 62) [.ref 0]) [] (objNew hp0 6) (fun v h' => v = none ∧ h' = hA) :=
  ⟨3000, none, hA, run_dpl (dp := 20) (by decide) (run0_run _ _ _ _ _ _ _ _ mk1_eq.1), rfl, rfl⟩
theorem mk2_E {X : Scr} : Ends X 999 108 0 (entL (mMaxL 108) [.ref 93]) [] (objNew hA 7) (fun v h' => v = none ∧ h' = hI0) :=
  ⟨3000, none, hI0, run_dpl (dp := 20) (by decide) (run0_run _ _ _ _ _ _ _ _ mk2_eq.1), rfl, rfl⟩
theorem law_run {X : Scr} (hX : X.1 ≤ 3072) : Ends X 1000 0 0 lL0 [] hp0 (fun v h' => v = some (.int 1) ∧ INVD h') := by
  have ra : ∀ {a : Nat}, a < 1000 → a ≤ OLDB := fun h => by have := OLDB_eq; omega
  refine e_new (show pAt 0 0 = some (0, .new 7, 3, [6, 1018]) from by decide +kernel) (n := 0) rfl (by decide) (by decide) ?_
  refine e_dupR (show pAt 0 3 = some (3, .dup, 1, []) from by decide +kernel) ?_
  refine Ends.call (show pAt 0 4 = some (4, .invokespecial 9, 3, [62, 1, 1, 0, 1020, 1021, 0]) from by decide +kernel) (isRet_none rfl) rfl (by decide +kernel) (Ends.mono mk1_E ?_)
  intro v h' q
  rw [q.1, q.2]
  clear q
  clear v h'
  refine e_astore_n (show pAt 0 7 = some (7, .astore_n 1, 1, []) from by decide +kernel) ⟨Nat.le_of_ble_eq_true rfl, rfl⟩ (ra (by decide)) rfl ?_
  refine e_new (show pAt 0 8 = some (8, .new 10, 3, [7, 4117]) from by decide +kernel) (n := 93) mk1_eq.2 (by decide) (by decide) ?_
  refine e_dupR (show pAt 0 11 = some (11, .dup, 1, []) from by decide +kernel) ?_
  refine Ends.call (show pAt 0 12 = some (12, .invokespecial 12, 3, [108, 1, 1, 0, 4119, 4120, 0]) from by decide +kernel) (isRet_none rfl) rfl (by decide +kernel) (Ends.mono mk2_E ?_)
  intro v h' q
  rw [q.1, q.2]
  clear q
  clear v h'
  refine e_astore_n (show pAt 0 15 = some (15, .astore_n 2, 1, []) from by decide +kernel) ⟨Nat.le_of_ble_eq_true rfl, rfl⟩ (ra (by decide)) rfl ?_
  refine e_iconst (c := 0) (show pAt 0 16 = some (16, .iconst 0, 1, []) from by decide +kernel) (by decide) ?_
  refine e_istore_n (show pAt 0 17 = some (17, .istore_n 3, 1, []) from by decide +kernel) ⟨Nat.le_of_ble_eq_true rfl, rfl⟩ rfl ?_
  exact law_go hX X.1 0 hI0 INVD_0 (by decide) (by show (X.1 : Int) < 0 + 6 * X.1 + 6; omega)
theorem whole_start {p : Program} {e : Env} {s : State} {m : MethodId} {below : List Frame} {meth : Method} {c : Code} (l : Launch) (hflags : l.flags = flags0) {b L : Nat} {xs : Nat → Int32} (hL : L ≤ 3072) (C0 : lw_At p s m meth c b L xs) : W p l e room_1 s m #[Value.ref b] below meth c s.heap [] 0 0 (lw_Z below #[Value.ref b] s) (entryFrame m ([Value.ref b] : List Value).toArray 4) := by
  obtain ⟨n, v, h', hr, rfl, hi⟩ := law_run (X := (L, xs)) hL
  exact law_sound l C0 hr (by decide) (by rw [hi.1.1.1.1.1]; decide +kernel) (by rw [hi.1.1.1.1.1]; decide +kernel)
end JN99u3loop
