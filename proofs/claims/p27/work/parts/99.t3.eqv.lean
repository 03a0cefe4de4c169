/-! What both sides hold alike, group by group. -/
def eqr (h : Hp) (a b n : Nat) : Prop := ∀ j, j < n → h.2.1 a j = h.2.1 b j
theorem eqr_fr {h h' : Hp} {a b n : Nat} (ha : ∀ j, h'.2.1 a j = h.2.1 a j) (hb : ∀ j, h'.2.1 b j = h.2.1 b j) (e : eqr h a b n) : eqr h' a b n := fun j hj => by rw [ha j, hb j]; exact e j hj
/-- from place 4 * s on only 0 -/
def zrr (h : Hp) (a : Nat) (s : Int32) : Prop := ∀ j, 4 * s.toInt.toNat ≤ j → j < 28 → h.2.1 a j = 0
theorem zrr_fr {h h' : Hp} {a : Nat} {s s' : Int32} (ha : ∀ j, h'.2.1 a j = h.2.1 a j) (hs : s' = s) (e : zrr h a s) : zrr h' a s' := fun j h1 h2 => by rw [ha j]; exact e j (hs ▸ h1) h2
def EK (h : Hp) : Prop := eqr h 2 94 7 ∧ eqr h 3 95 7 ∧ eqr h 5 97 7 ∧ eqr h 10 115 7 ∧ eqr h 11 116 7 ∧ eqr h 13 118 7
def SEK : List (Nat × Nat) := [(2, 999), (94, 999), (3, 999), (95, 999), (5, 999), (97, 999), (10, 999), (115, 999), (11, 999), (116, 999), (13, 999), (118, 999)]
theorem EK_f {W : List (Nat × Nat)} {h h' : Hp} (hd : disW SEK W = true) (hf : frm W h h') (e : EK h) : EK h' := by
  have g : ∀ a k, inW SEK a k = true → h'.2.1 a k = h.2.1 a k := fun a k hs => (hf a k (dis_in hd hs)).1
  obtain ⟨e0, e1, e2, e3, e4, e5⟩ := e
  exact ⟨eqr_fr (fun j => g 2 j (by simp [inW, SEK])) (fun j => g 94 j (by simp [inW, SEK])) e0, eqr_fr (fun j => g 3 j (by simp [inW, SEK])) (fun j => g 95 j (by simp [inW, SEK])) e1, eqr_fr (fun j => g 5 j (by simp [inW, SEK])) (fun j => g 97 j (by simp [inW, SEK])) e2, eqr_fr (fun j => g 10 j (by simp [inW, SEK])) (fun j => g 115 j (by simp [inW, SEK])) e3, eqr_fr (fun j => g 11 j (by simp [inW, SEK])) (fun j => g 116 j (by simp [inW, SEK])) e4, eqr_fr (fun j => g 13 j (by simp [inW, SEK])) (fun j => g 118 j (by simp [inW, SEK])) e5⟩
def ER (h : Hp) : Prop := eqr h 7 99 28 ∧ eqr h 15 120 28 ∧ zrr h 7 (h.2.1 1 0) ∧ zrr h 15 (h.2.1 9 0)
def SER : List (Nat × Nat) := [(7, 999), (99, 999), (15, 999), (120, 999), (1, 0), (9, 0)]
theorem ER_f {W : List (Nat × Nat)} {h h' : Hp} (hd : disW SER W = true) (hf : frm W h h') (e : ER h) : ER h' := by
  have g : ∀ a k, inW SER a k = true → h'.2.1 a k = h.2.1 a k := fun a k hs => (hf a k (dis_in hd hs)).1
  obtain ⟨e0, e1, e2, e3⟩ := e
  exact ⟨eqr_fr (fun j => g 7 j (by simp [inW, SER])) (fun j => g 99 j (by simp [inW, SER])) e0, eqr_fr (fun j => g 15 j (by simp [inW, SER])) (fun j => g 120 j (by simp [inW, SER])) e1, zrr_fr (fun j => g 7 j (by simp [inW, SER])) (g 1 0 (by simp [inW, SER])) e2, zrr_fr (fun j => g 15 j (by simp [inW, SER])) (g 9 0 (by simp [inW, SER])) e3⟩
def EB (h : Hp) : Prop := eqr h 8 114 12 ∧ eqr h 16 121 12 ∧ h.2.1 1 11 = h.2.1 93 42 ∧ h.2.1 9 11 = h.2.1 93 50
def SEB : List (Nat × Nat) := [(8, 999), (114, 999), (16, 999), (121, 999), (1, 11), (93, 42), (9, 11), (93, 50)]
theorem EB_f {W : List (Nat × Nat)} {h h' : Hp} (hd : disW SEB W = true) (hf : frm W h h') (e : EB h) : EB h' := by
  have g : ∀ a k, inW SEB a k = true → h'.2.1 a k = h.2.1 a k := fun a k hs => (hf a k (dis_in hd hs)).1
  obtain ⟨e0, e1, e2, e3⟩ := e
  exact ⟨eqr_fr (fun j => g 8 j (by simp [inW, SEB])) (fun j => g 114 j (by simp [inW, SEB])) e0, eqr_fr (fun j => g 16 j (by simp [inW, SEB])) (fun j => g 121 j (by simp [inW, SEB])) e1, by rw [g 1 11 (by simp [inW, SEB]), g 93 42 (by simp [inW, SEB])]; exact e2, by rw [g 9 11 (by simp [inW, SEB]), g 93 50 (by simp [inW, SEB])]; exact e3⟩
def ES (h : Hp) : Prop := h.2.1 1 9 = h.2.1 93 41 ∧ h.2.1 9 9 = h.2.1 93 49
def SES : List (Nat × Nat) := [(1, 9), (93, 41), (9, 9), (93, 49)]
theorem ES_f {W : List (Nat × Nat)} {h h' : Hp} (hd : disW SES W = true) (hf : frm W h h') (e : ES h) : ES h' := by
  have g : ∀ a k, inW SES a k = true → h'.2.1 a k = h.2.1 a k := fun a k hs => (hf a k (dis_in hd hs)).1
  obtain ⟨e0, e1⟩ := e
  exact ⟨by rw [g 1 9 (by simp [inW, SES]), g 93 41 (by simp [inW, SES])]; exact e0, by rw [g 9 9 (by simp [inW, SES]), g 93 49 (by simp [inW, SES])]; exact e1⟩
def EA (h : Hp) : Prop := eqr h 52 122 20 ∧ h.2.1 51 4 = h.2.1 93 58
def SEA : List (Nat × Nat) := [(52, 999), (122, 999), (51, 4), (93, 58)]
theorem EA_f {W : List (Nat × Nat)} {h h' : Hp} (hd : disW SEA W = true) (hf : frm W h h') (e : EA h) : EA h' := by
  have g : ∀ a k, inW SEA a k = true → h'.2.1 a k = h.2.1 a k := fun a k hs => (hf a k (dis_in hd hs)).1
  obtain ⟨e0, e1⟩ := e
  exact ⟨eqr_fr (fun j => g 52 j (by simp [inW, SEA])) (fun j => g 122 j (by simp [inW, SEA])) e0, by rw [g 51 4 (by simp [inW, SEA]), g 93 58 (by simp [inW, SEA])]; exact e1⟩
def ET (h : Hp) : Prop := eqr h 54 123 6 ∧ eqr h 55 124 6 ∧ (∀ t k, t < 6 → k < 60 → h.2.2.1 (57 + t) k = h.2.2.1 125 (60 * t + k)) ∧ (∀ t, t < 6 → (h.2.1 54 t).toInt = -1 → h.2.1 55 t = 0) ∧ ∀ t k, t < 6 → k < 60 → (h.2.1 54 t).toInt = 4 → (h.2.2.1 (57 + t) k = 0 ∨ h.2.2.1 (57 + t) k = 1)
def SET : List (Nat × Nat) := [(54, 999), (123, 999), (55, 999), (124, 999), (57, 999), (58, 999), (59, 999), (60, 999), (61, 999), (62, 999), (125, 999)]
theorem ST_row (t : Nat) (ht : t < 6) (k : Nat) : inW SET (57 + t) k = true := by
  match t, ht with
  | 0, _ => simp [inW, SET]
  | 1, _ => simp [inW, SET]
  | 2, _ => simp [inW, SET]
  | 3, _ => simp [inW, SET]
  | 4, _ => simp [inW, SET]
  | 5, _ => simp [inW, SET]
  | t + 6, h => omega
theorem ET_f {W : List (Nat × Nat)} {h h' : Hp} (hd : disW SET W = true) (hf : frm W h h') (e : ET h) : ET h' := by
  have g : ∀ a k, inW SET a k = true → h'.2.1 a k = h.2.1 a k := fun a k hs => (hf a k (dis_in hd hs)).1
  have gl : ∀ a k, inW SET a k = true → h'.2.2.1 a k = h.2.2.1 a k := fun a k hs => (hf a k (dis_in hd hs)).2.1
  obtain ⟨e0, e1, e2, e3, e4⟩ := e
  exact ⟨eqr_fr (fun j => g 54 j (by simp [inW, SET])) (fun j => g 123 j (by simp [inW, SET])) e0, eqr_fr (fun j => g 55 j (by simp [inW, SET])) (fun j => g 124 j (by simp [inW, SET])) e1, fun t k ht hk => by rw [gl (57 + t) k (ST_row t ht k), gl 125 (60 * t + k) (by simp [inW, SET])]; exact e2 t k ht hk, fun t ht c => by rw [g 54 t (by simp [inW, SET])] at c; rw [g 55 t (by simp [inW, SET])]; exact e3 t ht c, fun t k ht hk c => by rw [g 54 t (by simp [inW, SET])] at c; rw [gl (57 + t) k (ST_row t ht k)]; exact e4 t k ht hk c⟩
def EQV (h : Hp) : Prop := EK h ∧ ER h ∧ EB h ∧ ES h ∧ EA h ∧ ET h
def SUPE : List (Nat × Nat) := SEK ++ SER ++ SEB ++ SES ++ SEA ++ SET
theorem dis_app {S T W : List (Nat × Nat)} (h : disW (S ++ T) W = true) : disW S W = true ∧ disW T W = true := by
  unfold disW at h ⊢
  constructor
  · exact List.all_eq_true.mpr (fun q hq => by
      have := List.all_eq_true.mp h q hq
      rw [List.all_append, Bool.and_eq_true] at this
      exact this.1)
  · exact List.all_eq_true.mpr (fun q hq => by
      have := List.all_eq_true.mp h q hq
      rw [List.all_append, Bool.and_eq_true] at this
      exact this.2)
theorem EQV_f {W : List (Nat × Nat)} {h h' : Hp} (hd : disW SUPE W = true) (hf : frm W h h') (e : EQV h) : EQV h' := by
  obtain ⟨e1, e2, e3, e4, e5, e6⟩ := e
  have d5 := dis_app hd
  have d4 := dis_app d5.1
  have d3 := dis_app d4.1
  have d2 := dis_app d3.1
  have d1 := dis_app d2.1
  exact ⟨EK_f d1.1 hf e1, ER_f d1.2 hf e2, EB_f d2.2 hf e3, ES_f d3.2 hf e4, EA_f d4.2 hf e5, ET_f d5.2 hf e6⟩
def INVE (h : Hp) : Prop := INV h ∧ EQV h
