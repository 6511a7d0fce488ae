/-! what the search of the class has in use, behind its small steps -/
def hasb (o k : Int32) : Int := if (o &&& k).toInt = 0 then 0 else 1
theorem hasb_01 (o k : Int32) : hasb o k = 0 ∨ hasb o k = 1 := by unfold hasb; split <;> omega
section LVX
variable {R R' Lk Lk' S S' I I' : Int} {nr nl : Nat} {ra ra' la la' : Nat → Nat} {rf rf' : Nat → RT} {sf sf' : Nat → ST}
/-- a row more, behind those in use -/
theorem lvr_row {k : Nat} {a b c d : Int32} {x y z : Option Nat} (h : LVR R Lk ra rf la) (hk : (k : Int) = R) (hra : ∀ m : Nat, (m : Int) < R → ra' m = ra m) (hla : ∀ m : Nat, (m : Int) < Lk → la' m = la m) (hL : Lk ≤ Lk') (ho : ∀ j : Nat, j ≠ k → rf' j = rf j) (hs : rf' k = (a, b, c, x, y, z, d)) (hx : PB la' Lk' x) (hy : PB la' Lk' y) (hz : PB ra' R z) : LVR (R + 1) Lk' ra' rf' la' := by
  intro i hi
  by_cases e : i = k
  · rw [e, hs]
    exact ⟨hx, hy, pb_mono hz (by omega) (fun _ _ => rfl)⟩
  · rw [ho i e]
    obtain ⟨h1, h2, h3⟩ := h i (by omega)
    exact ⟨pb_mono h1 hL hla, pb_mono h2 hL hla, pb_mono h3 (by omega) (fun m hm => hra m (by omega))⟩
theorem lvr_less (h : LVR R Lk ra rf la) (hR : R' ≤ R) (hp : ∀ i : Nat, (i : Int) < R' → PB la Lk' (rf i).2.2.2.1 ∧ PB la Lk' (rf i).2.2.2.2.1) : LVR R' Lk' ra rf la := fun i hi => by
  obtain ⟨-, -, h3⟩ := h i (by omega)
  obtain ⟨h1, h2⟩ := hp i hi
  exact ⟨h1, h2, h3⟩
theorem lvr_cast (h : LVR R Lk ra rf la) (e : R = R') (f : Lk = Lk') : LVR R' Lk' ra rf la := by rw [← e, ← f]; exact h
/-- the steps in use, as rows and links grow behind their marks -/
theorem lvs_mono (h : LVS R Lk S I ra rf la sf) (hR : R ≤ R') (hL : Lk ≤ Lk') (hI : I ≤ I') (hra : ∀ m : Nat, (m : Int) < R → ra' m = ra m) (hla : ∀ m : Nat, (m : Int) < Lk → la' m = la m) (hrf : ∀ m : Nat, (m : Int) < R → rf' m = rf m) : LVS R' Lk' S I' ra' rf' la' sf := by
  intro j hj
  obtain ⟨⟨q, q1, q2, q3⟩, h2, h3, h4, h5, h6, h7⟩ := h j hj
  refine ⟨⟨q, q1, by rw [q2, hra q (by omega)], by rw [hrf q (by omega)]; exact q3⟩, pb_mono h2 (by omega) (fun m hm => hla m (by omega)), by omega, by omega, by omega, fun i hi => ?_, h7⟩
  rw [hrf i (by omega)]
  obtain ⟨g1, g2⟩ := h6 i hi
  exact ⟨pb_mono g1 (by omega) (fun m hm => hla m (by omega)), pb_mono g2 (by omega) (fun m hm => hla m (by omega))⟩
/-- a step's own fields change, but not its row, its marks; its link goes back -/
theorem lvs_set {k : Nat} (h : LVS R Lk S I ra rf la sf) (ho : ∀ j : Nat, j ≠ k → sf' j = sf j) (h1 : (sf' k).1 = (sf k).1) (h2 : PB la (sLM (sf k)) (sf' k).2.2.2.2.2.1) (hm : sRM (sf' k) = sRM (sf k) ∧ sLM (sf' k) = sLM (sf k) ∧ sIM (sf' k) = sIM (sf k)) : LVS R Lk S I ra rf la sf' := by
  have mk : ∀ j : Nat, sRM (sf' j) = sRM (sf j) ∧ sLM (sf' j) = sLM (sf j) ∧ sIM (sf' j) = sIM (sf j) := fun j => by
    by_cases e : j = k
    · rw [e]; exact hm
    · rw [ho j e]; exact ⟨rfl, rfl, rfl⟩
  intro j hj
  obtain ⟨⟨q, q1, q2, q3⟩, g2, g3, g4, g5, g6, g7⟩ := h j hj
  obtain ⟨m1, m2, m3⟩ := mk j
  rw [m1, m2, m3]
  refine ⟨⟨q, q1, ?_, q3⟩, ?_, g3, g4, g5, g6, fun i hi => ?_⟩
  · by_cases e : j = k
    · rw [e, h1, ← e]; exact q2
    · rw [ho j e]; exact q2
  · by_cases e : j = k
    · rw [e]; exact h2
    · rw [ho j e]; exact g2
  · obtain ⟨n1, n2, n3⟩ := mk i
    rw [n1, n2, n3]; exact g7 i hi
theorem lvs_cast (h : LVS R Lk S I ra rf la sf) (e : R = R') (f : Lk = Lk') (g : S = S') (i : I = I') : LVS R' Lk' S' I' ra rf la sf := by rw [← e, ← f, ← g, ← i]; exact h
theorem lvs_less (h : LVS R Lk S I ra rf la sf) (hS : S' ≤ S) : LVS R Lk S' I ra rf la sf := fun j hj => h j (by omega)
/-- all is freed behind the latest step's marks -/
theorem lvs_free {k : Nat} (h : LVS R Lk S I ra rf la sf) (hk : (k : Int) + 1 = S) : LVS (sRM (sf k)) (sLM (sf k)) S (sIM (sf k)) ra rf la sf := by
  intro j hj
  obtain ⟨g1, g2, g3, g4, g5, g6, g7⟩ := h j hj
  have : sRM (sf j) ≤ sRM (sf k) ∧ sLM (sf j) ≤ sLM (sf k) ∧ sIM (sf j) ≤ sIM (sf k) := by
    by_cases e : j = k
    · rw [e]; exact ⟨Int.le_refl _, Int.le_refl _, Int.le_refl _⟩
    · exact (h k (by omega)).2.2.2.2.2.2 j (by omega)
  exact ⟨g1, g2, by omega, by omega, by omega, g6, g7⟩
/-- a step more -/
theorem lvs_step {k q : Nat} (h : LVS R Lk S I ra rf la sf) (hr : LVR R Lk ra rf la) (hk : (k : Int) = S) (ho : ∀ j : Nat, j ≠ k → sf' j = sf j) (hrow : (sf' k).1 = some (ra q)) (hq : (q : Int) < R) (hn : (rf q).2.2.1.toInt ≤ 5) (hl : (sf' k).2.2.2.2.2.1 = (rf q).2.2.2.1) (hm : sRM (sf' k) = R ∧ sLM (sf' k) = Lk ∧ sIM (sf' k) = I) (hR : 0 ≤ R ∧ R ≤ 1 + 2 * S) (hL : 0 ≤ Lk ∧ Lk ≤ S + I - 1) (hI : 1 ≤ I) : LVS R Lk (S + 1) I ra rf la sf' := by
  intro j hj
  by_cases e : j = k
  · rw [e, hm.1, hm.2.1, hm.2.2]
    refine ⟨⟨q, hq, hrow, hn⟩, by rw [hl]; exact (hr q hq).1, by omega, by omega, by omega, fun i hi => ⟨(hr i hi).1, (hr i hi).2.1⟩, fun i hi => ?_⟩
    rw [ho i (by omega)]
    have := h i (by omega)
    exact ⟨this.2.2.1.2.1, this.2.2.2.1.2.1, this.2.2.2.2.1.2⟩
  · rw [ho j e]
    obtain ⟨g1, g2, g3, g4, g5, g6, g7⟩ := h j (by omega)
    refine ⟨g1, g2, g3, g4, g5, g6, fun i hi => ?_⟩
    rw [ho i (by omega)]; exact g7 i hi
end LVX
theorem sok_set {ns nr nl k : Nat} {ra la : Nat → Nat} {sf sf' : Nat → ST} {r l : Option Nat} {a b c d e f g h i j : Int32} (hs : SOK ns sf nr ra nl la) (ho : ∀ j : Nat, j ≠ k → sf' j = sf j) (hk : sf' k = (r, a, b, c, d, l, e, f, g, h, i, j)) (h1 : PB ra nr r) (h2 : 0 ≤ b.toInt ∧ b.toInt ≤ 29) (h3 : 0 ≤ c.toInt ∧ c.toInt ≤ 5) (h4 : 0 ≤ d.toInt ∧ d.toInt ≤ 1) (h5 : PB la nl l) (h6 : 0 ≤ e.toInt ∧ e.toInt ≤ 96) (h7 : 0 ≤ f.toInt ∧ f.toInt ≤ 1) : SOK ns sf' nr ra nl la := fun j hj => by
  by_cases q : j = k
  · rw [q, hk]; exact ⟨h1, h2, h3, h4, h5, h6, h7⟩
  · rw [ho j q]; exact hs j hj
