/-! THE WORLD: 97 cells of fixed shape; what changes are numbers alone: rows of ints, rows of longs. -/
abbrev Uw : Type := (Nat → Nat → Int32) × (Nat → Nat → Int64)
def w1 (u : Uw) (r k : Nat) (x : Int32) : Uw := (fun a b => if a = r ∧ b = k then x else u.1 a b, u.2)
def w2 (u : Uw) (r k : Nat) (x : Int64) : Uw := (u.1, fun a b => if a = r ∧ b = k then x else u.2 a b)
def cp1 (u : Uw) (f : Nat → Int32) (r k n : Nat) : Uw := (fun a b => if a = r ∧ k ≤ b ∧ b < k + n then f (b - k) else u.1 a b, u.2)
def cp2 (u : Uw) (f : Nat → Int64) (r k n : Nat) : Uw := (u.1, fun a b => if a = r ∧ k ≤ b ∧ b < k + n then f (b - k) else u.2 a b)
def kTl : List Nat := [3, 13, 14, 0, 0, 0, 0, 0, 0, 10, 10, 10, 10, 10, 10, 1, 1, 1, 1, 1, 1, 1, 1, 3, 13, 14, 0, 0, 0, 0, 0, 0, 10, 10, 10, 10, 10, 10, 1, 1, 1, 1, 1, 1, 1, 1, 3, 13, 14, 0, 0, 0, 0, 0, 0, 10, 10, 10, 10, 10, 10, 1, 1, 1, 1, 1, 1, 1, 1, 5, 4, 12, 15, 2, 2, 2, 2, 11, 11, 11, 11, 10, 10, 1, 0, 10, 6, 10, 10, 10, 10, 10, 10, 10, 10, 11, 11]
def kT (k : Nat) : Nat := kTl.getD k 99
def kRl : List Nat := [0, 0, 0, 0, 0, 0, 0, 0, 0, 0, 0, 0, 0, 0, 0, 0, 0, 0, 0, 0, 0, 0, 0, 1, 1, 1, 1, 1, 1, 1, 1, 1, 1, 1, 1, 1, 1, 1, 1, 1, 1, 1, 1, 1, 1, 1, 2, 2, 2, 2, 2, 2, 2, 2, 2, 2, 2, 2, 2, 2, 2, 2, 2, 2, 2, 2, 2, 2, 2, 9, 7, 8, 0, 10, 11, 12, 13, 10, 11, 12, 13, 3, 4, 5, 6, 6, 25, 20, 21, 22, 23, 24, 26, 27, 28, 29, 30]
def kR (k : Nat) : Nat := kRl.getD k 99
def kOl : List Nat := [0, 0, 0, 7, 12, 17, 22, 27, 32, 7, 12, 17, 22, 27, 32, 37, 40, 43, 46, 49, 52, 55, 58, 0, 0, 0, 7, 12, 17, 22, 27, 32, 7, 12, 17, 22, 27, 32, 37, 40, 43, 46, 49, 52, 55, 58, 0, 0, 0, 7, 12, 17, 22, 27, 32, 7, 12, 17, 22, 27, 32, 37, 40, 43, 46, 49, 52, 55, 58, 0, 0, 0, 0, 0, 0, 0, 0, 0, 0, 0, 0, 0, 0, 0, 0, 0, 0, 0, 0, 0, 0, 0, 0, 0, 0, 0, 0]
def kO (k : Nat) : Nat := kOl.getD k 99
def kLl : List Nat := [0, 6, 8, 0, 0, 0, 0, 0, 0, 5, 5, 5, 5, 5, 5, 0, 0, 0, 0, 0, 0, 0, 0, 0, 6, 8, 0, 0, 0, 0, 0, 0, 5, 5, 5, 5, 5, 5, 0, 0, 0, 0, 0, 0, 0, 0, 0, 6, 8, 0, 0, 0, 0, 0, 0, 5, 5, 5, 5, 5, 5, 0, 0, 0, 0, 0, 0, 0, 0, 0, 0, 120, 4, 0, 0, 0, 0, 40, 40, 40, 40, 7, 400, 0, 0, 5, 0, 61, 61, 61, 61, 7, 120, 4, 4, 160, 40]
def kL (k : Nat) : Nat := kLl.getD k 99
def kNl : List Nat := [0, 0, 0, 9, 10, 11, 12, 13, 14, 0, 0, 0, 0, 0, 0, 0, 0, 0, 0, 0, 0, 0, 0, 0, 0, 0, 32, 33, 34, 35, 36, 37, 0, 0, 0, 0, 0, 0, 0, 0, 0, 0, 0, 0, 0, 0, 0, 0, 0, 55, 56, 57, 58, 59, 60, 0, 0, 0, 0, 0, 0, 0, 0, 0, 0, 0, 0, 0, 0, 0, 0, 0, 0, 0, 0, 0, 0, 0, 0, 0, 0, 0, 0, 0, 85, 0, 0, 0, 0, 0, 0, 0, 0, 0, 0, 0, 0]
def kN (k : Nat) : Nat := kNl.getD k 99
def owl : List Nat := [99, 99, 99, 81, 82, 83, 85, 70, 71, 69, 73, 74, 75, 76, 99, 99, 99, 99, 99, 99, 87, 88, 89, 90, 91, 86, 92, 93, 94]
def ow2l : List Nat := [99, 99, 99, 99, 99, 99, 99, 99, 99, 99, 77, 78, 79, 80, 99, 99, 99, 99, 99, 99, 99, 99, 99, 99, 99, 99, 99, 99, 99, 95, 96]
def ow (r b : Nat) : Nat := if r < 3 then (if b < 7 then 23 * r else if b < 37 then 23 * r + 9 + (b - 7) / 5 else 23 * r + 15 + (b - 37) / 3) else owl.getD r 99
def ow2 (r : Nat) : Nat := ow2l.getD r 99
def cn (k : Nat) : Nat := match kT k with | 1 => 3 | 2 => 2 | 3 => 7 | 4 => 5 | 5 => 1 | 6 => 6 | 10 => kL k | 12 => kL k | _ => 0
def cl (k : Nat) : Nat := match kT k with | 11 => kL k | _ => 0
def mk1 (n : Nat) (f : Nat → Int32) : Nat → Int32 := fun i => if i < n then f i else 0
def mk2 (n : Nat) (f : Nat → Int64) : Nat → Int64 := fun i => if i < n then f i else 0
/-- an object's fields: its class's number, its own, its ints -/
def fl (ad : Nat → Nat) (k : Nat) (g : Nat → Int32) (t : Nat) : List Value := match t with
  | 0 => [.ref (ad (kN k))]
  | 1 => [.int (g 0), .int (g 1), .int (g 2)]
  | 2 => [.int (g 0), .int (g 1), .ref (ad (k + 4))]
  | 3 => [.int (g 2), .int (g 3), .int (g 4), .int (g 5), .int (g 6), .int (g 0), .int (g 1), .ref (ad (k + 1)), .ref (ad (k + 2))]
  | 4 => [.ref (ad 71), .int (g 0), .ref (ad 46), .int (g 1), .int (g 2), .int (g 3), .int (g 4)]
  | 5 => [.ref (ad 0), .ref (ad 23), .int (g 0), .ref (ad 70), .ref (ad 72), .ref (ad 81), .ref (ad 82), .ref (ad 83), .ref (ad 84)]
  | 6 => [.ref (ad 87), .ref (ad 88), .ref (ad 89), .ref (ad 90), .ref (ad 91), .int (g 0), .ref (ad 92), .int (g 1), .int (g 2), .int (g 3), .int (g 4), .int (g 5), .ref (ad 93), .ref (ad 94), .ref (ad 95), .ref (ad 96)]
  | _ => []
def cellF (ad : Nat → Nat) (cA : Nat → ClassId) (k : Nat) (g : Nat → Int32) (h : Nat → Int64) : va_E := match kT k with
  | 10 => .inl (cA 0, kL k, .inl (mk1 (kL k) g))
  | 11 => .inl (cA 1, kL k, .inr (.inl (mk2 (kL k) h)))
  | 12 => .inl (cA 2, kL k, .inl (mk1 (kL k) g))
  | 13 => .inl (cA 3, 6, .inr (.inr (.inr (.inr (fun i => some (ad (k + 2 + i)))))))
  | 14 => .inl (cA 4, 8, .inr (.inr (.inr (.inr (fun i => some (ad (k + 13 + i)))))))
  | 15 => .inl (cA 5, 4, .inr (.inr (.inr (.inr (fun i => some (ad (73 + i)))))))
  | t => .inr (t, fl ad k g t)
def gk (u : Uw) (k : Nat) : Nat → Int32 := fun j => u.1 (kR k) (kO k + j)
def hk (u : Uw) (k : Nat) : Nat → Int64 := fun j => u.2 (kR k) j
def cellE (ad : Nat → Nat) (cA : Nat → ClassId) (u : Uw) (k : Nat) : va_E := cellF ad cA k (gk u k) (hk u k)
def wl (ad : Nat → Nat) (cA : Nat → ClassId) (u : Uw) : va_W := (List.range 97).map fun k => (ad k, cellE ad cA u k)
theorem wl_get {ad : Nat → Nat} {cA : Nat → ClassId} {u : Uw} {k : Nat} (h : k < 97) : (wl ad cA u)[k]? = some (ad k, cellE ad cA u k) := by simp [wl, h]
theorem kT_lt {k : Nat} (h : kT k ≠ 99) : k < 97 := by
  rcases Nat.lt_or_ge k 97 with q | q
  · exact q
  · exact absurd (by unfold kT; rw [List.getD_eq_getElem?_getD, List.getElem?_eq_none (show kTl.length ≤ k from q)]; rfl) h
theorem ty_cases : ∀ k, k < 97 → kT k = 0 ∨ kT k = 1 ∨ kT k = 2 ∨ kT k = 3 ∨ kT k = 4 ∨ kT k = 5 ∨ kT k = 6 ∨ kT k = 10 ∨ kT k = 11 ∨ kT k = 12 ∨ kT k = 13 ∨ kT k = 14 ∨ kT k = 15 := by decide +kernel
theorem ow_ok : ∀ k, k < 97 → ∀ j, j < cn k → ow (kR k) (kO k + j) = k := by decide +kernel
theorem ow2_ok : ∀ k, k < 97 → kT k = 11 → ow2 (kR k) = k := by decide +kernel
theorem mk1_congr {n : Nat} {f g : Nat → Int32} (h : ∀ j, j < n → f j = g j) : mk1 n f = mk1 n g := by
  funext i
  unfold mk1
  split
  · exact h i (by assumption)
  · rfl
theorem mk2_congr {n : Nat} {f g : Nat → Int64} (h : ∀ j, j < n → f j = g j) : mk2 n f = mk2 n g := by
  funext i
  unfold mk2
  split
  · exact h i (by assumption)
  · rfl
theorem cellF_congr {ad : Nat → Nat} {cA : Nat → ClassId} {k : Nat} {g g' : Nat → Int32} {h h' : Nat → Int64} (hk : k < 97) (hg : ∀ j, j < cn k → g j = g' j) (hh : ∀ j, j < cl k → h j = h' j) : cellF ad cA k g h = cellF ad cA k g' h' := by
  rcases ty_cases k hk with q | q | q | q | q | q | q | q | q | q | q | q | q <;> simp only [cn, cl, q] at hg hh <;> simp only [cellF, fl, q]
  · rw [hg 0 (by decide), hg 1 (by decide), hg 2 (by decide)]
  · rw [hg 0 (by decide), hg 1 (by decide)]
  · rw [hg 0 (by decide), hg 1 (by decide), hg 2 (by decide), hg 3 (by decide), hg 4 (by decide), hg 5 (by decide), hg 6 (by decide)]
  · rw [hg 0 (by decide), hg 1 (by decide), hg 2 (by decide), hg 3 (by decide), hg 4 (by decide)]
  · rw [hg 0 (by decide)]
  · rw [hg 0 (by decide), hg 1 (by decide), hg 2 (by decide), hg 3 (by decide), hg 4 (by decide), hg 5 (by decide)]
  · rw [mk1_congr hg]
  · rw [mk2_congr hh]
  · rw [mk1_congr hg]
/-- one cell's numbers change, all else stays -/
theorem wl_set {ad : Nat → Nat} {cA : Nat → ClassId} {u u' : Uw} {k : Nat} {e : va_E} (hk : k < 97) (he : cellE ad cA u' k = e) (ho : ∀ i, i < 97 → i ≠ k → cellE ad cA u' i = cellE ad cA u i) : (wl ad cA u).set k (ad k, e) = wl ad cA u' := by
  refine List.ext_getElem? fun i => ?_
  by_cases hi : i < 97
  · by_cases h : i = k
    · subst h
      rw [List.getElem?_set_self (by simp [wl, hi]), wl_get hi, he]
    · rw [List.getElem?_set_ne (Ne.symm h), wl_get hi, wl_get hi, ho i hi h]
  · have a1 : ((wl ad cA u).set k (ad k, e))[i]? = none := by simp [wl]; omega
    have a2 : (wl ad cA u')[i]? = none := by simp [wl]; omega
    rw [a1, a2]
theorem other1 {ad : Nat → Nat} {cA : Nat → ClassId} {u : Uw} {k i j : Nat} {x : Int32} (hk : k < 97) (hj : j < cn k) (hi : i < 97) (h : i ≠ k) : cellE ad cA (w1 u (kR k) (kO k + j) x) i = cellE ad cA u i := by
  refine cellF_congr hi (fun a ha => ?_) (fun _ _ => rfl)
  show (if kR i = kR k ∧ kO i + a = kO k + j then x else u.1 (kR i) (kO i + a)) = _
  rw [if_neg]
  · rfl
  · rintro ⟨h1, h2⟩
    refine h ?_
    rw [← ow_ok i hi a ha, h1, h2, ow_ok k hk j hj]
theorem gk_w1 {u : Uw} {k j : Nat} {x : Int32} : gk (w1 u (kR k) (kO k + j) x) k = fun i => if i = j then x else gk u k i := by
  funext i
  show (if kR k = kR k ∧ kO k + i = kO k + j then x else u.1 (kR k) (kO k + i)) = _
  by_cases h : i = j
  · subst h; simp
  · rw [if_neg (by omega), if_neg h]; rfl
theorem hk_w1 {u : Uw} {k i r b : Nat} {x : Int32} : hk (w1 u r b x) k i = hk u k i := rfl
theorem other2 {ad : Nat → Nat} {cA : Nat → ClassId} {u : Uw} {k i j : Nat} {x : Int64} (hk' : k < 97) (ht : kT k = 11) (hi : i < 97) (h : i ≠ k) : cellE ad cA (w2 u (kR k) j x) i = cellE ad cA u i := by
  refine cellF_congr hi (fun _ _ => rfl) (fun a ha => ?_)
  show (if kR i = kR k ∧ a = j then x else u.2 (kR i) a) = _
  rw [if_neg]
  · rfl
  · rintro ⟨h1, h2⟩
    have hi2 : kT i = 11 := by
      by_cases q : kT i = 11
      · exact q
      · exfalso
        rcases ty_cases i hi with q | q | q | q | q | q | q | q | q | q | q | q | q <;> simp_all [cl]
    refine h ?_
    rw [← ow2_ok i hi hi2, h1, ow2_ok k hk' ht]
theorem otherc1 {ad : Nat → Nat} {cA : Nat → ClassId} {u : Uw} {f : Nat → Int32} {k i j n : Nat} (hk : k < 97) (hj : j + n ≤ cn k) (hi : i < 97) (h : i ≠ k) : cellE ad cA (cp1 u f (kR k) (kO k + j) n) i = cellE ad cA u i := by
  refine cellF_congr hi (fun a ha => ?_) (fun _ _ => rfl)
  show (if kR i = kR k ∧ kO k + j ≤ kO i + a ∧ kO i + a < kO k + j + n then f (kO i + a - (kO k + j)) else u.1 (kR i) (kO i + a)) = _
  rw [if_neg]
  · rfl
  · rintro ⟨h1, h2, h3⟩
    refine h ?_
    have h4 : kO i + a = kO k + (kO i + a - kO k) := by omega
    rw [← ow_ok i hi a ha, h1, h4, ow_ok k hk _ (by omega)]
theorem otherc2 {ad : Nat → Nat} {cA : Nat → ClassId} {u : Uw} {f : Nat → Int64} {k i j n : Nat} (hk' : k < 97) (ht : kT k = 11) (hi : i < 97) (h : i ≠ k) : cellE ad cA (cp2 u f (kR k) j n) i = cellE ad cA u i := by
  refine cellF_congr hi (fun _ _ => rfl) (fun a ha => ?_)
  show (if kR i = kR k ∧ j ≤ a ∧ a < j + n then f (a - j) else u.2 (kR i) a) = _
  rw [if_neg]
  · rfl
  · rintro ⟨h1, h2⟩
    have hi2 : kT i = 11 := by
      by_cases q : kT i = 11
      · exact q
      · exfalso
        rcases ty_cases i hi with q | q | q | q | q | q | q | q | q | q | q | q | q <;> simp_all [cl]
    refine h ?_
    rw [← ow2_ok i hi hi2, h1, ow2_ok k hk' ht]
def injA (ad : Nat → Nat) : Prop := ∀ i j, i < 97 → j < 97 → ad i = ad j → i = j
def Aw (ad : Nat → Nat) : Nat → Prop := fun q => ∃ k, k < 97 ∧ q = ad k
theorem wl_D {ad : Nat → Nat} {cA : Nat → ClassId} {u : Uw} (h : injA ad) : va_D (Aw ad) (wl ad cA u) := by
  have key : ∀ (i : Nat) (p : Nat × va_E), (wl ad cA u)[i]? = some p → i < 97 ∧ p.1 = ad i := by
    intro i p hp
    have hi : i < 97 := by
      have := (List.getElem?_eq_some_iff.mp hp).1
      simpa [wl] using this
    rw [wl_get hi] at hp
    cases hp
    exact ⟨hi, rfl⟩
  refine ⟨fun i j p q hi hj hpq => ?_, fun k q hk => ?_⟩
  · obtain ⟨a1, a2⟩ := key i p hi
    obtain ⟨b1, b2⟩ := key j q hj
    exact h i j a1 b1 (by rw [← a2, ← b2, hpq])
  · obtain ⟨a1, a2⟩ := key k q hk
    exact ⟨k, a1, a2⟩
def tys (cA : Nat → ClassId) : List (ClassId × FieldType) := [(cA 0, .int), (cA 1, .long), (cA 2, .byte), (cA 3, .object RX0), (cA 4, .object RX1), (cA 5, .object RX2)]
/-- the words that a contract hands on: those of the tables that stay -/
def GW : List Cond := lw_tbl.filter goodWord
theorem GW_in {w : Cond} (h : w ∈ lw_tbl) (hg : goodWord w = true) : w ∈ GW := List.mem_filter.mpr ⟨h, hg⟩
theorem GW_good {w : Cond} (h : w ∈ GW) : (w.onTables && w.keeps) = true ∨ ∃ ty, w = .arrayClass ty := good_of_word (List.mem_filter.mp h).2
theorem GW_pay {args : Array Value} {s : State} (hts : ∀ w ∈ GW, w.before args s = true) : ∀ w ∈ GW, ∀ (a' : Array Value) (U : State), s.WarmedH U.vm → w.before a' U = true := fun w hw _ _ hW => word_at hW (GW_good hw) (hts w hw)

def stI : List Nat := [46, 55, 60, 90, 98, 99, 101, 117, 131, 133, 135, 137, 139, 141]
def stT : List String := ["pilgrim", "truth", "power", "begin", "length", "left", "reform", "trusts", "count", "old", "new", "cog", "leap", "monk"]
def stL : List Nat := [7, 5, 5, 5, 6, 4, 6, 6, 5, 3, 3, 3, 4, 4]
def stB : List (List Int32) := [[112, 105, 108, 103, 114, 105, 109], [116, 114, 117, 116, 104], [112, 111, 119, 101, 114], [98, 101, 103, 105, 110], [108, 101, 110, 103, 116, 104], [108, 101, 102, 116], [114, 101, 102, 111, 114, 109], [116, 114, 117, 115, 116, 115], [99, 111, 117, 110, 116], [111, 108, 100], [110, 101, 119], [99, 111, 103], [108, 101, 97, 112], [109, 111, 110, 107]]
def tbl3 : List (List Int32) := [[0, 0, 1, 0, 0], [5, 99, 60, 99, 9999], [0, 0, 30, 11, 50]]
def tbv (t j : Nat) : Int32 := (tbl3.getD t []).getD j 0
def tbn (t : Nat) : String := ["LEAST", "MOST", "FIRST"].getD t ""
def NW : List Cond := [Cond.methodLinkNest "EvenSpring$Spring" 27 yX0_init "EvenSpring", Cond.methodLinkNest "EvenSpring$Spring" 28 yX1_init "EvenSpring", Cond.fieldLinkNest "EvenSpring" 128 "EvenSpring$Pilgrim" "ill" "I" "EvenSpring", Cond.fieldLinkNest "EvenSpring$Spring" 92 "EvenSpring$Pilgrim" "ill" "I" "EvenSpring", Cond.fieldLinkNest "EvenSpring" 131 "EvenSpring$Pilgrim" "trusts" "I" "EvenSpring", Cond.fieldLinkNest "EvenSpring" 134 "EvenSpring$Pilgrim" "bathed" "I" "EvenSpring", Cond.fieldLinkNest "EvenSpring$Spring" 95 "EvenSpring$Pilgrim" "bathed" "I" "EvenSpring", Cond.fieldLinkNest "EvenSpring" 146 "EvenSpring$Spring" "day" "I" "EvenSpring", Cond.fieldLinkNest "EvenSpring$SpringText" 77 "EvenSpring$Spring" "power" "I" "EvenSpring", Cond.fieldLinkNest "EvenSpring" 108 "EvenSpring$Spring" "power" "I" "EvenSpring", Cond.fieldLinkNest "EvenSpring$SpringText" 75 "EvenSpring$Spring" "truth" "I" "EvenSpring", Cond.fieldLinkNest "EvenSpring" 111 "EvenSpring$Spring" "truth" "I" "EvenSpring", Cond.fieldLinkNest "EvenSpring" 167 "EvenSpring$Spring" "good" "I" "EvenSpring", Cond.fieldLinkNest "EvenSpring" 170 "EvenSpring$Spring" "bad" "I" "EvenSpring", Cond.fieldLinkNest "EvenSpring" 63 "EvenSpring$Spring" "calendarCount" "I" "EvenSpring", Cond.fieldLinkNest "EvenSpring$SpringText" 83 "EvenSpring$Spring" "calendarCount" "I" "EvenSpring", Cond.fieldLinkNest "EvenSpring$SpringText" 114 "EvenSpring$Spring" "pilgrimCount" "I" "EvenSpring", Cond.fieldLinkNest "EvenSpring" 117 "EvenSpring$Spring" "pilgrimCount" "I" "EvenSpring", Cond.methodLinkNest "EvenSpring" 21 yX4_init "EvenSpring", Cond.fieldLinkNest "EvenSpring" 216 "EvenSpring$SpringText" "length" "I" "EvenSpring", Cond.fieldLinkNest "EvenSpring" 227 "EvenSpring$SpringText" "told" "LEvenSpring$Spring;" "EvenSpring", Cond.methodLinkNest "EvenSpring" 41 yX1_init "EvenSpring", Cond.methodLinkNest "EvenSpring" 48 yX0_init "EvenSpring", Cond.methodLinkNest "EvenSpring" 53 yX2_init "EvenSpring", Cond.fieldLinkNest "EvenSpring" 259 "EvenSpring$Sheet" "bits" "I" "EvenSpring", Cond.fieldLinkNest "EvenSpring" 243 "EvenSpring$Sheet" "size" "I" "EvenSpring", Cond.fieldLinkNest "EvenSpring" 265 "EvenSpring$Sheet" "numbers" "[J" "EvenSpring", Cond.methodLinkNest "EvenSpring$Pilgrim" 34 yX5_isIn "EvenSpring", Cond.methodLinkNest "EvenSpring$Spring" 78 yX5_isIn "EvenSpring", Cond.methodLinkNest "EvenSpring$SpringText" 123 yX5_within "EvenSpring"]
theorem NW_on : ∀ w ∈ NW, w.onTables = true := by decide +kernel
theorem NW_warm {s U : State} (hW : s.WarmedH U.vm) (h : ∀ w ∈ NW, va_Nw w s) : ∀ w ∈ NW, va_Nw w U := by
  have h2 := h
  unfold NW at h2 ⊢
  simp only [List.forall_mem_cons] at h2 ⊢
  obtain ⟨a0, a1, a2, a3, a4, a5, a6, a7, a8, a9, a10, a11, a12, a13, a14, a15, a16, a17, a18, a19, a20, a21, a22, a23, a24, a25, a26, a27, a28, a29, -⟩ := h2
  exact ⟨va_Nw.warmM hW a0, va_Nw.warmM hW a1, va_Nw.warmF hW a2, va_Nw.warmF hW a3, va_Nw.warmF hW a4, va_Nw.warmF hW a5, va_Nw.warmF hW a6, va_Nw.warmF hW a7, va_Nw.warmF hW a8, va_Nw.warmF hW a9, va_Nw.warmF hW a10, va_Nw.warmF hW a11, va_Nw.warmF hW a12, va_Nw.warmF hW a13, va_Nw.warmF hW a14, va_Nw.warmF hW a15, va_Nw.warmF hW a16, va_Nw.warmF hW a17, va_Nw.warmM hW a18, va_Nw.warmF hW a19, va_Nw.warmF hW a20, va_Nw.warmM hW a21, va_Nw.warmM hW a22, va_Nw.warmM hW a23, va_Nw.warmF hW a24, va_Nw.warmF hW a25, va_Nw.warmF hW a26, va_Nw.warmM hW a27, va_Nw.warmM hW a28, va_Nw.warmM hW a29, fun _ h => absurd h List.not_mem_nil⟩
/-- what was there before: at the codes 100 + t the three tables, 110 + i the texts, 130 + i their bytes -/
def St (ad : Nat → Nat) (U : State) (H : Heap) : Prop :=
  (∀ w ∈ NW, va_Nw w U) ∧ (∀ t, t < 3 → va_Z RX0 (tbn t) "[I" (.ref (ad (100 + t))) (Aw ad) U H ∧ va_T .int (ad (100 + t)) 5 (fun j => .int (tbv t j)) (Aw ad) U H) ∧
  vk_S 14 stL stB (fun i => ad (110 + i)) (fun i => ad (130 + i)) (Aw ad) U H ∧ (∀ i, i < 14 → vk_R RX4 (stI.getD i 0) (stT.getD i "") (ad (110 + i)) U) ∧
  va_Z "java/lang/String" "COMPACT_STRINGS" "Z" (.int 1) (Aw ad) U H ∧ ∃ q : Option Nat, va_Z "jdk/internal/util/Preconditions" "SIOOBE_FORMATTER" "Ljava/util/function/BiFunction;" (va_rf q) (Aw ad) U H
theorem St.kept {ad : Nat → Nat} {U : State} {H H1 : Heap} (h : St ad U H) (hq : ∀ a : Nat, a < H.size → ¬ Aw ad a → H1[a]? = H[a]?) : St ad U H1 :=
  ⟨h.1, fun t ht => ⟨(h.2.1 t ht).1.kept hq, (h.2.1 t ht).2.kept hq⟩, h.2.2.1.kept hq, h.2.2.2.1, h.2.2.2.2.1.kept hq, h.2.2.2.2.2.elim fun q hz => ⟨q, hz.kept hq⟩⟩
theorem St.warm {ad : Nat → Nat} {s U : State} {H : Heap} (hW : s.WarmedH U.vm) (h : St ad s H) : St ad U H :=
  ⟨NW_warm hW h.1, fun t ht => ⟨(h.2.1 t ht).1.moved hW.alike, (h.2.1 t ht).2.moved hW.alike⟩, h.2.2.1.moved hW.alike, fun i hi => (h.2.2.2.1 i hi).warm hW, h.2.2.2.2.1.moved hW.alike, h.2.2.2.2.2.elim fun q hz => ⟨q, hz.moved hW.alike⟩⟩
theorem St.same {ad : Nat → Nat} {u U : State} {H : Heap} (hv : u.vm = U.vm) (h : St ad u H) : St ad U H := by
  have ha : u.vm.Alike U.vm := by rw [hv]; exact Vm.Alike.refl _
  exact ⟨fun w hw => (h.1 w hw).same (NW_on w hw) hv, fun t ht => ⟨(h.2.1 t ht).1.moved ha, (h.2.1 t ht).2.moved ha⟩, h.2.2.1.moved ha, fun i hi => (h.2.2.2.1 i hi).same hv.symm, h.2.2.2.2.1.moved ha, h.2.2.2.2.2.elim fun q hz => ⟨q, hz.moved ha⟩⟩
/-- the world at a state -/
def Wd (ad : Nat → Nat) (D : va_G) (cA : Nat → ClassId) (u : Uw) (U : State) : Prop := va_P D vwCl (wl ad cA u) U.heap ∧ va_K D vwCl (tys cA) U ∧ injA ad ∧ St ad U U.heap
/-- a method: its bytes, its class, its locals, its answer's type, its room -/
abbrev Mi : Type := ByteArray × String × Nat × Option FieldType × Room
def QW (ad : Nat → Nat) (D : va_G) (cA : Nat → ClassId) (v : Option Value) (u2 : Uw) : Array Value → State → Outcome → State → Prop := fun _ st oc t => oc = .returned v ∧ va_P D vwCl (wl ad cA u2) t.heap ∧ va_F (Aw ad) st t
abbrev Cx : Type := Program × Launch × Env × State × MethodId × Array Value × List Frame × Method × Code × va_G × (Nat → ClassId)
def Ok (X : Cx) (ad : Nat → Nat) (M : Mi) : Prop := match X with
  | (p, _, _, s, m, args, _, meth, c, D, cA) => p.tables.exec = Jvm.exec ∧ c.code = M.1 ∧ c.maxLocals = M.2.2.1 ∧ s.vm.findClass M.2.1 = some m.cls ∧ (∀ w ∈ GW, w.before args s = true) ∧ meth.locks = false ∧ meth.sig.returnType = M.2.2.2.1 ∧ injA ad ∧ va_K D vwCl (tys cA) s ∧ St ad s s.heap
/-- from pc on, with these locals, this stack, this world, the method comes to its end and answers o -/
def Go (X : Cx) (ad : Nat → Nat) (M : Mi) {α : Type} (iv : (Nat → Nat) → α → Option Value) (pc : Nat) (lv : List (Nat × Value)) (st : List Value) (u : Uw) (o : Option (α × Uw)) : Prop := match X with
  | (p, l, e, s, m, args, below, meth, c, D, cA) => Ok (p, l, e, s, m, args, below, meth, c, D, cA) ad M → ∀ (r : α) (u2 : Uw), o = some (r, u2) → ∀ (H : Heap) (locs : List Loc) (ls : Array Slot), va_P D vwCl (wl ad cA u) H → va_S (Aw ad) s.heap H locs → lv_has ls M.2.2.1 lv →
    W p l e M.2.2.2.2 s m args below meth c H locs 0 0 (MQ below (QW ad D cA (iv ad r) u2) args s 0 0 (Aw ad)) (F0 m pc ls st)
/-- a method's contract -/
def Con (l : Launch) (y : MethodName) (M : Mi) {α : Type} (iv : (Nat → Nat) → α → Option Value) (As : (Nat → Nat) → List Value) (u : Uw) (o : Option (α × Uw)) : Prop :=
  ∀ (ad : Nat → Nat) (D : va_G) (cA : Nat → ClassId) (r : α) (u2 : Uw), o = some (r, u2) → Met l y (Cond.code y M.1 M.2.2.1 M.2.2.2.1 :: GW) M.2.2.2.2 (va_Pc (As ad) (Wd ad D cA u)) (QW ad D cA (iv ad r) u2) 0 0 (Aw ad)
def bI (b : Bool) : Int32 := if b then 1 else 0
def cI (c : UInt16) : Int32 := c.toUInt32.toInt32
abbrev ivI (_ : Nat → Nat) (x : Int32) : Option Value := some (.int x)
abbrev ivZ (_ : Nat → Nat) (b : Bool) : Option Value := some (.int (bI b))
abbrev ivC (_ : Nat → Nat) (c : UInt16) : Option Value := some (.int (cI c))
abbrev ivL (_ : Nat → Nat) (x : Int64) : Option Value := some (.long x)
abbrev ivV (_ : Nat → Nat) (_ : Unit) : Option Value := none
abbrev ivR (ad : Nat → Nat) (r : Option Nat) : Option Value := some (va_re ad r)
def ck {α : Type} (c : Bool) (o : Option α) : Option α := if c = true then o else none
def nm {α β : Type} (v : α) (f : α → β) : β := f v
def inb (i : Int32) (n : Nat) : Bool := !(decide (i < 0) || decide (n ≤ i.toNatClampNeg))
theorem inb_in {i : Int32} {n : Nat} (h : inb i n = true) : vp_in i n := by
  unfold inb at h
  unfold vp_in
  simp only [Bool.not_eq_true', Bool.or_eq_false_iff, decide_eq_false_iff_not] at h
  exact fun q => q.elim h.1 h.2
theorem inb_lt {i : Int32} {n : Nat} (h : inb i n = true) : i.toNatClampNeg < n := Nat.not_le.mp fun q => inb_in h (Or.inr q)
/-- a loop: so many turns at most -/
def lp {σ β : Type} (b : (σ → Option β) → σ → Option β) : Nat → σ → Option β
  | 0, _ => none
  | n + 1, s => b (lp b n) s
section GoRows
variable {X : Cx} {ad : Nat → Nat} {M : Mi} {α : Type} {iv : (Nat → Nat) → α → Option Value} {pc : Nat} {lv : List (Nat × Value)} {st : List Value} {u : Uw} {o : Option (α × Uw)}
theorem go_none : Go X ad M iv pc lv st u none := by
  obtain ⟨p, l, e, s, m, args, below, meth, c, D, cA⟩ := X
  intro _ r u2 ho
  cases ho
theorem go_ck {b : Bool} (k : b = true → Go X ad M iv pc lv st u o) : Go X ad M iv pc lv st u (ck b o) := by
  cases b with
  | false => exact go_none
  | true => exact k rfl
theorem go_nm {v : Int32} {f : Int32 → Option (α × Uw)} (k : ∀ x, Go X ad M iv pc lv (.int x :: st) u (f x)) : Go X ad M iv pc lv (.int v :: st) u (nm v f) := k v
theorem go_nmL {v : Int64} {f : Int64 → Option (α × Uw)} (k : ∀ x, Go X ad M iv pc lv (.long x :: st) u (f x)) : Go X ad M iv pc lv (.long v :: st) u (nm v f) := k v
theorem go_nmR {v : Nat} {f : Nat → Option (α × Uw)} (k : ∀ x, Go X ad M iv pc lv (.ref (ad x) :: st) u (f x)) : Go X ad M iv pc lv (.ref (ad v) :: st) u (nm v f) := k v
theorem go_nmU {f : Uw → Option (α × Uw)} (k : ∀ x, Go X ad M iv pc lv st x (f x)) : Go X ad M iv pc lv st u (nm u f) := k u
theorem go_ite {b : Prop} {d : Decidable b} {o1 o2 : Option (α × Uw)} (k1 : b → Go X ad M iv pc lv st u o1) (k2 : ¬ b → Go X ad M iv pc lv st u o2) : Go X ad M iv pc lv st u (@ite _ b d o1 o2) := by
  by_cases h : b
  · rw [if_pos h]; exact k1 h
  · rw [if_neg h]; exact k2 h
theorem go_sub {lv' : List (Nat × Value)} (ks : List Nat) (hl : lv_pick lv ks = lv') (k : Go X ad M iv pc lv' st u o) : Go X ad M iv pc lv st u o := by
  obtain ⟨p, l, e, s, m, args, below, meth, c, D, cA⟩ := X
  intro hok r u2 ho H locs ls hP hS h
  exact k hok r u2 ho H locs ls hP hS (lv_sub h ks hl)

theorem go_iconst {n : Int} {v : Int32} (d : decode M.1 pc = .ok (.iconst n, 1)) (hv : Int32.ofInt n = v) (k : Go X ad M iv (pc + 1) lv (.int v :: st) u o) : Go X ad M iv pc lv st u o := by
  obtain ⟨p, l, e, s, m, args, below, meth, c, D, cA⟩ := X
  intro hok r u2 ho H locs ls hP hS h
  exact lv_iconst hok.1 hok.2.1 d hv (k hok r u2 ho H locs ls hP hS h)
theorem go_bipush {n : Int} {v : Int32} (d : decode M.1 pc = .ok (.bipush n, 2)) (hv : (Int8.ofInt n).toInt32 = v) (k : Go X ad M iv (pc + 2) lv (.int v :: st) u o) : Go X ad M iv pc lv st u o := by
  obtain ⟨p, l, e, s, m, args, below, meth, c, D, cA⟩ := X
  intro hok r u2 ho H locs ls hP hS h
  exact lv_bipush hok.1 hok.2.1 d hv (k hok r u2 ho H locs ls hP hS h)
theorem go_sipush {n : Int} {v : Int32} (d : decode M.1 pc = .ok (.sipush n, 3)) (hv : (Int16.ofInt n).toInt32 = v) (k : Go X ad M iv (pc + 3) lv (.int v :: st) u o) : Go X ad M iv pc lv st u o := by
  obtain ⟨p, l, e, s, m, args, below, meth, c, D, cA⟩ := X
  intro hok r u2 ho H locs ls hP hS h
  exact lv_sipush hok.1 hok.2.1 d hv (k hok r u2 ho H locs ls hP hS h)
theorem go_lconst {n : Fin 2} {v : Int64} (d : decode M.1 pc = .ok (.lconst n, 1)) (hv : Int64.ofNat (n : Nat) = v) (k : Go X ad M iv (pc + 1) lv (.long v :: st) u o) : Go X ad M iv pc lv st u o := by
  obtain ⟨p, l, e, s, m, args, below, meth, c, D, cA⟩ := X
  intro hok r u2 ho H locs ls hP hS h
  exact lv_lconst hok.1 hok.2.1 d hv (k hok r u2 ho H locs ls hP hS h)
theorem go_null (d : decode M.1 pc = .ok (.aconst_null, 1)) (k : Go X ad M iv (pc + 1) lv (.null :: st) u o) : Go X ad M iv pc lv st u o := by
  obtain ⟨p, l, e, s, m, args, below, meth, c, D, cA⟩ := X
  intro hok r u2 ho H locs ls hP hS h
  exact lv_null hok.1 hok.2.1 d (k hok r u2 ho H locs ls hP hS h)
theorem go_ldc {index : Nat} {v : Int32} (w : Cond.constant M.2.1 index v ∈ GW) (d : decode M.1 pc = .ok (.ldc index, 2)) (k : Go X ad M iv (pc + 2) lv (.int v :: st) u o) : Go X ad M iv pc lv st u o := by
  obtain ⟨p, l, e, s, m, args, below, meth, c, D, cA⟩ := X
  intro hok r u2 ho H locs ls hP hS h
  exact lv_ldc hok.1 hok.2.1 hok.2.2.2.1 (hok.2.2.2.2.1 _ w) d (k hok r u2 ho H locs ls hP hS h)
theorem go_ldcw {index : Nat} {v : Int32} (w : Cond.constant M.2.1 index v ∈ GW) (d : decode M.1 pc = .ok (.ldc_w index, 3)) (k : Go X ad M iv (pc + 3) lv (.int v :: st) u o) : Go X ad M iv pc lv st u o := by
  obtain ⟨p, l, e, s, m, args, below, meth, c, D, cA⟩ := X
  intro hok r u2 ho H locs ls hP hS h
  exact lv_ldcw hok.1 hok.2.1 hok.2.2.2.1 (hok.2.2.2.2.1 _ w) d (k hok r u2 ho H locs ls hP hS h)
theorem go_ldc2 {index : Nat} {v : Int64} (w : Cond.constantLong M.2.1 index v ∈ GW) (d : decode M.1 pc = .ok (.ldc2_w index, 3)) (k : Go X ad M iv (pc + 3) lv (.long v :: st) u o) : Go X ad M iv pc lv st u o := by
  obtain ⟨p, l, e, s, m, args, below, meth, c, D, cA⟩ := X
  intro hok r u2 ho H locs ls hP hS h
  exact lv_ldc2 hok.1 hok.2.1 hok.2.2.2.1 (hok.2.2.2.2.1 _ w) d (k hok r u2 ho H locs ls hP hS h)
theorem go_iload_n {q : Fin 4} {i : Nat} {x : Int32} (p0 : Nat) (hv : lv[p0]? = some (i, .int x)) (d : decode M.1 pc = .ok (.iload_n q, 1)) (hi : (q : Nat) = i) (k : Go X ad M iv (pc + 1) lv (.int x :: st) u o) : Go X ad M iv pc lv st u o := by
  obtain ⟨p, l, e, s, m, args, below, meth, c, D, cA⟩ := X
  intro hok r u2 ho H locs ls hP hS h
  exact lv_iload_n hok.1 hok.2.1 d hi (lv_at h p0 hv) (k hok r u2 ho H locs ls hP hS h)
theorem go_iload {i : Nat} {x : Int32} (p0 : Nat) (hv : lv[p0]? = some (i, .int x)) (d : decode M.1 pc = .ok (.iload i, 2)) (k : Go X ad M iv (pc + 2) lv (.int x :: st) u o) : Go X ad M iv pc lv st u o := by
  obtain ⟨p, l, e, s, m, args, below, meth, c, D, cA⟩ := X
  intro hok r u2 ho H locs ls hP hS h
  exact lv_iload hok.1 hok.2.1 d (lv_at h p0 hv) (k hok r u2 ho H locs ls hP hS h)
theorem go_istore_n {q : Fin 4} {i : Nat} {x : Int32} {lv' : List (Nat × Value)} (d : decode M.1 pc = .ok (.istore_n q, 1)) (hi : (q : Nat) = i) (hn : i < M.2.2.1) (hl : (i, Value.int x) :: lv.filter (fun q => !(q.1 == i) && !(q.1 + 1 == i && q.2.category == 2)) = lv') (k : Go X ad M iv (pc + 1) lv' st u o) : Go X ad M iv pc lv (.int x :: st) u o := by
  obtain ⟨p, l, e, s, m, args, below, meth, c, D, cA⟩ := X
  intro hok r u2 ho H locs ls hP hS h
  exact lv_istore_n hok.1 hok.2.1 d hi h hn hl (fun ls' h' => k hok r u2 ho H locs ls' hP hS h')
theorem go_istore {i : Nat} {x : Int32} {lv' : List (Nat × Value)} (d : decode M.1 pc = .ok (.istore i, 2)) (hn : i < M.2.2.1) (hl : (i, Value.int x) :: lv.filter (fun q => !(q.1 == i) && !(q.1 + 1 == i && q.2.category == 2)) = lv') (k : Go X ad M iv (pc + 2) lv' st u o) : Go X ad M iv pc lv (.int x :: st) u o := by
  obtain ⟨p, l, e, s, m, args, below, meth, c, D, cA⟩ := X
  intro hok r u2 ho H locs ls hP hS h
  exact lv_istore hok.1 hok.2.1 d h hn hl (fun ls' h' => k hok r u2 ho H locs ls' hP hS h')
theorem go_lload_n {q : Fin 4} {i : Nat} {x : Int64} (p0 : Nat) (hv : lv[p0]? = some (i, .long x)) (d : decode M.1 pc = .ok (.lload_n q, 1)) (hi : (q : Nat) = i) (k : Go X ad M iv (pc + 1) lv (.long x :: st) u o) : Go X ad M iv pc lv st u o := by
  obtain ⟨p, l, e, s, m, args, below, meth, c, D, cA⟩ := X
  intro hok r u2 ho H locs ls hP hS h
  exact lv_lload_n hok.1 hok.2.1 d hi (lv_at h p0 hv) (k hok r u2 ho H locs ls hP hS h)
theorem go_lload {i : Nat} {x : Int64} (p0 : Nat) (hv : lv[p0]? = some (i, .long x)) (d : decode M.1 pc = .ok (.lload i, 2)) (k : Go X ad M iv (pc + 2) lv (.long x :: st) u o) : Go X ad M iv pc lv st u o := by
  obtain ⟨p, l, e, s, m, args, below, meth, c, D, cA⟩ := X
  intro hok r u2 ho H locs ls hP hS h
  exact lv_lload hok.1 hok.2.1 d (lv_at h p0 hv) (k hok r u2 ho H locs ls hP hS h)
theorem go_lstore_n {q : Fin 4} {i : Nat} {x : Int64} {lv' : List (Nat × Value)} (d : decode M.1 pc = .ok (.lstore_n q, 1)) (hi : (q : Nat) = i) (hn : i + 1 < M.2.2.1) (hl : (i, Value.long x) :: lv.filter (fun q => !(q.1 == i) && (!(q.1 == i + 1) && !(q.1 + 1 == i && q.2.category == 2))) = lv') (k : Go X ad M iv (pc + 1) lv' st u o) : Go X ad M iv pc lv (.long x :: st) u o := by
  obtain ⟨p, l, e, s, m, args, below, meth, c, D, cA⟩ := X
  intro hok r u2 ho H locs ls hP hS h
  exact lv_lstore_n hok.1 hok.2.1 d hi h hn hl (fun ls' h' => k hok r u2 ho H locs ls' hP hS h')
theorem go_lstore {i : Nat} {x : Int64} {lv' : List (Nat × Value)} (d : decode M.1 pc = .ok (.lstore i, 2)) (hn : i + 1 < M.2.2.1) (hl : (i, Value.long x) :: lv.filter (fun q => !(q.1 == i) && (!(q.1 == i + 1) && !(q.1 + 1 == i && q.2.category == 2))) = lv') (k : Go X ad M iv (pc + 2) lv' st u o) : Go X ad M iv pc lv (.long x :: st) u o := by
  obtain ⟨p, l, e, s, m, args, below, meth, c, D, cA⟩ := X
  intro hok r u2 ho H locs ls hP hS h
  exact lv_lstore hok.1 hok.2.1 d h hn hl (fun ls' h' => k hok r u2 ho H locs ls' hP hS h')
theorem go_aload_n {q : Fin 4} {i : Nat} {x : Nat} (p0 : Nat) (hv : lv[p0]? = some (i, .ref x)) (d : decode M.1 pc = .ok (.aload_n q, 1)) (hi : (q : Nat) = i) (k : Go X ad M iv (pc + 1) lv (.ref x :: st) u o) : Go X ad M iv pc lv st u o := by
  obtain ⟨p, l, e, s, m, args, below, meth, c, D, cA⟩ := X
  intro hok r u2 ho H locs ls hP hS h
  exact lv_aload_n hok.1 hok.2.1 d hi (lv_at h p0 hv) (k hok r u2 ho H locs ls hP hS h)
theorem go_aload {i : Nat} {x : Nat} (p0 : Nat) (hv : lv[p0]? = some (i, .ref x)) (d : decode M.1 pc = .ok (.aload i, 2)) (k : Go X ad M iv (pc + 2) lv (.ref x :: st) u o) : Go X ad M iv pc lv st u o := by
  obtain ⟨p, l, e, s, m, args, below, meth, c, D, cA⟩ := X
  intro hok r u2 ho H locs ls hP hS h
  exact lv_aload hok.1 hok.2.1 d (lv_at h p0 hv) (k hok r u2 ho H locs ls hP hS h)
theorem go_astore_n {q : Fin 4} {i : Nat} {x : Nat} {lv' : List (Nat × Value)} (d : decode M.1 pc = .ok (.astore_n q, 1)) (hi : (q : Nat) = i) (hn : i < M.2.2.1) (hl : (i, Value.ref x) :: lv.filter (fun q => !(q.1 == i) && !(q.1 + 1 == i && q.2.category == 2)) = lv') (k : Go X ad M iv (pc + 1) lv' st u o) : Go X ad M iv pc lv (.ref x :: st) u o := by
  obtain ⟨p, l, e, s, m, args, below, meth, c, D, cA⟩ := X
  intro hok r u2 ho H locs ls hP hS h
  exact lv_astore_n hok.1 hok.2.1 d hi h hn hl (fun ls' h' => k hok r u2 ho H locs ls' hP hS h')
theorem go_astore {i : Nat} {x : Nat} {lv' : List (Nat × Value)} (d : decode M.1 pc = .ok (.astore i, 2)) (hn : i < M.2.2.1) (hl : (i, Value.ref x) :: lv.filter (fun q => !(q.1 == i) && !(q.1 + 1 == i && q.2.category == 2)) = lv') (k : Go X ad M iv (pc + 2) lv' st u o) : Go X ad M iv pc lv (.ref x :: st) u o := by
  obtain ⟨p, l, e, s, m, args, below, meth, c, D, cA⟩ := X
  intro hok r u2 ho H locs ls hP hS h
  exact lv_astore hok.1 hok.2.1 d h hn hl (fun ls' h' => k hok r u2 ho H locs ls' hP hS h')
theorem go_aload_nN {q : Fin 4} {i : Nat} (p0 : Nat) (hv : lv[p0]? = some (i, .null)) (d : decode M.1 pc = .ok (.aload_n q, 1)) (hi : (q : Nat) = i) (k : Go X ad M iv (pc + 1) lv (.null :: st) u o) : Go X ad M iv pc lv st u o := by
  obtain ⟨p, l, e, s, m, args, below, meth, c, D, cA⟩ := X
  intro hok r u2 ho H locs ls hP hS h
  exact lv_aload_nN hok.1 hok.2.1 d hi (lv_at h p0 hv) (k hok r u2 ho H locs ls hP hS h)
theorem go_aloadN {i : Nat} (p0 : Nat) (hv : lv[p0]? = some (i, .null)) (d : decode M.1 pc = .ok (.aload i, 2)) (k : Go X ad M iv (pc + 2) lv (.null :: st) u o) : Go X ad M iv pc lv st u o := by
  obtain ⟨p, l, e, s, m, args, below, meth, c, D, cA⟩ := X
  intro hok r u2 ho H locs ls hP hS h
  exact lv_aloadN hok.1 hok.2.1 d (lv_at h p0 hv) (k hok r u2 ho H locs ls hP hS h)
theorem go_astore_nN {q : Fin 4} {i : Nat} {lv' : List (Nat × Value)} (d : decode M.1 pc = .ok (.astore_n q, 1)) (hi : (q : Nat) = i) (hn : i < M.2.2.1) (hl : (i, Value.null) :: lv.filter (fun q => !(q.1 == i) && !(q.1 + 1 == i && q.2.category == 2)) = lv') (k : Go X ad M iv (pc + 1) lv' st u o) : Go X ad M iv pc lv (.null :: st) u o := by
  obtain ⟨p, l, e, s, m, args, below, meth, c, D, cA⟩ := X
  intro hok r u2 ho H locs ls hP hS h
  exact lv_astore_nN hok.1 hok.2.1 d hi h hn hl (fun ls' h' => k hok r u2 ho H locs ls' hP hS h')
theorem go_astoreN {i : Nat} {lv' : List (Nat × Value)} (d : decode M.1 pc = .ok (.astore i, 2)) (hn : i < M.2.2.1) (hl : (i, Value.null) :: lv.filter (fun q => !(q.1 == i) && !(q.1 + 1 == i && q.2.category == 2)) = lv') (k : Go X ad M iv (pc + 2) lv' st u o) : Go X ad M iv pc lv (.null :: st) u o := by
  obtain ⟨p, l, e, s, m, args, below, meth, c, D, cA⟩ := X
  intro hok r u2 ho H locs ls hP hS h
  exact lv_astoreN hok.1 hok.2.1 d h hn hl (fun ls' h' => k hok r u2 ho H locs ls' hP hS h')
theorem go_iinc {i : Nat} {n : Int} {x v : Int32} {lv' : List (Nat × Value)} (p0 : Nat) (hv : lv[p0]? = some (i, .int x)) (d : decode M.1 pc = .ok (.iinc i n, 3)) (he : x + Int32.ofInt n = v) (hn : i < M.2.2.1) (hl : (i, Value.int v) :: lv.filter (fun q => !(q.1 == i) && !(q.1 + 1 == i && q.2.category == 2)) = lv') (k : Go X ad M iv (pc + 3) lv' st u o) : Go X ad M iv pc lv st u o := by
  obtain ⟨p, l, e, s, m, args, below, meth, c, D, cA⟩ := X
  intro hok r u2 ho H locs ls hP hS h
  exact lv_iinc hok.1 hok.2.1 d h hv he hn hl (fun ls' h' => k hok r u2 ho H locs ls' hP hS h')
theorem go_iadd {x y : Int32} (d : decode M.1 pc = .ok (.iadd, 1)) (k : Go X ad M iv (pc + 1) lv (.int (x + y) :: st) u o) : Go X ad M iv pc lv (.int y :: .int x :: st) u o := by
  obtain ⟨p, l, e, s, m, args, below, meth, c, D, cA⟩ := X
  intro hok r u2 ho H locs ls hP hS h
  exact lv_iadd hok.1 hok.2.1 d (k hok r u2 ho H locs ls hP hS h)
theorem go_isub {x y : Int32} (d : decode M.1 pc = .ok (.isub, 1)) (k : Go X ad M iv (pc + 1) lv (.int (x - y) :: st) u o) : Go X ad M iv pc lv (.int y :: .int x :: st) u o := by
  obtain ⟨p, l, e, s, m, args, below, meth, c, D, cA⟩ := X
  intro hok r u2 ho H locs ls hP hS h
  exact lv_isub hok.1 hok.2.1 d (k hok r u2 ho H locs ls hP hS h)
theorem go_imul {x y : Int32} (d : decode M.1 pc = .ok (.imul, 1)) (k : Go X ad M iv (pc + 1) lv (.int (x * y) :: st) u o) : Go X ad M iv pc lv (.int y :: .int x :: st) u o := by
  obtain ⟨p, l, e, s, m, args, below, meth, c, D, cA⟩ := X
  intro hok r u2 ho H locs ls hP hS h
  exact lv_imul hok.1 hok.2.1 d (k hok r u2 ho H locs ls hP hS h)
theorem go_iand {x y : Int32} (d : decode M.1 pc = .ok (.iand, 1)) (k : Go X ad M iv (pc + 1) lv (.int (x &&& y) :: st) u o) : Go X ad M iv pc lv (.int y :: .int x :: st) u o := by
  obtain ⟨p, l, e, s, m, args, below, meth, c, D, cA⟩ := X
  intro hok r u2 ho H locs ls hP hS h
  exact lv_iand hok.1 hok.2.1 d (k hok r u2 ho H locs ls hP hS h)
theorem go_ior {x y : Int32} (d : decode M.1 pc = .ok (.ior, 1)) (k : Go X ad M iv (pc + 1) lv (.int (x ||| y) :: st) u o) : Go X ad M iv pc lv (.int y :: .int x :: st) u o := by
  obtain ⟨p, l, e, s, m, args, below, meth, c, D, cA⟩ := X
  intro hok r u2 ho H locs ls hP hS h
  exact lv_ior hok.1 hok.2.1 d (k hok r u2 ho H locs ls hP hS h)
theorem go_ishl {x y : Int32} (d : decode M.1 pc = .ok (.ishl, 1)) (k : Go X ad M iv (pc + 1) lv (.int (x <<< (y &&& 31)) :: st) u o) : Go X ad M iv pc lv (.int y :: .int x :: st) u o := by
  obtain ⟨p, l, e, s, m, args, below, meth, c, D, cA⟩ := X
  intro hok r u2 ho H locs ls hP hS h
  exact lv_ishl hok.1 hok.2.1 d (k hok r u2 ho H locs ls hP hS h)
theorem go_ishr {x y : Int32} (d : decode M.1 pc = .ok (.ishr, 1)) (k : Go X ad M iv (pc + 1) lv (.int (x >>> (y &&& 31)) :: st) u o) : Go X ad M iv pc lv (.int y :: .int x :: st) u o := by
  obtain ⟨p, l, e, s, m, args, below, meth, c, D, cA⟩ := X
  intro hok r u2 ho H locs ls hP hS h
  exact lv_ishr hok.1 hok.2.1 d (k hok r u2 ho H locs ls hP hS h)
theorem go_iushr {x y : Int32} (d : decode M.1 pc = .ok (.iushr, 1)) (k : Go X ad M iv (pc + 1) lv (.int (x.toUInt32 >>> (y.toUInt32 &&& Int32.toUInt32 31)).toInt32 :: st) u o) : Go X ad M iv pc lv (.int y :: .int x :: st) u o := by
  obtain ⟨p, l, e, s, m, args, below, meth, c, D, cA⟩ := X
  intro hok r u2 ho H locs ls hP hS h
  exact lv_iushr hok.1 hok.2.1 d rfl (k hok r u2 ho H locs ls hP hS h)
theorem go_idiv {x y : Int32} (hz : decide (¬ y = 0) = true) (d : decode M.1 pc = .ok (.idiv, 1)) (k : Go X ad M iv (pc + 1) lv (.int (x / y) :: st) u o) : Go X ad M iv pc lv (.int y :: .int x :: st) u o := by
  obtain ⟨p, l, e, s, m, args, below, meth, c, D, cA⟩ := X
  intro hok r u2 ho H locs ls hP hS h
  exact lv_idiv hok.1 hok.2.1 d (of_decide_eq_true hz) (k hok r u2 ho H locs ls hP hS h)
theorem go_irem {x y : Int32} (hz : decide (¬ y = 0) = true) (d : decode M.1 pc = .ok (.irem, 1)) (k : Go X ad M iv (pc + 1) lv (.int (x - x / y * y) :: st) u o) : Go X ad M iv pc lv (.int y :: .int x :: st) u o := by
  obtain ⟨p, l, e, s, m, args, below, meth, c, D, cA⟩ := X
  intro hok r u2 ho H locs ls hP hS h
  exact lv_irem hok.1 hok.2.1 d (of_decide_eq_true hz) (k hok r u2 ho H locs ls hP hS h)
theorem go_ineg {x : Int32} (d : decode M.1 pc = .ok (.ineg, 1)) (k : Go X ad M iv (pc + 1) lv (.int (-x) :: st) u o) : Go X ad M iv pc lv (.int x :: st) u o := by
  obtain ⟨p, l, e, s, m, args, below, meth, c, D, cA⟩ := X
  intro hok r u2 ho H locs ls hP hS h
  exact lv_ineg hok.1 hok.2.1 d (k hok r u2 ho H locs ls hP hS h)
theorem go_ladd {x y : Int64} (d : decode M.1 pc = .ok (.ladd, 1)) (k : Go X ad M iv (pc + 1) lv (.long (x + y) :: st) u o) : Go X ad M iv pc lv (.long y :: .long x :: st) u o := by
  obtain ⟨p, l, e, s, m, args, below, meth, c, D, cA⟩ := X
  intro hok r u2 ho H locs ls hP hS h
  exact lv_ladd hok.1 hok.2.1 d (k hok r u2 ho H locs ls hP hS h)
theorem go_lmul {x y : Int64} (d : decode M.1 pc = .ok (.lmul, 1)) (k : Go X ad M iv (pc + 1) lv (.long (x * y) :: st) u o) : Go X ad M iv pc lv (.long y :: .long x :: st) u o := by
  obtain ⟨p, l, e, s, m, args, below, meth, c, D, cA⟩ := X
  intro hok r u2 ho H locs ls hP hS h
  exact lv_lmul hok.1 hok.2.1 d (k hok r u2 ho H locs ls hP hS h)
theorem go_land {x y : Int64} (d : decode M.1 pc = .ok (.land, 1)) (k : Go X ad M iv (pc + 1) lv (.long (x &&& y) :: st) u o) : Go X ad M iv pc lv (.long y :: .long x :: st) u o := by
  obtain ⟨p, l, e, s, m, args, below, meth, c, D, cA⟩ := X
  intro hok r u2 ho H locs ls hP hS h
  exact lv_land hok.1 hok.2.1 d (k hok r u2 ho H locs ls hP hS h)
theorem go_lor {x y : Int64} (d : decode M.1 pc = .ok (.lor, 1)) (k : Go X ad M iv (pc + 1) lv (.long (x ||| y) :: st) u o) : Go X ad M iv pc lv (.long y :: .long x :: st) u o := by
  obtain ⟨p, l, e, s, m, args, below, meth, c, D, cA⟩ := X
  intro hok r u2 ho H locs ls hP hS h
  exact lv_lor hok.1 hok.2.1 d (k hok r u2 ho H locs ls hP hS h)
theorem go_lshl {x : Int64} {y : Int32} (d : decode M.1 pc = .ok (.lshl, 1)) (k : Go X ad M iv (pc + 1) lv (.long (x <<< (y.toInt64 &&& 63)) :: st) u o) : Go X ad M iv pc lv (.int y :: .long x :: st) u o := by
  obtain ⟨p, l, e, s, m, args, below, meth, c, D, cA⟩ := X
  intro hok r u2 ho H locs ls hP hS h
  exact lv_lshl hok.1 hok.2.1 d rfl (k hok r u2 ho H locs ls hP hS h)
theorem go_lcmp {x y : Int64} (d : decode M.1 pc = .ok (.lcmp, 1)) (k : Go X ad M iv (pc + 1) lv (.int (lg_cmp x y) :: st) u o) : Go X ad M iv pc lv (.long y :: .long x :: st) u o := by
  obtain ⟨p, l, e, s, m, args, below, meth, c, D, cA⟩ := X
  intro hok r u2 ho H locs ls hP hS h
  exact W.lcmp hok.1 hok.2.1 d (k hok r u2 ho H locs ls hP hS h)
theorem go_i2l {x : Int32} (d : decode M.1 pc = .ok (.i2l, 1)) (k : Go X ad M iv (pc + 1) lv (.long (x.toInt64) :: st) u o) : Go X ad M iv pc lv (.int x :: st) u o := by
  obtain ⟨p, l, e, s, m, args, below, meth, c, D, cA⟩ := X
  intro hok r u2 ho H locs ls hP hS h
  exact lv_i2l hok.1 hok.2.1 d rfl (k hok r u2 ho H locs ls hP hS h)
theorem go_l2i {x : Int64} (d : decode M.1 pc = .ok (.l2i, 1)) (k : Go X ad M iv (pc + 1) lv (.int (x.toInt32) :: st) u o) : Go X ad M iv pc lv (.long x :: st) u o := by
  obtain ⟨p, l, e, s, m, args, below, meth, c, D, cA⟩ := X
  intro hok r u2 ho H locs ls hP hS h
  exact lv_l2i hok.1 hok.2.1 d rfl (k hok r u2 ho H locs ls hP hS h)
theorem go_i2b {x : Int32} (d : decode M.1 pc = .ok (.i2b, 1)) (k : Go X ad M iv (pc + 1) lv (.int (x.toInt8.toInt32) :: st) u o) : Go X ad M iv pc lv (.int x :: st) u o := by
  obtain ⟨p, l, e, s, m, args, below, meth, c, D, cA⟩ := X
  intro hok r u2 ho H locs ls hP hS h
  exact lv_i2b hok.1 hok.2.1 d rfl (k hok r u2 ho H locs ls hP hS h)
theorem go_i2s {x : Int32} (d : decode M.1 pc = .ok (.i2s, 1)) (k : Go X ad M iv (pc + 1) lv (.int (x.toInt16.toInt32) :: st) u o) : Go X ad M iv pc lv (.int x :: st) u o := by
  obtain ⟨p, l, e, s, m, args, below, meth, c, D, cA⟩ := X
  intro hok r u2 ho H locs ls hP hS h
  exact lv_i2s hok.1 hok.2.1 d rfl (k hok r u2 ho H locs ls hP hS h)
theorem go_i2c {x : Int32} (d : decode M.1 pc = .ok (.i2c, 1)) (k : Go X ad M iv (pc + 1) lv (.int ((x.toUInt32 % 65536).toInt32) :: st) u o) : Go X ad M iv pc lv (.int x :: st) u o := by
  obtain ⟨p, l, e, s, m, args, below, meth, c, D, cA⟩ := X
  intro hok r u2 ho H locs ls hP hS h
  exact lv_i2c hok.1 hok.2.1 d rfl (k hok r u2 ho H locs ls hP hS h)
theorem go_dup {a : Value} (d : decode M.1 pc = .ok (.dup, 1)) (ha : a.category = 1) (k : Go X ad M iv (pc + 1) lv (a :: a :: st) u o) : Go X ad M iv pc lv (a :: st) u o := by
  obtain ⟨p, l, e, s, m, args, below, meth, c, D, cA⟩ := X
  intro hok r u2 ho H locs ls hP hS h
  exact lv_dup hok.1 hok.2.1 d ha (k hok r u2 ho H locs ls hP hS h)
theorem go_dup2 {a b : Value} (d : decode M.1 pc = .ok (.dup2, 1)) (ha : a.category = 1) (hb : b.category = 1) (k : Go X ad M iv (pc + 1) lv (a :: b :: a :: b :: st) u o) : Go X ad M iv pc lv (a :: b :: st) u o := by
  obtain ⟨p, l, e, s, m, args, below, meth, c, D, cA⟩ := X
  intro hok r u2 ho H locs ls hP hS h
  exact lv_dup2_11 hok.1 hok.2.1 d ha hb (k hok r u2 ho H locs ls hP hS h)
theorem go_pop {a : Value} (d : decode M.1 pc = .ok (.pop, 1)) (ha : a.category = 1) (k : Go X ad M iv (pc + 1) lv st u o) : Go X ad M iv pc lv (a :: st) u o := by
  obtain ⟨p, l, e, s, m, args, below, meth, c, D, cA⟩ := X
  intro hok r u2 ho H locs ls hP hS h
  exact lv_pop hok.1 hok.2.1 d ha (k hok r u2 ho H locs ls hP hS h)
theorem go_if_eq {x : Int32} {off : Int} {tgt : Nat} {o1 o2 : Option (α × Uw)} (d : decode M.1 pc = .ok (.ifCond .eq off, 3)) (ht : (pc : Int) + off = (tgt : Int)) (k1 : Go X ad M iv tgt lv st u o1) (k2 : Go X ad M iv (pc + 3) lv st u o2) : Go X ad M iv pc lv (.int x :: st) u (if x = 0 then o1 else o2) := by
  obtain ⟨p, l, e, s, m, args, below, meth, c, D, cA⟩ := X
  intro hok r u2 ho H locs ls hP hS h
  exact lv_if_eq hok.1 hok.2.1 d ht (fun q => k1 hok r u2 (by rw [if_pos q] at ho; exact ho) H locs ls hP hS h) (fun q => k2 hok r u2 (by rw [if_neg q] at ho; exact ho) H locs ls hP hS h)
theorem go_if_eq_t {x : Int32} {off : Int} {tgt : Nat} (hx : x = 0) (d : decode M.1 pc = .ok (.ifCond .eq off, 3)) (ht : (pc : Int) + off = (tgt : Int)) (k : Go X ad M iv tgt lv st u o) : Go X ad M iv pc lv (.int x :: st) u o := by
  obtain ⟨p, l, e, s, m, args, below, meth, c, D, cA⟩ := X
  intro hok r u2 ho H locs ls hP hS h
  exact lv_if_eq hok.1 hok.2.1 d ht (fun _ => k hok r u2 ho H locs ls hP hS h) (fun q => absurd hx q)
theorem go_if_eq_f {x : Int32} {off : Int} {tgt : Nat} (hx : ¬ x = 0) (d : decode M.1 pc = .ok (.ifCond .eq off, 3)) (ht : (pc : Int) + off = (tgt : Int)) (k : Go X ad M iv (pc + 3) lv st u o) : Go X ad M iv pc lv (.int x :: st) u o := by
  obtain ⟨p, l, e, s, m, args, below, meth, c, D, cA⟩ := X
  intro hok r u2 ho H locs ls hP hS h
  exact lv_if_eq hok.1 hok.2.1 d ht (fun q => absurd q hx) (fun _ => k hok r u2 ho H locs ls hP hS h)
theorem go_icmp_eq {x y : Int32} {off : Int} {tgt : Nat} {o1 o2 : Option (α × Uw)} (d : decode M.1 pc = .ok (.if_icmp .eq off, 3)) (ht : (pc : Int) + off = (tgt : Int)) (k1 : Go X ad M iv tgt lv st u o1) (k2 : Go X ad M iv (pc + 3) lv st u o2) : Go X ad M iv pc lv (.int y :: .int x :: st) u (if x = y then o1 else o2) := by
  obtain ⟨p, l, e, s, m, args, below, meth, c, D, cA⟩ := X
  intro hok r u2 ho H locs ls hP hS h
  exact lv_icmp_eq hok.1 hok.2.1 d ht (fun q => k1 hok r u2 (by rw [if_pos q] at ho; exact ho) H locs ls hP hS h) (fun q => k2 hok r u2 (by rw [if_neg q] at ho; exact ho) H locs ls hP hS h)
theorem go_icmp_eq_t {x y : Int32} {off : Int} {tgt : Nat} (hx : x = y) (d : decode M.1 pc = .ok (.if_icmp .eq off, 3)) (ht : (pc : Int) + off = (tgt : Int)) (k : Go X ad M iv tgt lv st u o) : Go X ad M iv pc lv (.int y :: .int x :: st) u o := by
  obtain ⟨p, l, e, s, m, args, below, meth, c, D, cA⟩ := X
  intro hok r u2 ho H locs ls hP hS h
  exact lv_icmp_eq hok.1 hok.2.1 d ht (fun _ => k hok r u2 ho H locs ls hP hS h) (fun q => absurd hx q)
theorem go_icmp_eq_f {x y : Int32} {off : Int} {tgt : Nat} (hx : ¬ x = y) (d : decode M.1 pc = .ok (.if_icmp .eq off, 3)) (ht : (pc : Int) + off = (tgt : Int)) (k : Go X ad M iv (pc + 3) lv st u o) : Go X ad M iv pc lv (.int y :: .int x :: st) u o := by
  obtain ⟨p, l, e, s, m, args, below, meth, c, D, cA⟩ := X
  intro hok r u2 ho H locs ls hP hS h
  exact lv_icmp_eq hok.1 hok.2.1 d ht (fun q => absurd q hx) (fun _ => k hok r u2 ho H locs ls hP hS h)
theorem go_if_ne {x : Int32} {off : Int} {tgt : Nat} {o1 o2 : Option (α × Uw)} (d : decode M.1 pc = .ok (.ifCond .ne off, 3)) (ht : (pc : Int) + off = (tgt : Int)) (k1 : Go X ad M iv tgt lv st u o1) (k2 : Go X ad M iv (pc + 3) lv st u o2) : Go X ad M iv pc lv (.int x :: st) u (if x = 0 then o2 else o1) := by
  obtain ⟨p, l, e, s, m, args, below, meth, c, D, cA⟩ := X
  intro hok r u2 ho H locs ls hP hS h
  exact lv_if_ne hok.1 hok.2.1 d ht (fun q => k1 hok r u2 (by rw [if_neg q] at ho; exact ho) H locs ls hP hS h) (fun q => k2 hok r u2 (by rw [if_pos q] at ho; exact ho) H locs ls hP hS h)
theorem go_if_ne_t {x : Int32} {off : Int} {tgt : Nat} (hx : ¬ x = 0) (d : decode M.1 pc = .ok (.ifCond .ne off, 3)) (ht : (pc : Int) + off = (tgt : Int)) (k : Go X ad M iv tgt lv st u o) : Go X ad M iv pc lv (.int x :: st) u o := by
  obtain ⟨p, l, e, s, m, args, below, meth, c, D, cA⟩ := X
  intro hok r u2 ho H locs ls hP hS h
  exact lv_if_ne hok.1 hok.2.1 d ht (fun _ => k hok r u2 ho H locs ls hP hS h) (fun q => absurd q hx)
theorem go_if_ne_f {x : Int32} {off : Int} {tgt : Nat} (hx : x = 0) (d : decode M.1 pc = .ok (.ifCond .ne off, 3)) (ht : (pc : Int) + off = (tgt : Int)) (k : Go X ad M iv (pc + 3) lv st u o) : Go X ad M iv pc lv (.int x :: st) u o := by
  obtain ⟨p, l, e, s, m, args, below, meth, c, D, cA⟩ := X
  intro hok r u2 ho H locs ls hP hS h
  exact lv_if_ne hok.1 hok.2.1 d ht (fun q => absurd hx q) (fun _ => k hok r u2 ho H locs ls hP hS h)
theorem go_icmp_ne {x y : Int32} {off : Int} {tgt : Nat} {o1 o2 : Option (α × Uw)} (d : decode M.1 pc = .ok (.if_icmp .ne off, 3)) (ht : (pc : Int) + off = (tgt : Int)) (k1 : Go X ad M iv tgt lv st u o1) (k2 : Go X ad M iv (pc + 3) lv st u o2) : Go X ad M iv pc lv (.int y :: .int x :: st) u (if x = y then o2 else o1) := by
  obtain ⟨p, l, e, s, m, args, below, meth, c, D, cA⟩ := X
  intro hok r u2 ho H locs ls hP hS h
  exact lv_icmp_ne hok.1 hok.2.1 d ht (fun q => k1 hok r u2 (by rw [if_neg q] at ho; exact ho) H locs ls hP hS h) (fun q => k2 hok r u2 (by rw [if_pos q] at ho; exact ho) H locs ls hP hS h)
theorem go_icmp_ne_t {x y : Int32} {off : Int} {tgt : Nat} (hx : ¬ x = y) (d : decode M.1 pc = .ok (.if_icmp .ne off, 3)) (ht : (pc : Int) + off = (tgt : Int)) (k : Go X ad M iv tgt lv st u o) : Go X ad M iv pc lv (.int y :: .int x :: st) u o := by
  obtain ⟨p, l, e, s, m, args, below, meth, c, D, cA⟩ := X
  intro hok r u2 ho H locs ls hP hS h
  exact lv_icmp_ne hok.1 hok.2.1 d ht (fun _ => k hok r u2 ho H locs ls hP hS h) (fun q => absurd q hx)
theorem go_icmp_ne_f {x y : Int32} {off : Int} {tgt : Nat} (hx : x = y) (d : decode M.1 pc = .ok (.if_icmp .ne off, 3)) (ht : (pc : Int) + off = (tgt : Int)) (k : Go X ad M iv (pc + 3) lv st u o) : Go X ad M iv pc lv (.int y :: .int x :: st) u o := by
  obtain ⟨p, l, e, s, m, args, below, meth, c, D, cA⟩ := X
  intro hok r u2 ho H locs ls hP hS h
  exact lv_icmp_ne hok.1 hok.2.1 d ht (fun q => absurd hx q) (fun _ => k hok r u2 ho H locs ls hP hS h)
theorem go_if_lt {x : Int32} {off : Int} {tgt : Nat} {o1 o2 : Option (α × Uw)} (d : decode M.1 pc = .ok (.ifCond .lt off, 3)) (ht : (pc : Int) + off = (tgt : Int)) (k1 : Go X ad M iv tgt lv st u o1) (k2 : Go X ad M iv (pc + 3) lv st u o2) : Go X ad M iv pc lv (.int x :: st) u (if x < 0 then o1 else o2) := by
  obtain ⟨p, l, e, s, m, args, below, meth, c, D, cA⟩ := X
  intro hok r u2 ho H locs ls hP hS h
  exact lv_if_lt hok.1 hok.2.1 d ht (fun q => k1 hok r u2 (by rw [if_pos q] at ho; exact ho) H locs ls hP hS h) (fun q => k2 hok r u2 (by rw [if_neg q] at ho; exact ho) H locs ls hP hS h)
theorem go_if_lt_t {x : Int32} {off : Int} {tgt : Nat} (hx : x < 0) (d : decode M.1 pc = .ok (.ifCond .lt off, 3)) (ht : (pc : Int) + off = (tgt : Int)) (k : Go X ad M iv tgt lv st u o) : Go X ad M iv pc lv (.int x :: st) u o := by
  obtain ⟨p, l, e, s, m, args, below, meth, c, D, cA⟩ := X
  intro hok r u2 ho H locs ls hP hS h
  exact lv_if_lt hok.1 hok.2.1 d ht (fun _ => k hok r u2 ho H locs ls hP hS h) (fun q => absurd hx q)
theorem go_if_lt_f {x : Int32} {off : Int} {tgt : Nat} (hx : ¬ x < 0) (d : decode M.1 pc = .ok (.ifCond .lt off, 3)) (ht : (pc : Int) + off = (tgt : Int)) (k : Go X ad M iv (pc + 3) lv st u o) : Go X ad M iv pc lv (.int x :: st) u o := by
  obtain ⟨p, l, e, s, m, args, below, meth, c, D, cA⟩ := X
  intro hok r u2 ho H locs ls hP hS h
  exact lv_if_lt hok.1 hok.2.1 d ht (fun q => absurd q hx) (fun _ => k hok r u2 ho H locs ls hP hS h)
theorem go_icmp_lt {x y : Int32} {off : Int} {tgt : Nat} {o1 o2 : Option (α × Uw)} (d : decode M.1 pc = .ok (.if_icmp .lt off, 3)) (ht : (pc : Int) + off = (tgt : Int)) (k1 : Go X ad M iv tgt lv st u o1) (k2 : Go X ad M iv (pc + 3) lv st u o2) : Go X ad M iv pc lv (.int y :: .int x :: st) u (if x < y then o1 else o2) := by
  obtain ⟨p, l, e, s, m, args, below, meth, c, D, cA⟩ := X
  intro hok r u2 ho H locs ls hP hS h
  exact lv_icmp_lt hok.1 hok.2.1 d ht (fun q => k1 hok r u2 (by rw [if_pos q] at ho; exact ho) H locs ls hP hS h) (fun q => k2 hok r u2 (by rw [if_neg q] at ho; exact ho) H locs ls hP hS h)
theorem go_icmp_lt_t {x y : Int32} {off : Int} {tgt : Nat} (hx : x < y) (d : decode M.1 pc = .ok (.if_icmp .lt off, 3)) (ht : (pc : Int) + off = (tgt : Int)) (k : Go X ad M iv tgt lv st u o) : Go X ad M iv pc lv (.int y :: .int x :: st) u o := by
  obtain ⟨p, l, e, s, m, args, below, meth, c, D, cA⟩ := X
  intro hok r u2 ho H locs ls hP hS h
  exact lv_icmp_lt hok.1 hok.2.1 d ht (fun _ => k hok r u2 ho H locs ls hP hS h) (fun q => absurd hx q)
theorem go_icmp_lt_f {x y : Int32} {off : Int} {tgt : Nat} (hx : ¬ x < y) (d : decode M.1 pc = .ok (.if_icmp .lt off, 3)) (ht : (pc : Int) + off = (tgt : Int)) (k : Go X ad M iv (pc + 3) lv st u o) : Go X ad M iv pc lv (.int y :: .int x :: st) u o := by
  obtain ⟨p, l, e, s, m, args, below, meth, c, D, cA⟩ := X
  intro hok r u2 ho H locs ls hP hS h
  exact lv_icmp_lt hok.1 hok.2.1 d ht (fun q => absurd q hx) (fun _ => k hok r u2 ho H locs ls hP hS h)
theorem go_if_ge {x : Int32} {off : Int} {tgt : Nat} {o1 o2 : Option (α × Uw)} (d : decode M.1 pc = .ok (.ifCond .ge off, 3)) (ht : (pc : Int) + off = (tgt : Int)) (k1 : Go X ad M iv tgt lv st u o1) (k2 : Go X ad M iv (pc + 3) lv st u o2) : Go X ad M iv pc lv (.int x :: st) u (if 0 ≤ x then o1 else o2) := by
  obtain ⟨p, l, e, s, m, args, below, meth, c, D, cA⟩ := X
  intro hok r u2 ho H locs ls hP hS h
  exact lv_if_ge hok.1 hok.2.1 d ht (fun q => k1 hok r u2 (by rw [if_pos q] at ho; exact ho) H locs ls hP hS h) (fun q => k2 hok r u2 (by rw [if_neg q] at ho; exact ho) H locs ls hP hS h)
theorem go_if_ge_t {x : Int32} {off : Int} {tgt : Nat} (hx : 0 ≤ x) (d : decode M.1 pc = .ok (.ifCond .ge off, 3)) (ht : (pc : Int) + off = (tgt : Int)) (k : Go X ad M iv tgt lv st u o) : Go X ad M iv pc lv (.int x :: st) u o := by
  obtain ⟨p, l, e, s, m, args, below, meth, c, D, cA⟩ := X
  intro hok r u2 ho H locs ls hP hS h
  exact lv_if_ge hok.1 hok.2.1 d ht (fun _ => k hok r u2 ho H locs ls hP hS h) (fun q => absurd hx q)
theorem go_if_ge_f {x : Int32} {off : Int} {tgt : Nat} (hx : ¬ 0 ≤ x) (d : decode M.1 pc = .ok (.ifCond .ge off, 3)) (ht : (pc : Int) + off = (tgt : Int)) (k : Go X ad M iv (pc + 3) lv st u o) : Go X ad M iv pc lv (.int x :: st) u o := by
  obtain ⟨p, l, e, s, m, args, below, meth, c, D, cA⟩ := X
  intro hok r u2 ho H locs ls hP hS h
  exact lv_if_ge hok.1 hok.2.1 d ht (fun q => absurd q hx) (fun _ => k hok r u2 ho H locs ls hP hS h)
theorem go_icmp_ge {x y : Int32} {off : Int} {tgt : Nat} {o1 o2 : Option (α × Uw)} (d : decode M.1 pc = .ok (.if_icmp .ge off, 3)) (ht : (pc : Int) + off = (tgt : Int)) (k1 : Go X ad M iv tgt lv st u o1) (k2 : Go X ad M iv (pc + 3) lv st u o2) : Go X ad M iv pc lv (.int y :: .int x :: st) u (if y ≤ x then o1 else o2) := by
  obtain ⟨p, l, e, s, m, args, below, meth, c, D, cA⟩ := X
  intro hok r u2 ho H locs ls hP hS h
  exact lv_icmp_ge hok.1 hok.2.1 d ht (fun q => k1 hok r u2 (by rw [if_pos q] at ho; exact ho) H locs ls hP hS h) (fun q => k2 hok r u2 (by rw [if_neg q] at ho; exact ho) H locs ls hP hS h)
theorem go_icmp_ge_t {x y : Int32} {off : Int} {tgt : Nat} (hx : y ≤ x) (d : decode M.1 pc = .ok (.if_icmp .ge off, 3)) (ht : (pc : Int) + off = (tgt : Int)) (k : Go X ad M iv tgt lv st u o) : Go X ad M iv pc lv (.int y :: .int x :: st) u o := by
  obtain ⟨p, l, e, s, m, args, below, meth, c, D, cA⟩ := X
  intro hok r u2 ho H locs ls hP hS h
  exact lv_icmp_ge hok.1 hok.2.1 d ht (fun _ => k hok r u2 ho H locs ls hP hS h) (fun q => absurd hx q)
theorem go_icmp_ge_f {x y : Int32} {off : Int} {tgt : Nat} (hx : ¬ y ≤ x) (d : decode M.1 pc = .ok (.if_icmp .ge off, 3)) (ht : (pc : Int) + off = (tgt : Int)) (k : Go X ad M iv (pc + 3) lv st u o) : Go X ad M iv pc lv (.int y :: .int x :: st) u o := by
  obtain ⟨p, l, e, s, m, args, below, meth, c, D, cA⟩ := X
  intro hok r u2 ho H locs ls hP hS h
  exact lv_icmp_ge hok.1 hok.2.1 d ht (fun q => absurd q hx) (fun _ => k hok r u2 ho H locs ls hP hS h)
theorem go_if_gt {x : Int32} {off : Int} {tgt : Nat} {o1 o2 : Option (α × Uw)} (d : decode M.1 pc = .ok (.ifCond .gt off, 3)) (ht : (pc : Int) + off = (tgt : Int)) (k1 : Go X ad M iv tgt lv st u o1) (k2 : Go X ad M iv (pc + 3) lv st u o2) : Go X ad M iv pc lv (.int x :: st) u (if 0 < x then o1 else o2) := by
  obtain ⟨p, l, e, s, m, args, below, meth, c, D, cA⟩ := X
  intro hok r u2 ho H locs ls hP hS h
  exact lv_if_gt hok.1 hok.2.1 d ht (fun q => k1 hok r u2 (by rw [if_pos q] at ho; exact ho) H locs ls hP hS h) (fun q => k2 hok r u2 (by rw [if_neg q] at ho; exact ho) H locs ls hP hS h)
theorem go_if_gt_t {x : Int32} {off : Int} {tgt : Nat} (hx : 0 < x) (d : decode M.1 pc = .ok (.ifCond .gt off, 3)) (ht : (pc : Int) + off = (tgt : Int)) (k : Go X ad M iv tgt lv st u o) : Go X ad M iv pc lv (.int x :: st) u o := by
  obtain ⟨p, l, e, s, m, args, below, meth, c, D, cA⟩ := X
  intro hok r u2 ho H locs ls hP hS h
  exact lv_if_gt hok.1 hok.2.1 d ht (fun _ => k hok r u2 ho H locs ls hP hS h) (fun q => absurd hx q)
theorem go_if_gt_f {x : Int32} {off : Int} {tgt : Nat} (hx : ¬ 0 < x) (d : decode M.1 pc = .ok (.ifCond .gt off, 3)) (ht : (pc : Int) + off = (tgt : Int)) (k : Go X ad M iv (pc + 3) lv st u o) : Go X ad M iv pc lv (.int x :: st) u o := by
  obtain ⟨p, l, e, s, m, args, below, meth, c, D, cA⟩ := X
  intro hok r u2 ho H locs ls hP hS h
  exact lv_if_gt hok.1 hok.2.1 d ht (fun q => absurd q hx) (fun _ => k hok r u2 ho H locs ls hP hS h)
theorem go_icmp_gt {x y : Int32} {off : Int} {tgt : Nat} {o1 o2 : Option (α × Uw)} (d : decode M.1 pc = .ok (.if_icmp .gt off, 3)) (ht : (pc : Int) + off = (tgt : Int)) (k1 : Go X ad M iv tgt lv st u o1) (k2 : Go X ad M iv (pc + 3) lv st u o2) : Go X ad M iv pc lv (.int y :: .int x :: st) u (if y < x then o1 else o2) := by
  obtain ⟨p, l, e, s, m, args, below, meth, c, D, cA⟩ := X
  intro hok r u2 ho H locs ls hP hS h
  exact lv_icmp_gt hok.1 hok.2.1 d ht (fun q => k1 hok r u2 (by rw [if_pos q] at ho; exact ho) H locs ls hP hS h) (fun q => k2 hok r u2 (by rw [if_neg q] at ho; exact ho) H locs ls hP hS h)
theorem go_icmp_gt_t {x y : Int32} {off : Int} {tgt : Nat} (hx : y < x) (d : decode M.1 pc = .ok (.if_icmp .gt off, 3)) (ht : (pc : Int) + off = (tgt : Int)) (k : Go X ad M iv tgt lv st u o) : Go X ad M iv pc lv (.int y :: .int x :: st) u o := by
  obtain ⟨p, l, e, s, m, args, below, meth, c, D, cA⟩ := X
  intro hok r u2 ho H locs ls hP hS h
  exact lv_icmp_gt hok.1 hok.2.1 d ht (fun _ => k hok r u2 ho H locs ls hP hS h) (fun q => absurd hx q)
theorem go_icmp_gt_f {x y : Int32} {off : Int} {tgt : Nat} (hx : ¬ y < x) (d : decode M.1 pc = .ok (.if_icmp .gt off, 3)) (ht : (pc : Int) + off = (tgt : Int)) (k : Go X ad M iv (pc + 3) lv st u o) : Go X ad M iv pc lv (.int y :: .int x :: st) u o := by
  obtain ⟨p, l, e, s, m, args, below, meth, c, D, cA⟩ := X
  intro hok r u2 ho H locs ls hP hS h
  exact lv_icmp_gt hok.1 hok.2.1 d ht (fun q => absurd q hx) (fun _ => k hok r u2 ho H locs ls hP hS h)
theorem go_if_le {x : Int32} {off : Int} {tgt : Nat} {o1 o2 : Option (α × Uw)} (d : decode M.1 pc = .ok (.ifCond .le off, 3)) (ht : (pc : Int) + off = (tgt : Int)) (k1 : Go X ad M iv tgt lv st u o1) (k2 : Go X ad M iv (pc + 3) lv st u o2) : Go X ad M iv pc lv (.int x :: st) u (if x ≤ 0 then o1 else o2) := by
  obtain ⟨p, l, e, s, m, args, below, meth, c, D, cA⟩ := X
  intro hok r u2 ho H locs ls hP hS h
  exact lv_if_le hok.1 hok.2.1 d ht (fun q => k1 hok r u2 (by rw [if_pos q] at ho; exact ho) H locs ls hP hS h) (fun q => k2 hok r u2 (by rw [if_neg q] at ho; exact ho) H locs ls hP hS h)
theorem go_if_le_t {x : Int32} {off : Int} {tgt : Nat} (hx : x ≤ 0) (d : decode M.1 pc = .ok (.ifCond .le off, 3)) (ht : (pc : Int) + off = (tgt : Int)) (k : Go X ad M iv tgt lv st u o) : Go X ad M iv pc lv (.int x :: st) u o := by
  obtain ⟨p, l, e, s, m, args, below, meth, c, D, cA⟩ := X
  intro hok r u2 ho H locs ls hP hS h
  exact lv_if_le hok.1 hok.2.1 d ht (fun _ => k hok r u2 ho H locs ls hP hS h) (fun q => absurd hx q)
theorem go_if_le_f {x : Int32} {off : Int} {tgt : Nat} (hx : ¬ x ≤ 0) (d : decode M.1 pc = .ok (.ifCond .le off, 3)) (ht : (pc : Int) + off = (tgt : Int)) (k : Go X ad M iv (pc + 3) lv st u o) : Go X ad M iv pc lv (.int x :: st) u o := by
  obtain ⟨p, l, e, s, m, args, below, meth, c, D, cA⟩ := X
  intro hok r u2 ho H locs ls hP hS h
  exact lv_if_le hok.1 hok.2.1 d ht (fun q => absurd q hx) (fun _ => k hok r u2 ho H locs ls hP hS h)
theorem go_icmp_le {x y : Int32} {off : Int} {tgt : Nat} {o1 o2 : Option (α × Uw)} (d : decode M.1 pc = .ok (.if_icmp .le off, 3)) (ht : (pc : Int) + off = (tgt : Int)) (k1 : Go X ad M iv tgt lv st u o1) (k2 : Go X ad M iv (pc + 3) lv st u o2) : Go X ad M iv pc lv (.int y :: .int x :: st) u (if x ≤ y then o1 else o2) := by
  obtain ⟨p, l, e, s, m, args, below, meth, c, D, cA⟩ := X
  intro hok r u2 ho H locs ls hP hS h
  exact lv_icmp_le hok.1 hok.2.1 d ht (fun q => k1 hok r u2 (by rw [if_pos q] at ho; exact ho) H locs ls hP hS h) (fun q => k2 hok r u2 (by rw [if_neg q] at ho; exact ho) H locs ls hP hS h)
theorem go_icmp_le_t {x y : Int32} {off : Int} {tgt : Nat} (hx : x ≤ y) (d : decode M.1 pc = .ok (.if_icmp .le off, 3)) (ht : (pc : Int) + off = (tgt : Int)) (k : Go X ad M iv tgt lv st u o) : Go X ad M iv pc lv (.int y :: .int x :: st) u o := by
  obtain ⟨p, l, e, s, m, args, below, meth, c, D, cA⟩ := X
  intro hok r u2 ho H locs ls hP hS h
  exact lv_icmp_le hok.1 hok.2.1 d ht (fun _ => k hok r u2 ho H locs ls hP hS h) (fun q => absurd hx q)
theorem go_icmp_le_f {x y : Int32} {off : Int} {tgt : Nat} (hx : ¬ x ≤ y) (d : decode M.1 pc = .ok (.if_icmp .le off, 3)) (ht : (pc : Int) + off = (tgt : Int)) (k : Go X ad M iv (pc + 3) lv st u o) : Go X ad M iv pc lv (.int y :: .int x :: st) u o := by
  obtain ⟨p, l, e, s, m, args, below, meth, c, D, cA⟩ := X
  intro hok r u2 ho H locs ls hP hS h
  exact lv_icmp_le hok.1 hok.2.1 d ht (fun q => absurd q hx) (fun _ => k hok r u2 ho H locs ls hP hS h)
theorem go_ifz_eq {b : Bool} {off : Int} {tgt : Nat} {o1 o2 : Option (α × Uw)} (d : decode M.1 pc = .ok (.ifCond .eq off, 3)) (ht : (pc : Int) + off = (tgt : Int)) (k1 : Go X ad M iv tgt lv st u o1) (k2 : Go X ad M iv (pc + 3) lv st u o2) : Go X ad M iv pc lv (.int (bI b) :: st) u (if b = true then o2 else o1) := by
  cases b with
  | false => exact go_if_eq_t (x := bI false) rfl d ht k1
  | true => exact go_if_eq_f (x := bI true) (by decide) d ht k2
theorem go_ifz_ne {b : Bool} {off : Int} {tgt : Nat} {o1 o2 : Option (α × Uw)} (d : decode M.1 pc = .ok (.ifCond .ne off, 3)) (ht : (pc : Int) + off = (tgt : Int)) (k1 : Go X ad M iv tgt lv st u o1) (k2 : Go X ad M iv (pc + 3) lv st u o2) : Go X ad M iv pc lv (.int (bI b) :: st) u (if b = true then o1 else o2) := by
  cases b with
  | false => exact go_if_ne_f (x := bI false) rfl d ht k2
  | true => exact go_if_ne_t (x := bI true) (by decide) d ht k1
theorem go_goto {off : Int} {tgt : Nat} (d : decode M.1 pc = .ok (.goto off, 3)) (ht : (pc : Int) + off = (tgt : Int)) (k : Go X ad M iv tgt lv st u o) : Go X ad M iv pc lv st u o := by
  obtain ⟨p, l, e, s, m, args, below, meth, c, D, cA⟩ := X
  intro hok r u2 ho H locs ls hP hS h
  exact lv_goto hok.1 hok.2.1 d ht (k hok r u2 ho H locs ls hP hS h)
theorem go_ifnull {x : Nat} {off : Int} (d : decode M.1 pc = .ok (.ifnull off, 3)) (k : Go X ad M iv (pc + 3) lv st u o) : Go X ad M iv pc lv (.ref x :: st) u o := by
  obtain ⟨p, l, e, s, m, args, below, meth, c, D, cA⟩ := X
  intro hok r u2 ho H locs ls hP hS h
  exact lv_ifnull hok.1 hok.2.1 d (k hok r u2 ho H locs ls hP hS h)
theorem go_ifnullN {off : Int} {tgt : Nat} (d : decode M.1 pc = .ok (.ifnull off, 3)) (ht : (pc : Int) + off = (tgt : Int)) (k : Go X ad M iv tgt lv st u o) : Go X ad M iv pc lv (.null :: st) u o := by
  obtain ⟨p, l, e, s, m, args, below, meth, c, D, cA⟩ := X
  intro hok r u2 ho H locs ls hP hS h
  exact lv_ifnullN hok.1 hok.2.1 d ht (k hok r u2 ho H locs ls hP hS h)
theorem go_ifnonnull {x : Nat} {off : Int} {tgt : Nat} (d : decode M.1 pc = .ok (.ifnonnull off, 3)) (ht : (pc : Int) + off = (tgt : Int)) (k : Go X ad M iv tgt lv st u o) : Go X ad M iv pc lv (.ref x :: st) u o := by
  obtain ⟨p, l, e, s, m, args, below, meth, c, D, cA⟩ := X
  intro hok r u2 ho H locs ls hP hS h
  exact lv_ifnonnull hok.1 hok.2.1 d ht (k hok r u2 ho H locs ls hP hS h)
theorem go_ifnonnullN {off : Int} (d : decode M.1 pc = .ok (.ifnonnull off, 3)) (k : Go X ad M iv (pc + 3) lv st u o) : Go X ad M iv pc lv (.null :: st) u o := by
  obtain ⟨p, l, e, s, m, args, below, meth, c, D, cA⟩ := X
  intro hok r u2 ho H locs ls hP hS h
  exact lv_ifnonnullN hok.1 hok.2.1 d (k hok r u2 ho H locs ls hP hS h)
theorem go_tin {dflt lo hi : Int} {offs : Array Int} {len : Nat} {x : Int32} {off : Int} {tgt : Nat} (d : decode M.1 pc = .ok (.tableswitch dflt lo hi offs, len)) (h1 : ¬ x.toInt < lo) (h2 : ¬ hi < x.toInt) (ho1 : offs[(x.toInt - lo).toNat]? = some off) (ht : (pc : Int) + off = (tgt : Int)) (k : Go X ad M iv tgt lv st u o) : Go X ad M iv pc lv (.int x :: st) u o := by
  obtain ⟨p, l, e, s, m, args, below, meth, c, D, cA⟩ := X
  intro hok r u2 ho H locs ls hP hS h
  exact lv_tableIn hok.1 hok.2.1 d h1 h2 ho1 ht (k hok r u2 ho H locs ls hP hS h)
theorem go_tout {dflt lo hi : Int} {offs : Array Int} {len : Nat} {x : Int32} {tgt : Nat} (d : decode M.1 pc = .ok (.tableswitch dflt lo hi offs, len)) (hx : x.toInt < lo ∨ hi < x.toInt) (ht : (pc : Int) + dflt = (tgt : Int)) (k : Go X ad M iv tgt lv st u o) : Go X ad M iv pc lv (.int x :: st) u o := by
  obtain ⟨p, l, e, s, m, args, below, meth, c, D, cA⟩ := X
  intro hok r u2 ho H locs ls hP hS h
  exact lv_tableOut hok.1 hok.2.1 d hx ht (k hok r u2 ho H locs ls hP hS h)
/-- an answer that may be null -/
def ro {γ : Type} (r : Option Nat) (a : γ) (b : Nat → γ) : γ := match r with
  | none => a
  | some e => b e
theorem go_ro {r : Option Nat} {a : Option (α × Uw)} {b : Nat → Option (α × Uw)} (k1 : Go X ad M iv pc lv (.null :: st) u a) (k2 : ∀ e, Go X ad M iv pc lv (.ref (ad e) :: st) u (b e)) : Go X ad M iv pc lv (va_re ad r :: st) u (ro r a b) := by
  cases r with
  | none => exact k1
  | some e => exact k2 e
end GoRows
section GoRets
variable {X : Cx} {ad : Nat → Nat} {M : Mi} {pc : Nat} {lv : List (Nat × Value)} {u : Uw}
theorem go_iret {x : Int32} (hr : M.2.2.2.1 = some .int) (d : decode M.1 pc = .ok (.ireturn, 1)) : Go X ad M ivI pc lv [.int x] u (some (x, u)) := by
  obtain ⟨p, l, e, s, m, args, below, meth, c, D, cA⟩ := X
  intro hok r u2 ho H locs ls hP hS h
  cases ho
  exact W.iret hok.1 hok.2.1 (hok.2.2.2.2.2.2.1.trans hr) (fun t ht hW => ⟨rfl, by rw [ht]; exact hP, hS.F ht⟩) hS.2.2 d hok.2.2.2.2.2.1
theorem go_zret {b : Bool} (hr : M.2.2.2.1 = some .boolean) (d : decode M.1 pc = .ok (.ireturn, 1)) : Go X ad M ivZ pc lv [.int (bI b)] u (some (b, u)) := by
  obtain ⟨p, l, e, s, m, args, below, meth, c, D, cA⟩ := X
  intro hok r u2 ho H locs ls hP hS h
  cases ho
  exact W.zret hok.1 hok.2.1 (hok.2.2.2.2.2.2.1.trans hr) (by cases b <;> rfl) (fun t ht hW => ⟨rfl, by rw [ht]; exact hP, hS.F ht⟩) hS.2.2 d hok.2.2.2.2.2.1
theorem go_lret {x : Int64} (hr : M.2.2.2.1 = some .long) (d : decode M.1 pc = .ok (.lreturn, 1)) : Go X ad M ivL pc lv [.long x] u (some (x, u)) := by
  obtain ⟨p, l, e, s, m, args, below, meth, c, D, cA⟩ := X
  intro hok r u2 ho H locs ls hP hS h
  cases ho
  exact W.lret hok.1 hok.2.1 (hok.2.2.2.2.2.2.1.trans hr) (fun t ht hW => ⟨rfl, by rw [ht]; exact hP, hS.F ht⟩) hS.2.2 d hok.2.2.2.2.2.1
theorem go_vret (hr : M.2.2.2.1 = none) (d : decode M.1 pc = .ok (.return_, 1)) : Go X ad M ivV pc lv [] u (some ((), u)) := by
  obtain ⟨p, l, e, s, m, args, below, meth, c, D, cA⟩ := X
  intro hok r u2 ho H locs ls hP hS h
  cases ho
  exact W.vret hok.1 hok.2.1 (hok.2.2.2.2.2.2.1.trans hr) (fun t ht hW => ⟨rfl, by rw [ht]; exact hP, hS.F ht⟩) hS.2.2 d hok.2.2.2.2.2.1
theorem go_aret {x : Nat} {C : String} (hr : M.2.2.2.1 = some (.object C)) (d : decode M.1 pc = .ok (.areturn, 1)) : Go X ad M ivR pc lv [.ref (ad x)] u (some (some x, u)) := by
  obtain ⟨p, l, e, s, m, args, below, meth, c, D, cA⟩ := X
  intro hok r u2 ho H locs ls hP hS h
  cases ho
  exact W.aret hok.1 hok.2.1 (hok.2.2.2.2.2.2.1.trans hr) (Or.inl ⟨_, rfl⟩) (Or.inr ⟨_, rfl⟩) (fun t ht hW => ⟨rfl, by rw [ht]; exact hP, hS.F ht⟩) hS.2.2 d hok.2.2.2.2.2.1
theorem go_aretN {C : String} (hr : M.2.2.2.1 = some (.object C)) (d : decode M.1 pc = .ok (.areturn, 1)) : Go X ad M ivR pc lv [.null] u (some (none, u)) := by
  obtain ⟨p, l, e, s, m, args, below, meth, c, D, cA⟩ := X
  intro hok r u2 ho H locs ls hP hS h
  cases ho
  exact W.aret hok.1 hok.2.1 (hok.2.2.2.2.2.2.1.trans hr) (Or.inl ⟨_, rfl⟩) (Or.inl rfl) (fun t ht hW => ⟨rfl, by rw [ht]; exact hP, hS.F ht⟩) hS.2.2 d hok.2.2.2.2.2.1
end GoRets
