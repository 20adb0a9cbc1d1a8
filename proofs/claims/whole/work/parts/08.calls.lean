/-! calls by what they answer; answers; copies; loops -/
theorem go_lp {σ β : Type} {b : (σ → Option β) → σ → Option β} {G : σ → Option β → Prop} (h0 : ∀ s, G s none) (hs : ∀ f, (∀ s, G s (f s)) → ∀ s, G s (b f s)) : ∀ (n : Nat) (s : σ), G s (lp b n s) := by
  intro n
  induction n with
  | zero => exact h0
  | succ n ih => exact hs _ ih
theorem int_ne {x c : Int32} (h : ¬ x = c) : x.toInt ≠ c.toInt := fun q => h (Int32.toInt_inj.mp q)
section GoCalls2
variable {X : Cx} {ad : Nat → Nat} {M : Mi} {α : Type} {iv : (Nat → Nat) → α → Option Value} {pc : Nat} {lv : List (Nat × Value)} {st stk : List Value} {u : Uw} {y : MethodName} {N : Mi} {n index : Nat}
theorem go_callVI {t : Nat} {C : String} {T : u_T} {NF : Nat} {tyF : Nat → FieldType} {e : Nat} {As : (Nat → Nat) → List Value} {f : Option (Int32 × Uw)} {kk : Int32 → Uw → Option (α × Uw)} (hM : ∀ l, Con l y N ivI (fun ad => .ref (ad e) :: As ad) u f) (mo : MOV y N n C) (ok : clOk t C T NF tyF) (ht : (kT e == t) = true) (w : Cond.methodLink M.2.1 index y ∈ GW) (hn : (As ad).length = n) (hR : RMok N M) (hst : stk = (As ad).reverse ++ .ref (ad e) :: st) (hroom : (st.map fun v => v.category).sum ≤ 8) (d : decode M.1 pc = .ok (.invokevirtual index, 3)) (k : ∀ (a : Int32) (v : Uw), Go X ad M iv (pc + 3) lv (.int a :: st) v (kk a v)) : Go X ad M iv pc lv stk u (bd f kk) := go_callV hM mo ok ht w hn hR hst hroom d k
theorem go_callVZ {t : Nat} {C : String} {T : u_T} {NF : Nat} {tyF : Nat → FieldType} {e : Nat} {As : (Nat → Nat) → List Value} {f : Option (Bool × Uw)} {kk : Bool → Uw → Option (α × Uw)} (hM : ∀ l, Con l y N ivZ (fun ad => .ref (ad e) :: As ad) u f) (mo : MOV y N n C) (ok : clOk t C T NF tyF) (ht : (kT e == t) = true) (w : Cond.methodLink M.2.1 index y ∈ GW) (hn : (As ad).length = n) (hR : RMok N M) (hst : stk = (As ad).reverse ++ .ref (ad e) :: st) (hroom : (st.map fun v => v.category).sum ≤ 8) (d : decode M.1 pc = .ok (.invokevirtual index, 3)) (k : ∀ (a : Bool) (v : Uw), Go X ad M iv (pc + 3) lv (.int (bI a) :: st) v (kk a v)) : Go X ad M iv pc lv stk u (bd f kk) := go_callV hM mo ok ht w hn hR hst hroom d k
theorem go_callVL {t : Nat} {C : String} {T : u_T} {NF : Nat} {tyF : Nat → FieldType} {e : Nat} {As : (Nat → Nat) → List Value} {f : Option (Int64 × Uw)} {kk : Int64 → Uw → Option (α × Uw)} (hM : ∀ l, Con l y N ivL (fun ad => .ref (ad e) :: As ad) u f) (mo : MOV y N n C) (ok : clOk t C T NF tyF) (ht : (kT e == t) = true) (w : Cond.methodLink M.2.1 index y ∈ GW) (hn : (As ad).length = n) (hR : RMok N M) (hst : stk = (As ad).reverse ++ .ref (ad e) :: st) (hroom : (st.map fun v => v.category).sum ≤ 8) (d : decode M.1 pc = .ok (.invokevirtual index, 3)) (k : ∀ (a : Int64) (v : Uw), Go X ad M iv (pc + 3) lv (.long a :: st) v (kk a v)) : Go X ad M iv pc lv stk u (bd f kk) := go_callV hM mo ok ht w hn hR hst hroom d k
theorem go_callVV {t : Nat} {C : String} {T : u_T} {NF : Nat} {tyF : Nat → FieldType} {e : Nat} {As : (Nat → Nat) → List Value} {f : Option (Unit × Uw)} {kk : Unit → Uw → Option (α × Uw)} (hM : ∀ l, Con l y N ivV (fun ad => .ref (ad e) :: As ad) u f) (mo : MOV y N n C) (ok : clOk t C T NF tyF) (ht : (kT e == t) = true) (w : Cond.methodLink M.2.1 index y ∈ GW) (hn : (As ad).length = n) (hR : RMok N M) (hst : stk = (As ad).reverse ++ .ref (ad e) :: st) (hroom : (st.map fun v => v.category).sum ≤ 8) (d : decode M.1 pc = .ok (.invokevirtual index, 3)) (k : ∀ (a : Unit) (v : Uw), Go X ad M iv (pc + 3) lv st v (kk a v)) : Go X ad M iv pc lv stk u (bd f kk) := go_callV hM mo ok ht w hn hR hst hroom d k
theorem go_callVR {t : Nat} {C : String} {T : u_T} {NF : Nat} {tyF : Nat → FieldType} {e : Nat} {As : (Nat → Nat) → List Value} {f : Option ((Option Nat) × Uw)} {kk : (Option Nat) → Uw → Option (α × Uw)} (hM : ∀ l, Con l y N ivR (fun ad => .ref (ad e) :: As ad) u f) (mo : MOV y N n C) (ok : clOk t C T NF tyF) (ht : (kT e == t) = true) (w : Cond.methodLink M.2.1 index y ∈ GW) (hn : (As ad).length = n) (hR : RMok N M) (hst : stk = (As ad).reverse ++ .ref (ad e) :: st) (hroom : (st.map fun v => v.category).sum ≤ 8) (d : decode M.1 pc = .ok (.invokevirtual index, 3)) (k : ∀ (a : (Option Nat)) (v : Uw), Go X ad M iv (pc + 3) lv (va_re ad a :: st) v (kk a v)) : Go X ad M iv pc lv stk u (bd f kk) := go_callV hM mo ok ht w hn hR hst hroom d k
theorem go_callVC {t : Nat} {C : String} {T : u_T} {NF : Nat} {tyF : Nat → FieldType} {e : Nat} {As : (Nat → Nat) → List Value} {f : Option (UInt16 × Uw)} {kk : UInt16 → Uw → Option (α × Uw)} (hM : ∀ l, Con l y N ivC (fun ad => .ref (ad e) :: As ad) u f) (mo : MOV y N n C) (ok : clOk t C T NF tyF) (ht : (kT e == t) = true) (w : Cond.methodLink M.2.1 index y ∈ GW) (hn : (As ad).length = n) (hR : RMok N M) (hst : stk = (As ad).reverse ++ .ref (ad e) :: st) (hroom : (st.map fun v => v.category).sum ≤ 8) (d : decode M.1 pc = .ok (.invokevirtual index, 3)) (k : ∀ (a : UInt16) (v : Uw), Go X ad M iv (pc + 3) lv (.int (cI a) :: st) v (kk a v)) : Go X ad M iv pc lv stk u (bd f kk) := go_callV hM mo ok ht w hn hR hst hroom d k
theorem go_callSI {As : (Nat → Nat) → List Value} {f : Option (Int32 × Uw)} {kk : Int32 → Uw → Option (α × Uw)} (hM : ∀ l, Con l y N ivI As u f) (mo : MOK y N n) (ws : Cond.static y ∈ GW) (w : Cond.methodLink M.2.1 index y ∈ GW) (hn : (As ad).length = n) (hR : RMok N M) (hst : stk = (As ad).reverse ++ st) (hroom : (st.map fun v => v.category).sum ≤ 8) (d : decode M.1 pc = .ok (.invokestatic index, 3)) (k : ∀ (a : Int32) (v : Uw), Go X ad M iv (pc + 3) lv (.int a :: st) v (kk a v)) : Go X ad M iv pc lv stk u (bd f kk) := go_callS hM mo ws w hn hR hst hroom d k
theorem go_callSZ {As : (Nat → Nat) → List Value} {f : Option (Bool × Uw)} {kk : Bool → Uw → Option (α × Uw)} (hM : ∀ l, Con l y N ivZ As u f) (mo : MOK y N n) (ws : Cond.static y ∈ GW) (w : Cond.methodLink M.2.1 index y ∈ GW) (hn : (As ad).length = n) (hR : RMok N M) (hst : stk = (As ad).reverse ++ st) (hroom : (st.map fun v => v.category).sum ≤ 8) (d : decode M.1 pc = .ok (.invokestatic index, 3)) (k : ∀ (a : Bool) (v : Uw), Go X ad M iv (pc + 3) lv (.int (bI a) :: st) v (kk a v)) : Go X ad M iv pc lv stk u (bd f kk) := go_callS hM mo ws w hn hR hst hroom d k
theorem go_callSL {As : (Nat → Nat) → List Value} {f : Option (Int64 × Uw)} {kk : Int64 → Uw → Option (α × Uw)} (hM : ∀ l, Con l y N ivL As u f) (mo : MOK y N n) (ws : Cond.static y ∈ GW) (w : Cond.methodLink M.2.1 index y ∈ GW) (hn : (As ad).length = n) (hR : RMok N M) (hst : stk = (As ad).reverse ++ st) (hroom : (st.map fun v => v.category).sum ≤ 8) (d : decode M.1 pc = .ok (.invokestatic index, 3)) (k : ∀ (a : Int64) (v : Uw), Go X ad M iv (pc + 3) lv (.long a :: st) v (kk a v)) : Go X ad M iv pc lv stk u (bd f kk) := go_callS hM mo ws w hn hR hst hroom d k
theorem go_callSV {As : (Nat → Nat) → List Value} {f : Option (Unit × Uw)} {kk : Unit → Uw → Option (α × Uw)} (hM : ∀ l, Con l y N ivV As u f) (mo : MOK y N n) (ws : Cond.static y ∈ GW) (w : Cond.methodLink M.2.1 index y ∈ GW) (hn : (As ad).length = n) (hR : RMok N M) (hst : stk = (As ad).reverse ++ st) (hroom : (st.map fun v => v.category).sum ≤ 8) (d : decode M.1 pc = .ok (.invokestatic index, 3)) (k : ∀ (a : Unit) (v : Uw), Go X ad M iv (pc + 3) lv st v (kk a v)) : Go X ad M iv pc lv stk u (bd f kk) := go_callS hM mo ws w hn hR hst hroom d k
theorem go_callSR {As : (Nat → Nat) → List Value} {f : Option ((Option Nat) × Uw)} {kk : (Option Nat) → Uw → Option (α × Uw)} (hM : ∀ l, Con l y N ivR As u f) (mo : MOK y N n) (ws : Cond.static y ∈ GW) (w : Cond.methodLink M.2.1 index y ∈ GW) (hn : (As ad).length = n) (hR : RMok N M) (hst : stk = (As ad).reverse ++ st) (hroom : (st.map fun v => v.category).sum ≤ 8) (d : decode M.1 pc = .ok (.invokestatic index, 3)) (k : ∀ (a : (Option Nat)) (v : Uw), Go X ad M iv (pc + 3) lv (va_re ad a :: st) v (kk a v)) : Go X ad M iv pc lv stk u (bd f kk) := go_callS hM mo ws w hn hR hst hroom d k
theorem go_callSC {As : (Nat → Nat) → List Value} {f : Option (UInt16 × Uw)} {kk : UInt16 → Uw → Option (α × Uw)} (hM : ∀ l, Con l y N ivC As u f) (mo : MOK y N n) (ws : Cond.static y ∈ GW) (w : Cond.methodLink M.2.1 index y ∈ GW) (hn : (As ad).length = n) (hR : RMok N M) (hst : stk = (As ad).reverse ++ st) (hroom : (st.map fun v => v.category).sum ≤ 8) (d : decode M.1 pc = .ok (.invokestatic index, 3)) (k : ∀ (a : UInt16) (v : Uw), Go X ad M iv (pc + 3) lv (.int (cI a) :: st) v (kk a v)) : Go X ad M iv pc lv stk u (bd f kk) := go_callS hM mo ws w hn hR hst hroom d k
theorem go_callSNI {As : (Nat → Nat) → List Value} {host : String} {f : Option (Int32 × Uw)} {kk : Int32 → Uw → Option (α × Uw)} (hM : ∀ l, Con l y N ivI As u f) (mo : MOK y N n) (ws : Cond.static y ∈ GW) (w : Cond.methodLinkNest M.2.1 index y host ∈ NW) (hn : (As ad).length = n) (hR : RMok N M) (hst : stk = (As ad).reverse ++ st) (hroom : (st.map fun v => v.category).sum ≤ 8) (d : decode M.1 pc = .ok (.invokestatic index, 3)) (k : ∀ (a : Int32) (v : Uw), Go X ad M iv (pc + 3) lv (.int a :: st) v (kk a v)) : Go X ad M iv pc lv stk u (bd f kk) := go_callSN hM mo ws w hn hR hst hroom d k
theorem go_callSNZ {As : (Nat → Nat) → List Value} {host : String} {f : Option (Bool × Uw)} {kk : Bool → Uw → Option (α × Uw)} (hM : ∀ l, Con l y N ivZ As u f) (mo : MOK y N n) (ws : Cond.static y ∈ GW) (w : Cond.methodLinkNest M.2.1 index y host ∈ NW) (hn : (As ad).length = n) (hR : RMok N M) (hst : stk = (As ad).reverse ++ st) (hroom : (st.map fun v => v.category).sum ≤ 8) (d : decode M.1 pc = .ok (.invokestatic index, 3)) (k : ∀ (a : Bool) (v : Uw), Go X ad M iv (pc + 3) lv (.int (bI a) :: st) v (kk a v)) : Go X ad M iv pc lv stk u (bd f kk) := go_callSN hM mo ws w hn hR hst hroom d k
theorem go_callSNL {As : (Nat → Nat) → List Value} {host : String} {f : Option (Int64 × Uw)} {kk : Int64 → Uw → Option (α × Uw)} (hM : ∀ l, Con l y N ivL As u f) (mo : MOK y N n) (ws : Cond.static y ∈ GW) (w : Cond.methodLinkNest M.2.1 index y host ∈ NW) (hn : (As ad).length = n) (hR : RMok N M) (hst : stk = (As ad).reverse ++ st) (hroom : (st.map fun v => v.category).sum ≤ 8) (d : decode M.1 pc = .ok (.invokestatic index, 3)) (k : ∀ (a : Int64) (v : Uw), Go X ad M iv (pc + 3) lv (.long a :: st) v (kk a v)) : Go X ad M iv pc lv stk u (bd f kk) := go_callSN hM mo ws w hn hR hst hroom d k
theorem go_callSNV {As : (Nat → Nat) → List Value} {host : String} {f : Option (Unit × Uw)} {kk : Unit → Uw → Option (α × Uw)} (hM : ∀ l, Con l y N ivV As u f) (mo : MOK y N n) (ws : Cond.static y ∈ GW) (w : Cond.methodLinkNest M.2.1 index y host ∈ NW) (hn : (As ad).length = n) (hR : RMok N M) (hst : stk = (As ad).reverse ++ st) (hroom : (st.map fun v => v.category).sum ≤ 8) (d : decode M.1 pc = .ok (.invokestatic index, 3)) (k : ∀ (a : Unit) (v : Uw), Go X ad M iv (pc + 3) lv st v (kk a v)) : Go X ad M iv pc lv stk u (bd f kk) := go_callSN hM mo ws w hn hR hst hroom d k
theorem go_callSNR {As : (Nat → Nat) → List Value} {host : String} {f : Option ((Option Nat) × Uw)} {kk : (Option Nat) → Uw → Option (α × Uw)} (hM : ∀ l, Con l y N ivR As u f) (mo : MOK y N n) (ws : Cond.static y ∈ GW) (w : Cond.methodLinkNest M.2.1 index y host ∈ NW) (hn : (As ad).length = n) (hR : RMok N M) (hst : stk = (As ad).reverse ++ st) (hroom : (st.map fun v => v.category).sum ≤ 8) (d : decode M.1 pc = .ok (.invokestatic index, 3)) (k : ∀ (a : (Option Nat)) (v : Uw), Go X ad M iv (pc + 3) lv (va_re ad a :: st) v (kk a v)) : Go X ad M iv pc lv stk u (bd f kk) := go_callSN hM mo ws w hn hR hst hroom d k
theorem go_callSNC {As : (Nat → Nat) → List Value} {host : String} {f : Option (UInt16 × Uw)} {kk : UInt16 → Uw → Option (α × Uw)} (hM : ∀ l, Con l y N ivC As u f) (mo : MOK y N n) (ws : Cond.static y ∈ GW) (w : Cond.methodLinkNest M.2.1 index y host ∈ NW) (hn : (As ad).length = n) (hR : RMok N M) (hst : stk = (As ad).reverse ++ st) (hroom : (st.map fun v => v.category).sum ≤ 8) (d : decode M.1 pc = .ok (.invokestatic index, 3)) (k : ∀ (a : UInt16) (v : Uw), Go X ad M iv (pc + 3) lv (.int (cI a) :: st) v (kk a v)) : Go X ad M iv pc lv stk u (bd f kk) := go_callSN hM mo ws w hn hR hst hroom d k
theorem go_callTI {e : Nat} {As : (Nat → Nat) → List Value} {f : Option (Int32 × Uw)} {kk : Int32 → Uw → Option (α × Uw)} (hM : ∀ l, Con l y N ivI (fun ad => .ref (ad e) :: As ad) u f) (mo : MOV y N n "java/lang/String") (hs : isS e = true) (w : Cond.methodLink M.2.1 index y ∈ GW) (hn : (As ad).length = n) (hR : RMok N M) (hst : stk = (As ad).reverse ++ .ref (ad e) :: st) (hroom : (st.map fun v => v.category).sum ≤ 8) (d : decode M.1 pc = .ok (.invokevirtual index, 3)) (k : ∀ (a : Int32) (v : Uw), Go X ad M iv (pc + 3) lv (.int a :: st) v (kk a v)) : Go X ad M iv pc lv stk u (bd f kk) := go_callT hM mo hs w hn hR hst hroom d k
theorem go_callTZ {e : Nat} {As : (Nat → Nat) → List Value} {f : Option (Bool × Uw)} {kk : Bool → Uw → Option (α × Uw)} (hM : ∀ l, Con l y N ivZ (fun ad => .ref (ad e) :: As ad) u f) (mo : MOV y N n "java/lang/String") (hs : isS e = true) (w : Cond.methodLink M.2.1 index y ∈ GW) (hn : (As ad).length = n) (hR : RMok N M) (hst : stk = (As ad).reverse ++ .ref (ad e) :: st) (hroom : (st.map fun v => v.category).sum ≤ 8) (d : decode M.1 pc = .ok (.invokevirtual index, 3)) (k : ∀ (a : Bool) (v : Uw), Go X ad M iv (pc + 3) lv (.int (bI a) :: st) v (kk a v)) : Go X ad M iv pc lv stk u (bd f kk) := go_callT hM mo hs w hn hR hst hroom d k
theorem go_callTL {e : Nat} {As : (Nat → Nat) → List Value} {f : Option (Int64 × Uw)} {kk : Int64 → Uw → Option (α × Uw)} (hM : ∀ l, Con l y N ivL (fun ad => .ref (ad e) :: As ad) u f) (mo : MOV y N n "java/lang/String") (hs : isS e = true) (w : Cond.methodLink M.2.1 index y ∈ GW) (hn : (As ad).length = n) (hR : RMok N M) (hst : stk = (As ad).reverse ++ .ref (ad e) :: st) (hroom : (st.map fun v => v.category).sum ≤ 8) (d : decode M.1 pc = .ok (.invokevirtual index, 3)) (k : ∀ (a : Int64) (v : Uw), Go X ad M iv (pc + 3) lv (.long a :: st) v (kk a v)) : Go X ad M iv pc lv stk u (bd f kk) := go_callT hM mo hs w hn hR hst hroom d k
theorem go_callTV {e : Nat} {As : (Nat → Nat) → List Value} {f : Option (Unit × Uw)} {kk : Unit → Uw → Option (α × Uw)} (hM : ∀ l, Con l y N ivV (fun ad => .ref (ad e) :: As ad) u f) (mo : MOV y N n "java/lang/String") (hs : isS e = true) (w : Cond.methodLink M.2.1 index y ∈ GW) (hn : (As ad).length = n) (hR : RMok N M) (hst : stk = (As ad).reverse ++ .ref (ad e) :: st) (hroom : (st.map fun v => v.category).sum ≤ 8) (d : decode M.1 pc = .ok (.invokevirtual index, 3)) (k : ∀ (a : Unit) (v : Uw), Go X ad M iv (pc + 3) lv st v (kk a v)) : Go X ad M iv pc lv stk u (bd f kk) := go_callT hM mo hs w hn hR hst hroom d k
theorem go_callTR {e : Nat} {As : (Nat → Nat) → List Value} {f : Option ((Option Nat) × Uw)} {kk : (Option Nat) → Uw → Option (α × Uw)} (hM : ∀ l, Con l y N ivR (fun ad => .ref (ad e) :: As ad) u f) (mo : MOV y N n "java/lang/String") (hs : isS e = true) (w : Cond.methodLink M.2.1 index y ∈ GW) (hn : (As ad).length = n) (hR : RMok N M) (hst : stk = (As ad).reverse ++ .ref (ad e) :: st) (hroom : (st.map fun v => v.category).sum ≤ 8) (d : decode M.1 pc = .ok (.invokevirtual index, 3)) (k : ∀ (a : (Option Nat)) (v : Uw), Go X ad M iv (pc + 3) lv (va_re ad a :: st) v (kk a v)) : Go X ad M iv pc lv stk u (bd f kk) := go_callT hM mo hs w hn hR hst hroom d k
theorem go_callTC {e : Nat} {As : (Nat → Nat) → List Value} {f : Option (UInt16 × Uw)} {kk : UInt16 → Uw → Option (α × Uw)} (hM : ∀ l, Con l y N ivC (fun ad => .ref (ad e) :: As ad) u f) (mo : MOV y N n "java/lang/String") (hs : isS e = true) (w : Cond.methodLink M.2.1 index y ∈ GW) (hn : (As ad).length = n) (hR : RMok N M) (hst : stk = (As ad).reverse ++ .ref (ad e) :: st) (hroom : (st.map fun v => v.category).sum ≤ 8) (d : decode M.1 pc = .ok (.invokevirtual index, 3)) (k : ∀ (a : UInt16) (v : Uw), Go X ad M iv (pc + 3) lv (.int (cI a) :: st) v (kk a v)) : Go X ad M iv pc lv stk u (bd f kk) := go_callT hM mo hs w hn hR hst hroom d k
end GoCalls2
section GoRets2
variable {X : Cx} {ad : Nat → Nat} {M : Mi} {pc : Nat} {lv : List (Nat × Value)} {u : Uw}
theorem cI_narrow (c : UInt16) : narrow .char (.int (cI c)) = .int (cI c) := by
  have e : (cI c) = ((cI c).toUInt32 % 65536).toInt32 := by
    unfold cI
    rw [show c.toUInt32.toInt32.toUInt32 = c.toUInt32 by simp]
    congr 1
    apply UInt32.toNat_inj.mp
    have := c.toNat_lt
    simp [UInt32.toNat_mod]
  rw [e]
  exact pk_nc _
theorem go_cret {c : UInt16} (hr : M.2.2.2.1 = some .char) (d : decode M.1 pc = .ok (.ireturn, 1)) : Go X ad M ivC pc lv [.int (cI c)] u (some (c, u)) := by
  obtain ⟨p, l, e, s, m, args, below, meth, cc, D, cA⟩ := X
  intro hok r u2 ho H locs ls hP hS h
  cases ho
  exact W.zret hok.1 hok.2.1 (hok.2.2.2.2.2.2.1.trans hr) (cI_narrow c) (fun t ht hW => ⟨rfl, by rw [ht]; exact hP, hS.F ht⟩) hS.2.2 d hok.2.2.2.2.2.1
theorem cI_of (x : Int32) : (x.toUInt32 % 65536).toInt32 = cI x.toUInt32.toUInt16 := by
  unfold cI
  congr 1
theorem go_cret2 {x : Int32} (hr : M.2.2.2.1 = some .char) (d : decode M.1 pc = .ok (.ireturn, 1)) : Go X ad M ivC pc lv [.int ((x.toUInt32 % 65536).toInt32)] u (some (x.toUInt32.toUInt16, u)) := by
  rw [cI_of]
  exact go_cret hr d
theorem go_bret0 (hr : M.2.2.2.1 = some .byte) (d : decode M.1 pc = .ok (.ireturn, 1)) : Go X ad M ivI pc lv [.int 0] u (some (0, u)) := by
  obtain ⟨p, l, e, s, m, args, below, meth, cc, D, cA⟩ := X
  intro hok r u2 ho H locs ls hP hS h
  cases ho
  exact W.zret hok.1 hok.2.1 (hok.2.2.2.2.2.2.1.trans hr) rfl (fun t ht hW => ⟨rfl, by rw [ht]; exact hP, hS.F ht⟩) hS.2.2 d hok.2.2.2.2.2.1
end GoRets2
def cpok (sp dp n : Int32) (a b : Nat) : Bool := !(decide (sp < 0)) && !(decide (dp < 0)) && !(decide (n < 0)) && decide (sp.toNatClampNeg + n.toNatClampNeg ≤ a) && decide (dp.toNatClampNeg + n.toNatClampNeg ≤ b)
theorem cpok_spec {sp dp n : Int32} {a b : Nat} (h : cpok sp dp n a b = true) : ¬ sp < 0 ∧ ¬ dp < 0 ∧ ¬ n < 0 ∧ sp.toNatClampNeg + n.toNatClampNeg ≤ a ∧ dp.toNatClampNeg + n.toNatClampNeg ≤ b := by
  simp only [cpok, Bool.and_eq_true, Bool.not_eq_true', decide_eq_false_iff_not, decide_eq_true_eq] at h
  exact ⟨h.1.1.1.1, h.1.1.1.2, h.1.1.2, h.1.2, h.2⟩
theorem mk1_cpy {m dp sp k : Nat} {f g f' : Nat → Int32} (h5 : dp + k ≤ m) (hf : ∀ i, i < k → f (sp + i) = f' i) : va_cpy f (mk1 m g) sp dp k = mk1 m (fun j => if dp ≤ j ∧ j < dp + k then f' (j - dp) else g j) := by
  funext j
  unfold va_cpy mk1
  by_cases h : dp ≤ j ∧ j < dp + k
  · rw [if_pos h, if_pos (by omega)]
    show _ = ite _ _ _
    rw [if_pos h]
    exact hf _ (by omega)
  · rw [if_neg h]
    split
    · show _ = ite _ _ _
      rw [if_neg h]
    · rfl
theorem mk2_cpy {m dp sp k : Nat} {f g f' : Nat → Int64} (h5 : dp + k ≤ m) (hf : ∀ i, i < k → f (sp + i) = f' i) : va_cpy f (mk2 m g) sp dp k = mk2 m (fun j => if dp ≤ j ∧ j < dp + k then f' (j - dp) else g j) := by
  funext j
  unfold va_cpy mk2
  by_cases h : dp ≤ j ∧ j < dp + k
  · rw [if_pos h, if_pos (by omega)]
    show _ = ite _ _ _
    rw [if_pos h]
    exact hf _ (by omega)
  · rw [if_neg h]
    split
    · show _ = ite _ _ _
      rw [if_neg h]
    · rfl
theorem gk_cp1 {u : Uw} {f : Nat → Int32} {k j n : Nat} : gk (cp1 u f (kR k) (kO k + j) n) k = fun i => if j ≤ i ∧ i < j + n then f (i - j) else gk u k i := by
  funext i
  show (if kR k = kR k ∧ kO k + j ≤ kO k + i ∧ kO k + i < kO k + j + n then f (kO k + i - (kO k + j)) else u.1 (kR k) (kO k + i)) = _
  by_cases h : j ≤ i ∧ i < j + n
  · rw [if_pos ⟨rfl, by omega, by omega⟩, if_pos h, show kO k + i - (kO k + j) = i - j by omega]
  · rw [if_neg (by omega), if_neg h]; rfl
theorem hk_cp2 {u : Uw} {f : Nat → Int64} {k j n : Nat} : hk (cp2 u f (kR k) j n) k = fun i => if j ≤ i ∧ i < j + n then f (i - j) else hk u k i := by
  funext i
  show (if kR k = kR k ∧ j ≤ i ∧ i < j + n then f (i - j) else u.2 (kR k) i) = _
  by_cases h : j ≤ i ∧ i < j + n
  · rw [if_pos ⟨rfl, h⟩, if_pos h]
  · rw [if_neg (fun q => h q.2), if_neg h]; rfl
section GoCopies
variable {X : Cx} {ad : Nat → Nat} {M : Mi} {α : Type} {iv : (Nat → Nat) → α → Option Value} {pc : Nat} {lv : List (Nat × Value)} {st : List Value} {u : Uw} {o : Option (α × Uw)}
theorem go_copyi {e f index : Nat} {sp dp n : Int32} (hs : (kT e == 10) = true) (hd : (kT f == 10) = true) (hc : cpok sp dp n (kL e) (kL f) = true) (wa : Cond.methodLink M.2.1 index arraycopyName ∈ GW) (wb : Cond.native arraycopyName ∈ GW) (wc : Cond.static arraycopyName ∈ GW) (wd : Cond.initialized "java/lang/System" ∈ GW) (hf : 1 ≤ M.2.2.2.2.frames) (hlo : (st.map fun v => v.category).sum + (nativeFrameWords "java/lang/System" "arraycopy" 5 + 11) ≤ M.2.2.2.2.locals) (d : decode M.1 pc = .ok (.invokestatic index, 3))
    (k : Go X ad M iv (pc + 3) lv st (cp1 u (fun i => u.1 (kR e) (kO e + (sp.toNatClampNeg + i))) (kR f) (kO f + dp.toNatClampNeg) n.toNatClampNeg) o) : Go X ad M iv pc lv (.int n :: .int dp :: .ref (ad f) :: .int sp :: .ref (ad e) :: st) u o := by
  obtain ⟨p, l, ev, s, m, args, below, meth, c, D, cA⟩ := X
  intro hok r u2 ho H locs ls hP hS h
  obtain ⟨h1, h2, h3, h4, h5⟩ := cpok_spec hc
  have e97' := e97 hs (by decide)
  have f97 := e97 hd (by decide)
  have hw := hok.2.2.2.2.1
  refine va_copyi hok.1 hok.2.1 (hok.2.2.1.trans h.1.symm) hok.2.2.2.1 (hw _ wa) (hw _ wb) (hw _ wc) (hw _ wd) hok.2.2.2.2.2.2.2.2.1 hP (wl_D hok.2.2.2.2.2.2.2.1) hS e f 0 0 (ty := .int) (by rw [wl_get e97', cell_ia hs]) (by rw [wl_get f97, cell_ia hd]) rfl rfl rfl h1 h2 h3 h4 h5 (fun _ _ => rfl) hf hlo d (fun H1 locs1 hP1 _ hS1 => ?_)
  refine k hok r u2 ho H1 locs1 ls ?_ hS1 h
  rw [mk1_cpy (f' := fun i => u.1 (kR e) (kO e + (sp.toNatClampNeg + i))) h5 (fun i hi => if_pos (by omega))] at hP1
  rw [← wl_set f97 (u := u) (e := .inl (cA 0, kL f, .inl (mk1 (kL f) (fun j => if dp.toNatClampNeg ≤ j ∧ j < dp.toNatClampNeg + n.toNatClampNeg then u.1 (kR e) (kO e + (sp.toNatClampNeg + (j - dp.toNatClampNeg))) else gk u f j)))) (by rw [cell_ia hd, gk_cp1]) (fun a ha hne => otherc1 f97 (by simp only [cn, eq_of_beq hd]; exact h5) ha hne)]
  exact hP1
theorem go_copyl {e f index : Nat} {sp dp n : Int32} (hs : (kT e == 11) = true) (hd : (kT f == 11) = true) (hc : cpok sp dp n (kL e) (kL f) = true) (wa : Cond.methodLink M.2.1 index arraycopyName ∈ GW) (wb : Cond.native arraycopyName ∈ GW) (wc : Cond.static arraycopyName ∈ GW) (wd : Cond.initialized "java/lang/System" ∈ GW) (hf : 1 ≤ M.2.2.2.2.frames) (hlo : (st.map fun v => v.category).sum + (nativeFrameWords "java/lang/System" "arraycopy" 5 + 11) ≤ M.2.2.2.2.locals) (d : decode M.1 pc = .ok (.invokestatic index, 3))
    (k : Go X ad M iv (pc + 3) lv st (cp2 u (fun i => u.2 (kR e) (sp.toNatClampNeg + i)) (kR f) dp.toNatClampNeg n.toNatClampNeg) o) : Go X ad M iv pc lv (.int n :: .int dp :: .ref (ad f) :: .int sp :: .ref (ad e) :: st) u o := by
  obtain ⟨p, l, ev, s, m, args, below, meth, c, D, cA⟩ := X
  intro hok r u2 ho H locs ls hP hS h
  obtain ⟨h1, h2, h3, h4, h5⟩ := cpok_spec hc
  have e97' := e97 hs (by decide)
  have f97 := e97 hd (by decide)
  have hw := hok.2.2.2.2.1
  refine va_copyl hok.1 hok.2.1 (hok.2.2.1.trans h.1.symm) hok.2.2.2.1 (hw _ wa) (hw _ wb) (hw _ wc) (hw _ wd) hok.2.2.2.2.2.2.2.2.1 hP (wl_D hok.2.2.2.2.2.2.2.1) hS e f 1 1 (ty := .long) (by rw [wl_get e97', cell_la hs]) (by rw [wl_get f97, cell_la hd]) rfl rfl rfl h1 h2 h3 h4 h5 (fun _ _ => rfl) hf hlo d (fun H1 locs1 hP1 _ hS1 => ?_)
  refine k hok r u2 ho H1 locs1 ls ?_ hS1 h
  rw [mk2_cpy (f' := fun i => u.2 (kR e) (sp.toNatClampNeg + i)) h5 (fun i hi => if_pos (by omega))] at hP1
  rw [← wl_set f97 (u := u) (e := .inl (cA 1, kL f, .inr (.inl (mk2 (kL f) (fun j => if dp.toNatClampNeg ≤ j ∧ j < dp.toNatClampNeg + n.toNatClampNeg then u.2 (kR e) (sp.toNatClampNeg + (j - dp.toNatClampNeg)) else hk u f j))))) (by rw [cell_la hd, hk_cp2]) (fun a ha hne => otherc2 f97 (eq_of_beq hd) ha hne)]
  exact hP1
/-- a table of Calendar's comes over a row of ints, whole -/
theorem go_copyt (t : Nat) (ht : t < 3) {f index : Nat} (hd : (kT f == 10) = true) (h5' : decide (5 ≤ kL f) = true) (wa : Cond.methodLink M.2.1 index arraycopyName ∈ GW) (wb : Cond.native arraycopyName ∈ GW) (wc : Cond.static arraycopyName ∈ GW) (wd : Cond.initialized "java/lang/System" ∈ GW) (hf : 1 ≤ M.2.2.2.2.frames) (hlo : (st.map fun v => v.category).sum + (nativeFrameWords "java/lang/System" "arraycopy" 5 + 11) ≤ M.2.2.2.2.locals) (d : decode M.1 pc = .ok (.invokestatic index, 3))
    (k : Go X ad M iv (pc + 3) lv st (cp1 u (tbv t) (kR f) (kO f) 5) o) : Go X ad M iv pc lv (.int 5 :: .int 0 :: .ref (ad f) :: .int 0 :: .ref (ad (100 + t)) :: st) u o := by
  obtain ⟨p, l, ev, s, m, args, below, meth, c, D, cA⟩ := X
  intro hok r u2 ho H locs ls hP hS h
  have f97 := e97 hd (by decide)
  have h5 : 5 ≤ kL f := of_decide_eq_true h5'
  have hw := hok.2.2.2.2.1
  obtain ⟨scr, hs1, hs2, hs3, hs4, -, hs5, hs7⟩ := (hok.2.2.2.2.2.2.2.2.2.2.1 t ht).2
  intro T hT Y
  have ha1 : (wl ad cA u)[f]? = some (ad f, .inl (cA 0, kL f, .inl (mk1 (kL f) (gk u f)))) := by rw [wl_get f97, cell_ia hd]
  have hc0 : H[ad (100 + t)]? = some scr := by rw [hS.2.1 _ (Array.getElem?_eq_some_iff.mp hs1).1 hs7]; exact hs1
  have hc1 : H[ad f]? = some (vp_cell (cA 0) (kL f, .inl (mk1 (kL f) (gk u f)))) := hP f _ ha1
  obtain ⟨hs6, k0, hk0, cm0, hkk0⟩ := hs2
  obtain ⟨-, k1, hk1, cm1, hkk1⟩ := (hok.2.2.2.2.2.2.2.2.1.2 0 _ rfl).1 (kL f) (fun j => .int (mk1 (kL f) (gk u f) j))
  obtain ⟨vm', Y', step⟩ := Y.arraycopy hok.1 hok.2.2.2.1 (hw _ wa) (hw _ wb) (hw _ wc) (hw _ wd) (src := ad (100 + t)) (dst := ad f) (cs := scr) (cd := vp_cell (cA 0) (kL f, .inl (mk1 (kL f) (gk u f)))) (srcPos := 0) (destPos := 0) (n := 5) (by rw [hT]; exact hc0) (by rw [hT]; exact hc1)
    hs6 (fun _ h => by cases h) hs3 (fun h => by cases h) hk0 hk1 hkk0 hkk1 (by simp [refKind]) (by decide) (by decide) (by decide)
    (by show ¬ (0 + 5 : Int) > _; omega)
    (by show ¬ (0 + 5 : Int) > ((arrV (cA 0) (kL f) (fun j => .int (mk1 (kL f) (gk u f) j))).slots.size : Int); rw [arrV_size]; omega)
    (fun vm₁ _ i hi => by
      have hi5 : i < 5 := hi
      have e : scr.slots.getD ((0 : Int32).toNatClampNeg + i) .null = .int (tbv t i) := by
        rw [show (0 : Int32).toNatClampNeg + i = i from Nat.zero_add i, Array.getD_eq_getD_getElem?, hs5 _ hi5]
        rfl
      exact ⟨by rw [e]; rfl, by rw [e]; exact trivial⟩)
    (g := F0 m pc ls (.int 5 :: .int 0 :: .ref (ad f) :: .int 0 :: .ref (ad (100 + t)) :: st)) rfl (h.1.trans hok.2.2.1.symm) (rest := st) rfl (by rw [hok.2.1]; exact d) hf (by show 2 * 0 + _ + _ ≤ _; omega)
  have e1 : copied scr (vp_cell (cA 0) (kL f, .inl (mk1 (kL f) (gk u f)))) 0 0 5 = vp_cell (cA 0) (kL f, .inl (va_cpy (tbv t) (mk1 (kL f) (gk u f)) 0 0 5)) := va_copiedX (fun z => .int z) scr (cA 0) (tbv t) (mk1 (kL f) (gk u f)) hs5 (by decide)
  rw [e1] at Y' step
  have hl : ad f < H.size := (Array.getElem?_eq_some_iff.mp hc1).1
  have hheap : ((T.setVm vm').setCell (ad f) (vp_cell (cA 0) (kL f, .inl (va_cpy (tbv t) (mk1 (kL f) (gk u f)) 0 0 5)))).heap = H.setIfInBounds (ad f) (vp_cell (cA 0) (kL f, .inl (va_cpy (tbv t) (mk1 (kL f) (gk u f)) 0 0 5))) := by rw [← hT]; rfl
  have oq : ∀ q : Nat, q ≠ ad f → (H.setIfInBounds (ad f) (vp_cell (cA 0) (kL f, .inl (va_cpy (tbv t) (mk1 (kL f) (gk u f)) 0 0 5))))[q]? = H[q]? := fun q hq => by simp [Array.getElem?_setIfInBounds, Ne.symm hq]
  have hD := wl_D (cA := cA) (u := u) hok.2.2.2.2.2.2.2.1
  have hP2 : va_P D vwCl (wl ad cA (cp1 u (tbv t) (kR f) (kO f) 5)) (H.setIfInBounds (ad f) (vp_cell (cA 0) (kL f, .inl (va_cpy (tbv t) (mk1 (kL f) (gk u f)) 0 0 5)))) := by
    rw [show cp1 u (tbv t) (kR f) (kO f) 5 = cp1 u (tbv t) (kR f) (kO f + 0) 5 from rfl, ← wl_set f97 (u := u) (e := .inl (cA 0, kL f, .inl (va_cpy (tbv t) (mk1 (kL f) (gk u f)) 0 0 5))) (by rw [cell_ia hd, gk_cp1, mk1_cpy (f' := tbv t) (by omega) (fun i _ => by rw [Nat.zero_add])]) (fun a ha hne => otherc1 f97 (by simp only [cn, eq_of_beq hd]; omega) ha hne)]
    exact hP.set hD ha1 (show (H.setIfInBounds (ad f) _)[ad f]? = some _ by simp [Array.getElem?_setIfInBounds, hl]) oq
  obtain ⟨t2, a1, b1⟩ := k hok r u2 ho _ _ ls hP2 ⟨by simp; exact hS.1, fun q g1 g2 => by
      rw [oq q (fun e => g2 (by rw [e]; exact hD.2 f _ ha1))]
      exact hS.2.1 q g1 g2, fun q hq => by
      rcases List.mem_append.mp hq with h | h
      · exact hS.2.2 q h
      · obtain ⟨z, -, hz⟩ := List.mem_map.mp h
        rw [← hz]
        exact hD.2 f _ ha1⟩ h _ hheap Y'
  exact ⟨t2, step t2 a1, b1⟩
end GoCopies
