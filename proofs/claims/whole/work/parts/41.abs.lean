/-! what a text tells, how far all is, and what the calls do: by itself, without memory -/
abbrev Row : Type := Nat × Int64 × Int32 × Int32
abbrev Ent : Type := Int64 × Int32 × Int32
abbrev Cfg : Type := Nat × (Nat → Nat) × (Nat → Option Nat) × (Nat → List Nat) × (Nat → Int64) × (Nat → Int64) × (Nat → Nat) × (Nat → Bool) × (Nat → Nat) × (Nat → Option Nat) × (Nat → Option Int64) × (Nat → List Nat) × St
def cn (C : Cfg) : Nat := C.1
def ckd (C : Cfg) : (Nat → Nat) := C.2.1
def ctk (C : Cfg) : (Nat → Option Nat) := C.2.2.1
def cin (C : Cfg) : (Nat → List Nat) := C.2.2.2.1
def co1 (C : Cfg) : (Nat → Int64) := C.2.2.2.2.1
def co2 (C : Cfg) : (Nat → Int64) := C.2.2.2.2.2.1
def cpt (C : Cfg) : (Nat → Nat) := C.2.2.2.2.2.2.1
def chl (C : Cfg) : (Nat → Bool) := C.2.2.2.2.2.2.2.1
def caf (C : Cfg) : (Nat → Nat) := C.2.2.2.2.2.2.2.2.1
def cgr (C : Cfg) : (Nat → Option Nat) := C.2.2.2.2.2.2.2.2.2.1
def csp (C : Cfg) : (Nat → Option Int64) := C.2.2.2.2.2.2.2.2.2.2.1
def cnm (C : Cfg) : (Nat → List Nat) := C.2.2.2.2.2.2.2.2.2.2.2.1
def cbs (C : Cfg) : St := C.2.2.2.2.2.2.2.2.2.2.2.2
abbrev Dyn : Type := (Nat → Int64) × (Nat → Bool) × (Nat → Nat → Nat) × (Nat → Nat → Int64) × (Nat → Nat → Int32) × Int32 × List Row × List Row × Int32 × (Nat → List Ent) × (Nat → Nat → List Ent) × List (Nat × Int64 × Bool)
def dmk (D : Dyn) : (Nat → Int64) := D.1
def did (D : Dyn) : (Nat → Bool) := D.2.1
def dps (D : Dyn) : (Nat → Nat → Nat) := D.2.2.1
def dpr (D : Dyn) : (Nat → Nat → Int64) := D.2.2.2.1
def dhr (D : Dyn) : (Nat → Nat → Int32) := D.2.2.2.2.1
def dnow (D : Dyn) : Int32 := D.2.2.2.2.2.1
def dou (D : Dyn) : List Row := D.2.2.2.2.2.2.1
def dla (D : Dyn) : List Row := D.2.2.2.2.2.2.2.1
def dlo (D : Dyn) : Int32 := D.2.2.2.2.2.2.2.2.1
def dwi (D : Dyn) : (Nat → List Ent) := D.2.2.2.2.2.2.2.2.2.1
def dke (D : Dyn) : (Nat → Nat → List Ent) := D.2.2.2.2.2.2.2.2.2.2.1
def dti (D : Dyn) : List (Nat × Int64 × Bool) := D.2.2.2.2.2.2.2.2.2.2.2
def xmk (D : Dyn) (s : Nat) (v : Int64) : Dyn := (fun q => if q = s then v else dmk D q, did D, dps D, dpr D, dhr D, dnow D, dou D, dla D, dlo D, dwi D, dke D, dti D)
def xid (D : Dyn) (s : Nat) (v : Bool) : Dyn := (dmk D, fun q => if q = s then v else did D q, dps D, dpr D, dhr D, dnow D, dou D, dla D, dlo D, dwi D, dke D, dti D)
def xps (D : Dyn) (s k : Nat) (v : Nat) : Dyn := (dmk D, did D, fun q j => if q = s then (if j = k then v else dps D q j) else dps D q j, dpr D, dhr D, dnow D, dou D, dla D, dlo D, dwi D, dke D, dti D)
def xpr (D : Dyn) (s k : Nat) (v : Int64) : Dyn := (dmk D, did D, dps D, fun q j => if q = s then (if j = k then v else dpr D q j) else dpr D q j, dhr D, dnow D, dou D, dla D, dlo D, dwi D, dke D, dti D)
def xhr (D : Dyn) (s k : Nat) (v : Int32) : Dyn := (dmk D, did D, dps D, dpr D, fun q j => if q = s then (if j = k then v else dhr D q j) else dhr D q j, dnow D, dou D, dla D, dlo D, dwi D, dke D, dti D)
def xnow (D : Dyn) (v : Int32) : Dyn := (dmk D, did D, dps D, dpr D, dhr D, v, dou D, dla D, dlo D, dwi D, dke D, dti D)
def xou (D : Dyn) (v : List Row) : Dyn := (dmk D, did D, dps D, dpr D, dhr D, dnow D, v, dla D, dlo D, dwi D, dke D, dti D)
def xla (D : Dyn) (v : List Row) : Dyn := (dmk D, did D, dps D, dpr D, dhr D, dnow D, dou D, v, dlo D, dwi D, dke D, dti D)
def xlo (D : Dyn) (v : Int32) : Dyn := (dmk D, did D, dps D, dpr D, dhr D, dnow D, dou D, dla D, v, dwi D, dke D, dti D)
def xwi (D : Dyn) (s : Nat) (v : List Ent) : Dyn := (dmk D, did D, dps D, dpr D, dhr D, dnow D, dou D, dla D, dlo D, fun q => if q = s then v else dwi D q, dke D, dti D)
def xke (D : Dyn) (s k : Nat) (v : List Ent) : Dyn := (dmk D, did D, dps D, dpr D, dhr D, dnow D, dou D, dla D, dlo D, dwi D, fun q j => if q = s then (if j = k then v else dke D q j) else dke D q j, dti D)
def xti (D : Dyn) (v : List (Nat × Int64 × Bool)) : Dyn := (dmk D, did D, dps D, dpr D, dhr D, dnow D, dou D, dla D, dlo D, dwi D, dke D, v)
theorem dg : (∀ (D : Dyn) (s : Nat) (v : Int64) (q : Nat), dmk (xmk D s v) q = if q = s then v else dmk D q) ∧ (∀ (D : Dyn) (s : Nat) (v : Bool), dmk (xid D s v) = dmk D) ∧ (∀ (D : Dyn) (s k : Nat) (v : Nat), dmk (xps D s k v) = dmk D) ∧ (∀ (D : Dyn) (s k : Nat) (v : Int64), dmk (xpr D s k v) = dmk D) ∧ (∀ (D : Dyn) (s k : Nat) (v : Int32), dmk (xhr D s k v) = dmk D) ∧ (∀ (D : Dyn) (v : Int32), dmk (xnow D v) = dmk D) ∧ (∀ (D : Dyn) (v : List Row), dmk (xou D v) = dmk D) ∧ (∀ (D : Dyn) (v : List Row), dmk (xla D v) = dmk D) ∧ (∀ (D : Dyn) (v : Int32), dmk (xlo D v) = dmk D) ∧ (∀ (D : Dyn) (s : Nat) (v : List Ent), dmk (xwi D s v) = dmk D) ∧ (∀ (D : Dyn) (s k : Nat) (v : List Ent), dmk (xke D s k v) = dmk D) ∧ (∀ (D : Dyn) (v : List (Nat × Int64 × Bool)), dmk (xti D v) = dmk D) ∧ (∀ (D : Dyn) (s : Nat) (v : Int64), did (xmk D s v) = did D) ∧ (∀ (D : Dyn) (s : Nat) (v : Bool) (q : Nat), did (xid D s v) q = if q = s then v else did D q) ∧ (∀ (D : Dyn) (s k : Nat) (v : Nat), did (xps D s k v) = did D) ∧ (∀ (D : Dyn) (s k : Nat) (v : Int64), did (xpr D s k v) = did D) ∧ (∀ (D : Dyn) (s k : Nat) (v : Int32), did (xhr D s k v) = did D) ∧ (∀ (D : Dyn) (v : Int32), did (xnow D v) = did D) ∧ (∀ (D : Dyn) (v : List Row), did (xou D v) = did D) ∧ (∀ (D : Dyn) (v : List Row), did (xla D v) = did D) ∧ (∀ (D : Dyn) (v : Int32), did (xlo D v) = did D) ∧ (∀ (D : Dyn) (s : Nat) (v : List Ent), did (xwi D s v) = did D) ∧ (∀ (D : Dyn) (s k : Nat) (v : List Ent), did (xke D s k v) = did D) ∧ (∀ (D : Dyn) (v : List (Nat × Int64 × Bool)), did (xti D v) = did D) ∧ (∀ (D : Dyn) (s : Nat) (v : Int64), dps (xmk D s v) = dps D) ∧ (∀ (D : Dyn) (s : Nat) (v : Bool), dps (xid D s v) = dps D) ∧ (∀ (D : Dyn) (s k : Nat) (v : Nat) (q j : Nat), dps (xps D s k v) q j = if q = s then (if j = k then v else dps D q j) else dps D q j) ∧ (∀ (D : Dyn) (s k : Nat) (v : Int64), dps (xpr D s k v) = dps D) ∧ (∀ (D : Dyn) (s k : Nat) (v : Int32), dps (xhr D s k v) = dps D) ∧ (∀ (D : Dyn) (v : Int32), dps (xnow D v) = dps D) ∧ (∀ (D : Dyn) (v : List Row), dps (xou D v) = dps D) ∧ (∀ (D : Dyn) (v : List Row), dps (xla D v) = dps D) ∧ (∀ (D : Dyn) (v : Int32), dps (xlo D v) = dps D) ∧ (∀ (D : Dyn) (s : Nat) (v : List Ent), dps (xwi D s v) = dps D) ∧ (∀ (D : Dyn) (s k : Nat) (v : List Ent), dps (xke D s k v) = dps D) ∧ (∀ (D : Dyn) (v : List (Nat × Int64 × Bool)), dps (xti D v) = dps D) ∧ (∀ (D : Dyn) (s : Nat) (v : Int64), dpr (xmk D s v) = dpr D) ∧ (∀ (D : Dyn) (s : Nat) (v : Bool), dpr (xid D s v) = dpr D) ∧ (∀ (D : Dyn) (s k : Nat) (v : Nat), dpr (xps D s k v) = dpr D) ∧ (∀ (D : Dyn) (s k : Nat) (v : Int64) (q j : Nat), dpr (xpr D s k v) q j = if q = s then (if j = k then v else dpr D q j) else dpr D q j) ∧ (∀ (D : Dyn) (s k : Nat) (v : Int32), dpr (xhr D s k v) = dpr D) ∧ (∀ (D : Dyn) (v : Int32), dpr (xnow D v) = dpr D) ∧ (∀ (D : Dyn) (v : List Row), dpr (xou D v) = dpr D) ∧ (∀ (D : Dyn) (v : List Row), dpr (xla D v) = dpr D) ∧ (∀ (D : Dyn) (v : Int32), dpr (xlo D v) = dpr D) ∧ (∀ (D : Dyn) (s : Nat) (v : List Ent), dpr (xwi D s v) = dpr D) ∧ (∀ (D : Dyn) (s k : Nat) (v : List Ent), dpr (xke D s k v) = dpr D) ∧ (∀ (D : Dyn) (v : List (Nat × Int64 × Bool)), dpr (xti D v) = dpr D) ∧ (∀ (D : Dyn) (s : Nat) (v : Int64), dhr (xmk D s v) = dhr D) ∧ (∀ (D : Dyn) (s : Nat) (v : Bool), dhr (xid D s v) = dhr D) ∧ (∀ (D : Dyn) (s k : Nat) (v : Nat), dhr (xps D s k v) = dhr D) ∧ (∀ (D : Dyn) (s k : Nat) (v : Int64), dhr (xpr D s k v) = dhr D) ∧ (∀ (D : Dyn) (s k : Nat) (v : Int32) (q j : Nat), dhr (xhr D s k v) q j = if q = s then (if j = k then v else dhr D q j) else dhr D q j) ∧ (∀ (D : Dyn) (v : Int32), dhr (xnow D v) = dhr D) ∧ (∀ (D : Dyn) (v : List Row), dhr (xou D v) = dhr D) ∧ (∀ (D : Dyn) (v : List Row), dhr (xla D v) = dhr D) ∧ (∀ (D : Dyn) (v : Int32), dhr (xlo D v) = dhr D) ∧ (∀ (D : Dyn) (s : Nat) (v : List Ent), dhr (xwi D s v) = dhr D) ∧ (∀ (D : Dyn) (s k : Nat) (v : List Ent), dhr (xke D s k v) = dhr D) ∧ (∀ (D : Dyn) (v : List (Nat × Int64 × Bool)), dhr (xti D v) = dhr D) ∧ (∀ (D : Dyn) (s : Nat) (v : Int64), dnow (xmk D s v) = dnow D) ∧ (∀ (D : Dyn) (s : Nat) (v : Bool), dnow (xid D s v) = dnow D) ∧ (∀ (D : Dyn) (s k : Nat) (v : Nat), dnow (xps D s k v) = dnow D) ∧ (∀ (D : Dyn) (s k : Nat) (v : Int64), dnow (xpr D s k v) = dnow D) ∧ (∀ (D : Dyn) (s k : Nat) (v : Int32), dnow (xhr D s k v) = dnow D) ∧ (∀ (D : Dyn) (v : Int32), dnow (xnow D v) = v) ∧ (∀ (D : Dyn) (v : List Row), dnow (xou D v) = dnow D) ∧ (∀ (D : Dyn) (v : List Row), dnow (xla D v) = dnow D) ∧ (∀ (D : Dyn) (v : Int32), dnow (xlo D v) = dnow D) ∧ (∀ (D : Dyn) (s : Nat) (v : List Ent), dnow (xwi D s v) = dnow D) ∧ (∀ (D : Dyn) (s k : Nat) (v : List Ent), dnow (xke D s k v) = dnow D) ∧ (∀ (D : Dyn) (v : List (Nat × Int64 × Bool)), dnow (xti D v) = dnow D) ∧ (∀ (D : Dyn) (s : Nat) (v : Int64), dou (xmk D s v) = dou D) ∧ (∀ (D : Dyn) (s : Nat) (v : Bool), dou (xid D s v) = dou D) ∧ (∀ (D : Dyn) (s k : Nat) (v : Nat), dou (xps D s k v) = dou D) ∧ (∀ (D : Dyn) (s k : Nat) (v : Int64), dou (xpr D s k v) = dou D) ∧ (∀ (D : Dyn) (s k : Nat) (v : Int32), dou (xhr D s k v) = dou D) ∧ (∀ (D : Dyn) (v : Int32), dou (xnow D v) = dou D) ∧ (∀ (D : Dyn) (v : List Row), dou (xou D v) = v) ∧ (∀ (D : Dyn) (v : List Row), dou (xla D v) = dou D) ∧ (∀ (D : Dyn) (v : Int32), dou (xlo D v) = dou D) ∧ (∀ (D : Dyn) (s : Nat) (v : List Ent), dou (xwi D s v) = dou D) ∧ (∀ (D : Dyn) (s k : Nat) (v : List Ent), dou (xke D s k v) = dou D) ∧ (∀ (D : Dyn) (v : List (Nat × Int64 × Bool)), dou (xti D v) = dou D) ∧ (∀ (D : Dyn) (s : Nat) (v : Int64), dla (xmk D s v) = dla D) ∧ (∀ (D : Dyn) (s : Nat) (v : Bool), dla (xid D s v) = dla D) ∧ (∀ (D : Dyn) (s k : Nat) (v : Nat), dla (xps D s k v) = dla D) ∧ (∀ (D : Dyn) (s k : Nat) (v : Int64), dla (xpr D s k v) = dla D) ∧ (∀ (D : Dyn) (s k : Nat) (v : Int32), dla (xhr D s k v) = dla D) ∧ (∀ (D : Dyn) (v : Int32), dla (xnow D v) = dla D) ∧ (∀ (D : Dyn) (v : List Row), dla (xou D v) = dla D) ∧ (∀ (D : Dyn) (v : List Row), dla (xla D v) = v) ∧ (∀ (D : Dyn) (v : Int32), dla (xlo D v) = dla D) ∧ (∀ (D : Dyn) (s : Nat) (v : List Ent), dla (xwi D s v) = dla D) ∧ (∀ (D : Dyn) (s k : Nat) (v : List Ent), dla (xke D s k v) = dla D) ∧ (∀ (D : Dyn) (v : List (Nat × Int64 × Bool)), dla (xti D v) = dla D) ∧ (∀ (D : Dyn) (s : Nat) (v : Int64), dlo (xmk D s v) = dlo D) ∧ (∀ (D : Dyn) (s : Nat) (v : Bool), dlo (xid D s v) = dlo D) ∧ (∀ (D : Dyn) (s k : Nat) (v : Nat), dlo (xps D s k v) = dlo D) ∧ (∀ (D : Dyn) (s k : Nat) (v : Int64), dlo (xpr D s k v) = dlo D) ∧ (∀ (D : Dyn) (s k : Nat) (v : Int32), dlo (xhr D s k v) = dlo D) ∧ (∀ (D : Dyn) (v : Int32), dlo (xnow D v) = dlo D) ∧ (∀ (D : Dyn) (v : List Row), dlo (xou D v) = dlo D) ∧ (∀ (D : Dyn) (v : List Row), dlo (xla D v) = dlo D) ∧ (∀ (D : Dyn) (v : Int32), dlo (xlo D v) = v) ∧ (∀ (D : Dyn) (s : Nat) (v : List Ent), dlo (xwi D s v) = dlo D) ∧ (∀ (D : Dyn) (s k : Nat) (v : List Ent), dlo (xke D s k v) = dlo D) ∧ (∀ (D : Dyn) (v : List (Nat × Int64 × Bool)), dlo (xti D v) = dlo D) ∧ (∀ (D : Dyn) (s : Nat) (v : Int64), dwi (xmk D s v) = dwi D) ∧ (∀ (D : Dyn) (s : Nat) (v : Bool), dwi (xid D s v) = dwi D) ∧ (∀ (D : Dyn) (s k : Nat) (v : Nat), dwi (xps D s k v) = dwi D) ∧ (∀ (D : Dyn) (s k : Nat) (v : Int64), dwi (xpr D s k v) = dwi D) ∧ (∀ (D : Dyn) (s k : Nat) (v : Int32), dwi (xhr D s k v) = dwi D) ∧ (∀ (D : Dyn) (v : Int32), dwi (xnow D v) = dwi D) ∧ (∀ (D : Dyn) (v : List Row), dwi (xou D v) = dwi D) ∧ (∀ (D : Dyn) (v : List Row), dwi (xla D v) = dwi D) ∧ (∀ (D : Dyn) (v : Int32), dwi (xlo D v) = dwi D) ∧ (∀ (D : Dyn) (s : Nat) (v : List Ent) (q : Nat), dwi (xwi D s v) q = if q = s then v else dwi D q) ∧ (∀ (D : Dyn) (s k : Nat) (v : List Ent), dwi (xke D s k v) = dwi D) ∧ (∀ (D : Dyn) (v : List (Nat × Int64 × Bool)), dwi (xti D v) = dwi D) ∧ (∀ (D : Dyn) (s : Nat) (v : Int64), dke (xmk D s v) = dke D) ∧ (∀ (D : Dyn) (s : Nat) (v : Bool), dke (xid D s v) = dke D) ∧ (∀ (D : Dyn) (s k : Nat) (v : Nat), dke (xps D s k v) = dke D) ∧ (∀ (D : Dyn) (s k : Nat) (v : Int64), dke (xpr D s k v) = dke D) ∧ (∀ (D : Dyn) (s k : Nat) (v : Int32), dke (xhr D s k v) = dke D) ∧ (∀ (D : Dyn) (v : Int32), dke (xnow D v) = dke D) ∧ (∀ (D : Dyn) (v : List Row), dke (xou D v) = dke D) ∧ (∀ (D : Dyn) (v : List Row), dke (xla D v) = dke D) ∧ (∀ (D : Dyn) (v : Int32), dke (xlo D v) = dke D) ∧ (∀ (D : Dyn) (s : Nat) (v : List Ent), dke (xwi D s v) = dke D) ∧ (∀ (D : Dyn) (s k : Nat) (v : List Ent) (q j : Nat), dke (xke D s k v) q j = if q = s then (if j = k then v else dke D q j) else dke D q j) ∧ (∀ (D : Dyn) (v : List (Nat × Int64 × Bool)), dke (xti D v) = dke D) ∧ (∀ (D : Dyn) (s : Nat) (v : Int64), dti (xmk D s v) = dti D) ∧ (∀ (D : Dyn) (s : Nat) (v : Bool), dti (xid D s v) = dti D) ∧ (∀ (D : Dyn) (s k : Nat) (v : Nat), dti (xps D s k v) = dti D) ∧ (∀ (D : Dyn) (s k : Nat) (v : Int64), dti (xpr D s k v) = dti D) ∧ (∀ (D : Dyn) (s k : Nat) (v : Int32), dti (xhr D s k v) = dti D) ∧ (∀ (D : Dyn) (v : Int32), dti (xnow D v) = dti D) ∧ (∀ (D : Dyn) (v : List Row), dti (xou D v) = dti D) ∧ (∀ (D : Dyn) (v : List Row), dti (xla D v) = dti D) ∧ (∀ (D : Dyn) (v : Int32), dti (xlo D v) = dti D) ∧ (∀ (D : Dyn) (s : Nat) (v : List Ent), dti (xwi D s v) = dti D) ∧ (∀ (D : Dyn) (s k : Nat) (v : List Ent), dti (xke D s k v) = dti D) ∧ (∀ (D : Dyn) (v : List (Nat × Int64 × Bool)), dti (xti D v) = v) := ⟨fun _ _ _ _ => rfl, fun _ _ _ => rfl, fun _ _ _ _ => rfl, fun _ _ _ _ => rfl, fun _ _ _ _ => rfl, fun _ _ => rfl, fun _ _ => rfl, fun _ _ => rfl, fun _ _ => rfl, fun _ _ _ => rfl, fun _ _ _ _ => rfl, fun _ _ => rfl, fun _ _ _ => rfl, fun _ _ _ _ => rfl, fun _ _ _ _ => rfl, fun _ _ _ _ => rfl, fun _ _ _ _ => rfl, fun _ _ => rfl, fun _ _ => rfl, fun _ _ => rfl, fun _ _ => rfl, fun _ _ _ => rfl, fun _ _ _ _ => rfl, fun _ _ => rfl, fun _ _ _ => rfl, fun _ _ _ => rfl, fun _ _ _ _ _ _ => rfl, fun _ _ _ _ => rfl, fun _ _ _ _ => rfl, fun _ _ => rfl, fun _ _ => rfl, fun _ _ => rfl, fun _ _ => rfl, fun _ _ _ => rfl, fun _ _ _ _ => rfl, fun _ _ => rfl, fun _ _ _ => rfl, fun _ _ _ => rfl, fun _ _ _ _ => rfl, fun _ _ _ _ _ _ => rfl, fun _ _ _ _ => rfl, fun _ _ => rfl, fun _ _ => rfl, fun _ _ => rfl, fun _ _ => rfl, fun _ _ _ => rfl, fun _ _ _ _ => rfl, fun _ _ => rfl, fun _ _ _ => rfl, fun _ _ _ => rfl, fun _ _ _ _ => rfl, fun _ _ _ _ => rfl, fun _ _ _ _ _ _ => rfl, fun _ _ => rfl, fun _ _ => rfl, fun _ _ => rfl, fun _ _ => rfl, fun _ _ _ => rfl, fun _ _ _ _ => rfl, fun _ _ => rfl, fun _ _ _ => rfl, fun _ _ _ => rfl, fun _ _ _ _ => rfl, fun _ _ _ _ => rfl, fun _ _ _ _ => rfl, fun _ _ => rfl, fun _ _ => rfl, fun _ _ => rfl, fun _ _ => rfl, fun _ _ _ => rfl, fun _ _ _ _ => rfl, fun _ _ => rfl, fun _ _ _ => rfl, fun _ _ _ => rfl, fun _ _ _ _ => rfl, fun _ _ _ _ => rfl, fun _ _ _ _ => rfl, fun _ _ => rfl, fun _ _ => rfl, fun _ _ => rfl, fun _ _ => rfl, fun _ _ _ => rfl, fun _ _ _ _ => rfl, fun _ _ => rfl, fun _ _ _ => rfl, fun _ _ _ => rfl, fun _ _ _ _ => rfl, fun _ _ _ _ => rfl, fun _ _ _ _ => rfl, fun _ _ => rfl, fun _ _ => rfl, fun _ _ => rfl, fun _ _ => rfl, fun _ _ _ => rfl, fun _ _ _ _ => rfl, fun _ _ => rfl, fun _ _ _ => rfl, fun _ _ _ => rfl, fun _ _ _ _ => rfl, fun _ _ _ _ => rfl, fun _ _ _ _ => rfl, fun _ _ => rfl, fun _ _ => rfl, fun _ _ => rfl, fun _ _ => rfl, fun _ _ _ => rfl, fun _ _ _ _ => rfl, fun _ _ => rfl, fun _ _ _ => rfl, fun _ _ _ => rfl, fun _ _ _ _ => rfl, fun _ _ _ _ => rfl, fun _ _ _ _ => rfl, fun _ _ => rfl, fun _ _ => rfl, fun _ _ => rfl, fun _ _ => rfl, fun _ _ _ _ => rfl, fun _ _ _ _ => rfl, fun _ _ => rfl, fun _ _ _ => rfl, fun _ _ _ => rfl, fun _ _ _ _ => rfl, fun _ _ _ _ => rfl, fun _ _ _ _ => rfl, fun _ _ => rfl, fun _ _ => rfl, fun _ _ => rfl, fun _ _ => rfl, fun _ _ _ => rfl, fun _ _ _ _ _ _ => rfl, fun _ _ => rfl, fun _ _ _ => rfl, fun _ _ _ => rfl, fun _ _ _ _ => rfl, fun _ _ _ _ => rfl, fun _ _ _ _ => rfl, fun _ _ => rfl, fun _ _ => rfl, fun _ _ => rfl, fun _ _ => rfl, fun _ _ _ => rfl, fun _ _ _ _ => rfl, fun _ _ => rfl⟩
def plusF (t n : Int64) : Int64 := if t = -9000000000000000000 then t else if t = 9000000000000000000 then t else if t + n ≤ 8000000000000000000 then (if -8000000000000000000 ≤ t + n then t + n else -8000000000000000000) else 8000000000000000000
def maxF (a b : Int64) : Int64 := if b < a then a else b
def minF (a b : Int64) : Int64 := if b < a then b else a
def fdF (x y : Int64) : Int64 := if (x ^^^ y) < 0 ∧ ¬ (x / y) * y = x then x / y - 1 else x / y
def a_out (D : Dyn) (r : Row) : Dyn := xou D (dou D ++ [r])
def a_late (D : Dyn) (r : Row) : Dyn := xla D (dla D ++ [r])
/-- the beginnings of the spans that have this time -/
def a_begs (t size step : Int64) : List Int64 := ([3, 2, 1, 0].map (fun j : Int64 => fdF t step * step - j * step)).filter (fun b => decide (t ≤ b + size - 1))
def a_ahead (b : Int64) (k : Int32) (e : Ent) : Bool := decide (e.1 < b) || (decide (e.1 = b) && decide (e.2.1 < k))
/-- the weight added to the sum at b and k; none if there is no room -/
def a_add (l : List Ent) (b : Int64) (k w : Int32) : Option (List Ent) := match l.dropWhile (a_ahead b k) with
  | [] => if 24 ≤ l.length then none else some (l.takeWhile (a_ahead b k) ++ [(b, k, w)])
  | x :: r => if x.1 = b ∧ x.2.1 = k then some (l.takeWhile (a_ahead b k) ++ (b, k, x.2.2 + w) :: r) else if 24 ≤ l.length then none else some (l.takeWhile (a_ahead b k) ++ (b, k, w) :: x :: r)
def a_put1 (D : Dyn) (s : Nat) (k w : Int32) (b : Int64) : Dyn := match a_add (dwi D s) b k w with
  | none => xlo D (dlo D + 1)
  | some l => xwi D s l
def a_put (C : Cfg) (D : Dyn) (s : Nat) (t : Int64) (k w : Int32) : Dyn := (a_begs t (co1 C s) (co2 C s)).foldl (fun D b => a_put1 D s k w b) D
def a_in (C : Cfg) (s i : Nat) : Nat := (cin C s).getD i 0
def a_far (C : Cfg) (D : Dyn) (s side : Nat) (t : Int64) : Bool := if side = 0 then decide (plusF t (co2 C s) ≤ dmk D (a_in C s 1)) else decide (plusF t (-(co1 C s)) ≤ dmk D (a_in C s 0))
def a_keep (D : Dyn) (s side : Nat) (e : Ent) : Dyn := if (dke D s side).length = 6 then xlo (xke D s side ((dke D s side).drop 1 ++ [e])) (dlo D + 1) else xke D s side (dke D s side ++ [e])
def a_meets (C : Cfg) (s side : Nat) (t : Int64) (k : Int32) (e : Ent) : Bool := decide (e.2.1 = k) && (decide (plusF (if side = 0 then t else e.1) (co1 C s) ≤ (if side = 0 then e.1 else t)) && decide ((if side = 0 then e.1 else t) ≤ plusF (if side = 0 then t else e.1) (co2 C s)))
def a_tm (C : Cfg) (time : Int64) (to : Nat) : Int64 := if ckd C to = 2 then plusF time (co1 C to) else time
def a_sd (C : Cfg) (to s : Nat) : Nat := if a_in C to 0 = s then 0 else 1
def a_meetL (C : Cfg) (P : Dyn → Nat → Int64 → Int32 → Int32 → Dyn) (to side : Nat) (t : Int64) (k w : Int32) (l : List Ent) (D : Dyn) : Dyn := l.foldl (fun D e => if a_meets C to side t k e = true then P D to (maxF t e.1) k (w * e.2.2) else D) D
def a_come (C : Cfg) (P : Dyn → Nat → Int64 → Int32 → Int32 → Dyn) (D : Dyn) (to side : Nat) (t : Int64) (k w : Int32) : Dyn := if a_far C D to side t = true then a_meetL C P to side t k w (dke D to (1 - side)) D else a_keep (a_meetL C P to side t k w (dke D to (1 - side)) D) to side (t, k, w)
def a_pass (C : Cfg) : Nat → Dyn → Nat → Int64 → Int32 → Int32 → Dyn
  | 0, D, _, _, _, _ => D
  | d + 1, D, s, time, k, w => match ctk C s with
    | none => a_out D (s, time, k, w)
    | some to =>
      if a_tm C time to ≤ dmk D to then a_late D (to, a_tm C time to, k, w)
      else if ckd C to = 4 then a_come C (a_pass C d) D to (a_sd C to s) time k w
      else if ckd C to = 5 then a_put C D to time k w
      else a_pass C d D to (a_tm C time to) k w
def a_least (o : Option Int64) (v : Int64) : Option Int64 := match o with
  | none => some v
  | some g => some (if v < g then v else g)
def a_srcG (D : Dyn) (s : Nat) : Nat → Option Int64
  | 0 => none
  | k + 1 => if dps D s k = 0 then a_least (a_srcG D s k) (dpr D s k) else a_srcG D s k
def a_allE (D : Dyn) (s n : Nat) : Bool := (List.range n).all (fun k => decide (dps D s k = 2))
def a_inG (D : Dyn) (l : List Nat) : Option Int64 := l.foldl (fun o i => if did D i = false ∧ ¬ dmk D i = 9000000000000000000 then a_least o (dmk D i) else o) none
def a_holdG (D : Dyn) (s : Nat) : Option Int64 := (dti D).foldl (fun o x => if x.2.2 = true ∧ x.1 = s then a_least o (plusF x.2.1 (-1)) else o) none
def a_goal (C : Cfg) (D : Dyn) (s : Nat) : Option Int64 :=
  if ckd C s = 0 then (if a_allE D s (cpt C s) then a_least (a_srcG D s (cpt C s)) 9000000000000000000 else a_srcG D s (cpt C s))
  else if ckd C s = 1 ∨ ckd C s = 4 then (if (cin C s).all (fun i => decide (dmk D i = 9000000000000000000)) then a_least (a_inG D (cin C s)) 9000000000000000000 else a_inG D (cin C s))
  else if ckd C s = 3 then (match a_holdG D s with
    | none => if did D (a_in C s 0) then none else some (dmk D (a_in C s 0))
    | some g => a_least (some g) (if did D (a_in C s 0) then dmk D s else dmk D (a_in C s 0)))
  else if did D (a_in C s 0) then none else some (if ckd C s = 2 then plusF (dmk D (a_in C s 0)) (co1 C s) else dmk D (a_in C s 0))
def a_close (C : Cfg) (s : Nat) : Nat → Dyn → Dyn
  | 0, D => D
  | n + 1, D => match dwi D s with
    | [] => D
    | e :: l => if plusF e.1 (co1 C s - 1) ≤ dmk D s then a_close C s n (a_pass C 30 (xwi D s l) s (plusF e.1 (co1 C s - 1)) e.2.1 e.2.2) else D
def a_drop (C : Cfg) (D : Dyn) (s side : Nat) : Dyn := xke D s side ((dke D s side).filter (fun e => !(a_far C D s side e.1)))
def a_raise (D : Dyn) (s : Nat) (g : Option Int64) : Dyn := match g with
  | none => xid D s true
  | some v => if dmk D s < v then xmk (xid D s false) s v else xid D s false
def a_step (C : Cfg) (D : Dyn) (s : Nat) : Dyn :=
  if ckd C s = 5 then a_close C s (dwi D s).length (a_raise D s (a_goal C D s))
  else if ckd C s = 4 then a_drop C (a_drop C (a_raise D s (a_goal C D s)) s 0) s 1
  else a_raise D s (a_goal C D s)
def a_reckN (C : Cfg) (D : Dyn) : Nat → Dyn
  | 0 => D
  | n + 1 => a_step C (a_reckN C D n) n
def a_reckon (C : Cfg) (D : Dyn) : Dyn := a_reckN C D (cn C)
def a_minS (D : Dyn) (s : Nat) (v : Int64) : Nat → Int64
  | 0 => v
  | k + 1 => if dps D s k = 0 then minF (a_minS D s v k) (dpr D s k) else a_minS D s v k
def a_minG (C : Cfg) (D : Dyn) (g : Nat) : Nat → Int64
  | 0 => 9000000000000000000
  | q + 1 => if ckd C q = 0 ∧ cgr C q = some g then a_minS D q (a_minG C D g q) (cpt C q) else a_minG C D g q
def a_stop (C : Cfg) (D : Dyn) (s k : Nat) : Bool := decide (dps D s k = 0) && (match cgr C s with
  | none => false
  | some g => match csp C g with
    | none => false
    | some v => decide (plusF (a_minG C D g (cn C)) v < dpr D s k))
def a_hear (D : Dyn) (s k : Nat) : Dyn := xhr (xps D s k 0) s k (dnow D)
