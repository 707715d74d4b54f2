/-! whole numbers as ints -/
def iI (z : Int) : Int32 := Int32.ofInt z
def iJ (z : Int) : Int64 := Int64.ofInt z
theorem iI_t {z : Int} (h1 : -2147483648 ≤ z) (h2 : z < 2147483648) : (iI z).toInt = z := Int32.toInt_ofInt_of_le (by simpa using h1) (by simpa using h2)
theorem iI_add (a c : Int) : iI a + iI c = iI (a + c) := (Int32.ofInt_add a c).symm
theorem iI_sub (a c : Int) : iI a - iI c = iI (a - c) := (Int32.ofInt_sub a c).symm
theorem iI_mul (a c : Int) : iI a * iI c = iI (a * c) := (Int32.ofInt_mul a c).symm
theorem iI_neg (a : Int) : -iI a = iI (-a) := (Int32.ofInt_neg a).symm
theorem iI_of (x : Int32) : x = iI x.toInt := (Int32.ofInt_toInt x).symm
theorem iI_lt {a c : Int} (h1 : -2147483648 ≤ a) (h2 : a < 2147483648) (h3 : -2147483648 ≤ c) (h4 : c < 2147483648) : iI a < iI c ↔ a < c := by
  rw [Int32.lt_iff_toInt_lt, iI_t h1 h2, iI_t h3 h4]
theorem iI_le {a c : Int} (h1 : -2147483648 ≤ a) (h2 : a < 2147483648) (h3 : -2147483648 ≤ c) (h4 : c < 2147483648) : iI a ≤ iI c ↔ a ≤ c := by
  rw [Int32.le_iff_toInt_le, iI_t h1 h2, iI_t h3 h4]
theorem iI_eq {a c : Int} (h1 : -2147483648 ≤ a) (h2 : a < 2147483648) (h3 : -2147483648 ≤ c) (h4 : c < 2147483648) : iI a = iI c ↔ a = c := by
  constructor
  · intro h; rw [← iI_t h1 h2, ← iI_t h3 h4, h]
  · intro h; rw [h]
theorem iI_cl {z : Int} (h1 : 0 ≤ z) (h2 : z < 2147483648) : (iI z).toNatClampNeg = z.toNat := by
  show (iI z).toInt.toNat = _
  rw [iI_t (by omega) h2]
theorem iI_in {z : Int} {n : Nat} (h1 : 0 ≤ z) (h2 : z < n) (h3 : n < 2147483648) : vp_in (iI z) n := by
  rw [vp_in_iff, iI_t (by omega) (by omega)]; omega
theorem iI_0 : (0 : Int32) = iI 0 := by decide
theorem iI_1 : (1 : Int32) = iI 1 := by decide
theorem iI_m1 : (-1 : Int32) = iI (-1) := by decide
theorem nI_iI (n : Nat) : nI n = iI n := by
  show Int32.ofNat n = Int32.ofInt n
  rfl
