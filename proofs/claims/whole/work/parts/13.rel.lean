/-- a frame of the class and one of the reference that say the same: n pins, nb bars -/
def FrR (n nb : Nat) (pins bars : Int32) (names lesser greater : Nat → Int32) (mpins mbars : Int32) (mname mlow mhigh : Nat → Int32) : Prop :=
  n ≤ 12 ∧ nb ≤ 24 ∧ pins = nI n ∧ bars = nI nb ∧ mpins = nI n ∧ mbars = nI nb ∧
  (∀ b, b < nb → ∃ p q : Nat, p < q ∧ q < n ∧ lesser b = nI p ∧ greater b = nI q ∧ mlow b = nI p ∧ mhigh b = nI q) ∧
  (∀ b c, b < nb → c < nb → lesser b = lesser c → greater b = greater c → b = c) ∧
  (∀ p, p < n → ∃ w : List Nat, w ≠ [] ∧ w.length ≤ 4 ∧ (∀ x ∈ w, 97 ≤ x ∧ x ≤ 122) ∧ names p = nI (w.foldl (fun a x => a * 256 + x) 0) ∧ ∀ i, i < 4 → mname (4 * p + i) = nI (w.getD i 0))
/-- an item of a sheet: of bytes the class keeps 0 .. 255, the reference -128 .. 127 -/
def ItR (sort c m : Int32) : Prop := if sort = 0 then c = m &&& 255 ∧ m = m.toInt8.toInt32 else c = m
def Rel (fr_pins fr_bars : Int32) (fr_names fr_lesser fr_greater : Nat → Int32) (kp_pins kp_bars : Int32) (kp_names kp_lesser kp_greater : Nat → Int32) (v_isKept : Int32) (tp_bytes : Nat → Int32) (tp_size : Int32) (sS sZ : Nat → Int32) (sI : Nat → Nat → Int32) (m_pins m_bars m_taped : Int32) (m_name m_low m_high m_tape : Nat → Int32) (m_imagePins m_imageBars : Int32) (m_imageName m_imageLow m_imageHigh : Nat → Int32) (m_isKept : Int32) (m_sort m_items m_item : Nat → Int32) : Prop :=
  (∃ n nb, FrR n nb fr_pins fr_bars fr_names fr_lesser fr_greater m_pins m_bars m_name m_low m_high) ∧
  (v_isKept = 0 ∨ v_isKept = 1) ∧ m_isKept = v_isKept ∧
  (v_isKept = 1 → ∃ n nb, FrR n nb kp_pins kp_bars kp_names kp_lesser kp_greater m_imagePins m_imageBars m_imageName m_imageLow m_imageHigh) ∧
  (∃ t : Nat, t ≤ 30 ∧ tp_size = nI t ∧ m_taped = nI t ∧ ∀ i, i < t → tp_bytes i = m_tape i) ∧
  (∀ j, j < 4 → (sS j = -1 ∨ sS j = 0 ∨ sS j = 1) ∧ m_sort j = sS j ∧ ∃ z : Nat, z ≤ 40 ∧ sZ j = nI z ∧ m_items j = nI z ∧ (sS j = -1 → z = 0) ∧ ∀ i, i < z → ItR (sS j) (sI j i) (m_item (40 * j + i)))
