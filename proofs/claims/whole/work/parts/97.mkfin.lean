/-! ===== the law's head, run: what stands when its loop begins ===== -/
def ob_x0 : ob_X := (0, 601024, 7293034, ox_in 7 [.inr (.inr (122, 0, 0))], [], [])
def ob_fin : Option ob_X := ob_to m_mk_L (ob_zz ob_ms 3) ob_ms 23 100 ob_x0
def ob_xf : ob_X := ob_fin.getD ob_x0
set_option maxRecDepth 100000 in
theorem ob_fin_ok : (ob_fin.isSome && Nat.ble 130 ob_xf.2.2.2.2.2.length && Nat.ble 600000 ob_xf.2.1 && Nat.ble 7200000 ob_xf.2.2.1) = true := by decide +kernel
