def NSE : String := "java/util/NoSuchElementException"
def nseN : List String := ["java/lang/RuntimeException", "java/lang/Exception"]
theorem px1 : (vx_atS RX11 157 NSE nseN).filter (fun w => !goodWord w) = [] := by decide +kernel
theorem px2 : (vx_atS RX11 157 NSE nseN).filter (fun w => !lw_tbl.contains w) = [] := by decide +kernel
