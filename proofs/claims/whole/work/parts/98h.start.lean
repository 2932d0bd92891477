/-! ===== the first heap ===== -/
def h00 : HS := ((32, 0), (fun _ => 0), (fun _ => 0), (fun _ _ => 0), (fun _ _ => 0), (fun _ _ => none))
def gX : Option HS := f_X11_init 32 (hNew h00 13 0 20)
def gM : Option HS := gX.bind (fun q => f_X12_init 60 (hNew q 14 0 57))
set_option maxRecDepth 100000 in
theorem st_gX : gX.map (fun h => hN h) = some 60 := by decide +kernel
