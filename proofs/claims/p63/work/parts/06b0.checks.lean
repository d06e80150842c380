/-! CHECKS OF THE CODE of a long method, in pieces. By program (wip/p63/gen4.py). -/
set_option maxRecDepth 100000 in
theorem pk_151_000000 : pAll 5 (pLeaf 151) 0 64 pI_151.1.1.1.1.1.1 = true := by decide +kernel
set_option maxRecDepth 100000 in
theorem pk_151_000100 : pAll 5 (pLeaf 151) 8 64 pI_151.1.1.1.2.1.1 = true := by decide +kernel
set_option maxRecDepth 100000 in
theorem pk_151_001000 : pAll 5 (pLeaf 151) 4 64 pI_151.1.1.2.1.1.1 = true := by decide +kernel
set_option maxRecDepth 100000 in
theorem pk_151_001100 : pAll 5 (pLeaf 151) 12 64 pI_151.1.1.2.2.1.1 = true := by decide +kernel
set_option maxRecDepth 100000 in
theorem pk_151_010000 : pAll 5 (pLeaf 151) 2 64 pI_151.1.2.1.1.1.1 = true := by decide +kernel
set_option maxRecDepth 100000 in
theorem pk_151_010100 : pAll 5 (pLeaf 151) 10 64 pI_151.1.2.1.2.1.1 = true := by decide +kernel
set_option maxRecDepth 100000 in
theorem pk_151_011000 : pAll 5 (pLeaf 151) 6 64 pI_151.1.2.2.1.1.1 = true := by decide +kernel
set_option maxRecDepth 100000 in
theorem pk_151_011100 : pAll 5 (pLeaf 151) 14 64 pI_151.1.2.2.2.1.1 = true := by decide +kernel
set_option maxRecDepth 100000 in
theorem pk_151_100000 : pAll 5 (pLeaf 151) 1 64 pI_151.2.1.1.1.1.1 = true := by decide +kernel
set_option maxRecDepth 100000 in
theorem pk_151_100100 : pAll 5 (pLeaf 151) 9 64 pI_151.2.1.1.2.1.1 = true := by decide +kernel
set_option maxRecDepth 100000 in
theorem pk_151_101000 : pAll 5 (pLeaf 151) 5 64 pI_151.2.1.2.1.1.1 = true := by decide +kernel
set_option maxRecDepth 100000 in
theorem pk_151_101100 : pAll 5 (pLeaf 151) 13 64 pI_151.2.1.2.2.1.1 = true := by decide +kernel
set_option maxRecDepth 100000 in
theorem pk_151_110000 : pAll 5 (pLeaf 151) 3 64 pI_151.2.2.1.1.1.1 = true := by decide +kernel
set_option maxRecDepth 100000 in
theorem pk_151_110100 : pAll 5 (pLeaf 151) 11 64 pI_151.2.2.1.2.1.1 = true := by decide +kernel
set_option maxRecDepth 100000 in
theorem pk_151_111000 : pAll 5 (pLeaf 151) 7 64 pI_151.2.2.2.1.1.1 = true := by decide +kernel
set_option maxRecDepth 100000 in
theorem pk_151_111100 : pAll 5 (pLeaf 151) 15 64 pI_151.2.2.2.2.1.1 = true := by decide +kernel
